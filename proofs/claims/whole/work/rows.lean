section
-- ===== PART A: goes FIRST, ahead of the names: the tables' words, and 'selects' of the private methods out of them =====
/-- a private method of a class that the tables say can be made, by its rows of tables_1 -/
def lw_okq (q : MethodName × Nat) : Prop := (q.1.cls ≠ "java/lang/invoke/MethodHandle" ∧ q.1.cls ≠ "java/lang/invoke/VarHandle") ∧ Cond.instantiable q.1.cls q.2 ∈ tables_1 ∧ Cond.privateMethod q.1 ∈ tables_1 ∧ Cond.instanceMethod q.1 ∈ tables_1
theorem lw_p0 : lw_okq (⟨"LoopsBelow", "error", "(I)I"⟩, 11) := ⟨⟨by decide +kernel, by decide +kernel⟩, List.mem_of_getElem? (i := 21) (by decide +kernel), List.mem_of_getElem? (i := 340) (by decide +kernel), List.mem_of_getElem? (i := 341) (by decide +kernel)⟩
theorem lw_p1 : lw_okq (⟨"LoopsBelow", "hasCloth", "(I)Z"⟩, 11) := ⟨⟨by decide +kernel, by decide +kernel⟩, List.mem_of_getElem? (i := 21) (by decide +kernel), List.mem_of_getElem? (i := 379) (by decide +kernel), List.mem_of_getElem? (i := 380) (by decide +kernel)⟩
theorem lw_p2 : lw_okq (⟨"LoopsBelow", "gaugeOf", "(I)LLoopsBelow$Gauge;"⟩, 11) := ⟨⟨by decide +kernel, by decide +kernel⟩, List.mem_of_getElem? (i := 21) (by decide +kernel), List.mem_of_getElem? (i := 383) (by decide +kernel), List.mem_of_getElem? (i := 384) (by decide +kernel)⟩
theorem lw_p3 : lw_okq (⟨"LoopsBelow$Gauge", "limitAt", "(I)I"⟩, 5) := ⟨⟨by decide +kernel, by decide +kernel⟩, List.mem_of_getElem? (i := 170) (by decide +kernel), List.mem_of_getElem? (i := 437) (by decide +kernel), List.mem_of_getElem? (i := 438) (by decide +kernel)⟩
theorem lw_p4 : lw_okq (⟨"LoopsBelow$TextReader", "readLevel", "(II)Z"⟩, 6) := ⟨⟨by decide +kernel, by decide +kernel⟩, List.mem_of_getElem? (i := 226) (by decide +kernel), List.mem_of_getElem? (i := 479) (by decide +kernel), List.mem_of_getElem? (i := 480) (by decide +kernel)⟩
theorem lw_p5 : lw_okq (⟨"LoopsBelow$TextReader", "readSingle", "(I)Z"⟩, 6) := ⟨⟨by decide +kernel, by decide +kernel⟩, List.mem_of_getElem? (i := 226) (by decide +kernel), List.mem_of_getElem? (i := 483) (by decide +kernel), List.mem_of_getElem? (i := 484) (by decide +kernel)⟩
theorem lw_p6 : lw_okq (⟨"LoopsBelow$TextReader", "here", "()I"⟩, 6) := ⟨⟨by decide +kernel, by decide +kernel⟩, List.mem_of_getElem? (i := 226) (by decide +kernel), List.mem_of_getElem? (i := 487) (by decide +kernel), List.mem_of_getElem? (i := 488) (by decide +kernel)⟩
theorem lw_p7 : lw_okq (⟨"LoopsBelow$TextReader", "readNumber", "()V"⟩, 6) := ⟨⟨by decide +kernel, by decide +kernel⟩, List.mem_of_getElem? (i := 226) (by decide +kernel), List.mem_of_getElem? (i := 491) (by decide +kernel), List.mem_of_getElem? (i := 492) (by decide +kernel)⟩
theorem lw_p8 : lw_okq (⟨"LoopsBelow$TextReader", "add", "(I)V"⟩, 6) := ⟨⟨by decide +kernel, by decide +kernel⟩, List.mem_of_getElem? (i := 226) (by decide +kernel), List.mem_of_getElem? (i := 495) (by decide +kernel), List.mem_of_getElem? (i := 496) (by decide +kernel)⟩
theorem lw_p9 : lw_okq (⟨"LoopsBelow$TextReader", "readDenied", "(I)Z"⟩, 6) := ⟨⟨by decide +kernel, by decide +kernel⟩, List.mem_of_getElem? (i := 226) (by decide +kernel), List.mem_of_getElem? (i := 581) (by decide +kernel), List.mem_of_getElem? (i := 582) (by decide +kernel)⟩
theorem lw_p10 : lw_okq (⟨"LoopsBelow$TextReader", "readEnclosed", "(I)Z"⟩, 6) := ⟨⟨by decide +kernel, by decide +kernel⟩, List.mem_of_getElem? (i := 226) (by decide +kernel), List.mem_of_getElem? (i := 585) (by decide +kernel), List.mem_of_getElem? (i := 586) (by decide +kernel)⟩
theorem lw_p11 : lw_okq (⟨"LoopsBelow$TextReader", "operatorIsOf", "(I)Z"⟩, 6) := ⟨⟨by decide +kernel, by decide +kernel⟩, List.mem_of_getElem? (i := 226) (by decide +kernel), List.mem_of_getElem? (i := 589) (by decide +kernel), List.mem_of_getElem? (i := 590) (by decide +kernel)⟩
theorem lw_p12 : lw_okq (⟨"LoopsBelow", "refreshGauges", "()V"⟩, 11) := ⟨⟨by decide +kernel, by decide +kernel⟩, List.mem_of_getElem? (i := 21) (by decide +kernel), List.mem_of_getElem? (i := 655) (by decide +kernel), List.mem_of_getElem? (i := 656) (by decide +kernel)⟩
theorem lw_p13 : lw_okq (⟨"LoopsBelow", "evening", "()I"⟩, 11) := ⟨⟨by decide +kernel, by decide +kernel⟩, List.mem_of_getElem? (i := 21) (by decide +kernel), List.mem_of_getElem? (i := 659) (by decide +kernel), List.mem_of_getElem? (i := 660) (by decide +kernel)⟩
theorem lw_p14 : lw_okq (⟨"LoopsBelow", "cheapestCure", "(LLoopsBelow$Gauge;)I"⟩, 11) := ⟨⟨by decide +kernel, by decide +kernel⟩, List.mem_of_getElem? (i := 21) (by decide +kernel), List.mem_of_getElem? (i := 689) (by decide +kernel), List.mem_of_getElem? (i := 690) (by decide +kernel)⟩
theorem lw_p15 : lw_okq (⟨"LoopsBelow", "thinkOfDeeds", "(I)V"⟩, 11) := ⟨⟨by decide +kernel, by decide +kernel⟩, List.mem_of_getElem? (i := 21) (by decide +kernel), List.mem_of_getElem? (i := 693) (by decide +kernel), List.mem_of_getElem? (i := 694) (by decide +kernel)⟩
def lw_privs_1 : List (MethodName × Nat) := [(⟨"LoopsBelow", "error", "(I)I"⟩, 11), (⟨"LoopsBelow", "hasCloth", "(I)Z"⟩, 11), (⟨"LoopsBelow", "gaugeOf", "(I)LLoopsBelow$Gauge;"⟩, 11), (⟨"LoopsBelow$Gauge", "limitAt", "(I)I"⟩, 5), (⟨"LoopsBelow$TextReader", "readLevel", "(II)Z"⟩, 6), (⟨"LoopsBelow$TextReader", "readSingle", "(I)Z"⟩, 6), (⟨"LoopsBelow$TextReader", "here", "()I"⟩, 6), (⟨"LoopsBelow$TextReader", "readNumber", "()V"⟩, 6), (⟨"LoopsBelow$TextReader", "add", "(I)V"⟩, 6), (⟨"LoopsBelow$TextReader", "readDenied", "(I)Z"⟩, 6), (⟨"LoopsBelow$TextReader", "readEnclosed", "(I)Z"⟩, 6), (⟨"LoopsBelow$TextReader", "operatorIsOf", "(I)Z"⟩, 6), (⟨"LoopsBelow", "refreshGauges", "()V"⟩, 11), (⟨"LoopsBelow", "evening", "()I"⟩, 11), (⟨"LoopsBelow", "cheapestCure", "(LLoopsBelow$Gauge;)I"⟩, 11), (⟨"LoopsBelow", "thinkOfDeeds", "(I)V"⟩, 11)]
theorem lw_r1 : ∀ q ∈ lw_privs_1, lw_okq q := List.forall_mem_cons.mpr ⟨lw_p0, List.forall_mem_cons.mpr ⟨lw_p1, List.forall_mem_cons.mpr ⟨lw_p2, List.forall_mem_cons.mpr ⟨lw_p3, List.forall_mem_cons.mpr ⟨lw_p4, List.forall_mem_cons.mpr ⟨lw_p5, List.forall_mem_cons.mpr ⟨lw_p6, List.forall_mem_cons.mpr ⟨lw_p7, List.forall_mem_cons.mpr ⟨lw_p8, List.forall_mem_cons.mpr ⟨lw_p9, List.forall_mem_cons.mpr ⟨lw_p10, List.forall_mem_cons.mpr ⟨lw_p11, List.forall_mem_cons.mpr ⟨lw_p12, List.forall_mem_cons.mpr ⟨lw_p13, List.forall_mem_cons.mpr ⟨lw_p14, List.forall_mem_cons.mpr ⟨lw_p15, fun _ h => absurd h List.not_mem_nil⟩⟩⟩⟩⟩⟩⟩⟩⟩⟩⟩⟩⟩⟩⟩⟩
theorem lw_p16 : lw_okq (⟨"LoopsBelow", "cureSeconds", "(III)I"⟩, 11) := ⟨⟨by decide +kernel, by decide +kernel⟩, List.mem_of_getElem? (i := 21) (by decide +kernel), List.mem_of_getElem? (i := 698) (by decide +kernel), List.mem_of_getElem? (i := 699) (by decide +kernel)⟩
theorem lw_p17 : lw_okq (⟨"LoopsBelow", "tellsOfAllCloths", "(LLoopsBelow$Sheet;)Z"⟩, 11) := ⟨⟨by decide +kernel, by decide +kernel⟩, List.mem_of_getElem? (i := 21) (by decide +kernel), List.mem_of_getElem? (i := 716) (by decide +kernel), List.mem_of_getElem? (i := 717) (by decide +kernel)⟩
theorem lw_p18 : lw_okq (⟨"LoopsBelow", "prepareGuesses", "()V"⟩, 11) := ⟨⟨by decide +kernel, by decide +kernel⟩, List.mem_of_getElem? (i := 21) (by decide +kernel), List.mem_of_getElem? (i := 724) (by decide +kernel), List.mem_of_getElem? (i := 725) (by decide +kernel)⟩
theorem lw_p19 : lw_okq (⟨"LoopsBelow", "showsAsTold", "(LLoopsBelow$Sheet;)Z"⟩, 11) := ⟨⟨by decide +kernel, by decide +kernel⟩, List.mem_of_getElem? (i := 21) (by decide +kernel), List.mem_of_getElem? (i := 732) (by decide +kernel), List.mem_of_getElem? (i := 733) (by decide +kernel)⟩
theorem lw_p20 : lw_okq (⟨"LoopsBelow", "tallyAll", "()V"⟩, 11) := ⟨⟨by decide +kernel, by decide +kernel⟩, List.mem_of_getElem? (i := 21) (by decide +kernel), List.mem_of_getElem? (i := 741) (by decide +kernel), List.mem_of_getElem? (i := 742) (by decide +kernel)⟩
theorem lw_p21 : lw_okq (⟨"LoopsBelow", "greatestTally", "(I)I"⟩, 11) := ⟨⟨by decide +kernel, by decide +kernel⟩, List.mem_of_getElem? (i := 21) (by decide +kernel), List.mem_of_getElem? (i := 745) (by decide +kernel), List.mem_of_getElem? (i := 746) (by decide +kernel)⟩
theorem lw_p22 : lw_okq (⟨"LoopsBelow$RowSearch", "extend", "(IIII)V"⟩, 7) := ⟨⟨by decide +kernel, by decide +kernel⟩, List.mem_of_getElem? (i := 196) (by decide +kernel), List.mem_of_getElem? (i := 763) (by decide +kernel), List.mem_of_getElem? (i := 764) (by decide +kernel)⟩
theorem lw_p23 : lw_okq (⟨"LoopsBelow$RowSearch", "sewOn", "(LLoopsBelow$Gauge;)I"⟩, 7) := ⟨⟨by decide +kernel, by decide +kernel⟩, List.mem_of_getElem? (i := 196) (by decide +kernel), List.mem_of_getElem? (i := 767) (by decide +kernel), List.mem_of_getElem? (i := 768) (by decide +kernel)⟩
theorem lw_p24 : lw_okq (⟨"LoopsBelow$Choir", "speak", "(IIII)I"⟩, 5) := ⟨⟨by decide +kernel, by decide +kernel⟩, List.mem_of_getElem? (i := 255) (by decide +kernel), List.mem_of_getElem? (i := 794) (by decide +kernel), List.mem_of_getElem? (i := 795) (by decide +kernel)⟩
theorem lw_p25 : lw_okq (⟨"LoopsBelow$Choir", "note", "(I)V"⟩, 5) := ⟨⟨by decide +kernel, by decide +kernel⟩, List.mem_of_getElem? (i := 255) (by decide +kernel), List.mem_of_getElem? (i := 804) (by decide +kernel), List.mem_of_getElem? (i := 805) (by decide +kernel)⟩
theorem lw_p26 : lw_okq (⟨"LoopsBelowModel", "errs", "(I)I"⟩, 27) := ⟨⟨by decide +kernel, by decide +kernel⟩, List.mem_of_getElem? (i := 892) (by decide +kernel), List.mem_of_getElem? (i := 988) (by decide +kernel), List.mem_of_getElem? (i := 989) (by decide +kernel)⟩
theorem lw_p27 : lw_okq (⟨"LoopsBelowModel", "becomes", "(II)I"⟩, 27) := ⟨⟨by decide +kernel, by decide +kernel⟩, List.mem_of_getElem? (i := 892) (by decide +kernel), List.mem_of_getElem? (i := 993) (by decide +kernel), List.mem_of_getElem? (i := 994) (by decide +kernel)⟩
theorem lw_p28 : lw_okq (⟨"LoopsBelowModel", "gets", "(III)V"⟩, 27) := ⟨⟨by decide +kernel, by decide +kernel⟩, List.mem_of_getElem? (i := 892) (by decide +kernel), List.mem_of_getElem? (i := 1006) (by decide +kernel), List.mem_of_getElem? (i := 1007) (by decide +kernel)⟩
theorem lw_p29 : lw_okq (⟨"LoopsBelowModel", "isCloth", "(I)Z"⟩, 27) := ⟨⟨by decide +kernel, by decide +kernel⟩, List.mem_of_getElem? (i := 892) (by decide +kernel), List.mem_of_getElem? (i := 1014) (by decide +kernel), List.mem_of_getElem? (i := 1015) (by decide +kernel)⟩
theorem lw_p30 : lw_okq (⟨"LoopsBelowModel", "wants", "(I)I"⟩, 27) := ⟨⟨by decide +kernel, by decide +kernel⟩, List.mem_of_getElem? (i := 892) (by decide +kernel), List.mem_of_getElem? (i := 1018) (by decide +kernel), List.mem_of_getElem? (i := 1019) (by decide +kernel)⟩
theorem lw_p31 : lw_okq (⟨"LoopsBelowModel", "its", "(II)I"⟩, 27) := ⟨⟨by decide +kernel, by decide +kernel⟩, List.mem_of_getElem? (i := 892) (by decide +kernel), List.mem_of_getElem? (i := 1022) (by decide +kernel), List.mem_of_getElem? (i := 1023) (by decide +kernel)⟩
def lw_privs_2 : List (MethodName × Nat) := [(⟨"LoopsBelow", "cureSeconds", "(III)I"⟩, 11), (⟨"LoopsBelow", "tellsOfAllCloths", "(LLoopsBelow$Sheet;)Z"⟩, 11), (⟨"LoopsBelow", "prepareGuesses", "()V"⟩, 11), (⟨"LoopsBelow", "showsAsTold", "(LLoopsBelow$Sheet;)Z"⟩, 11), (⟨"LoopsBelow", "tallyAll", "()V"⟩, 11), (⟨"LoopsBelow", "greatestTally", "(I)I"⟩, 11), (⟨"LoopsBelow$RowSearch", "extend", "(IIII)V"⟩, 7), (⟨"LoopsBelow$RowSearch", "sewOn", "(LLoopsBelow$Gauge;)I"⟩, 7), (⟨"LoopsBelow$Choir", "speak", "(IIII)I"⟩, 5), (⟨"LoopsBelow$Choir", "note", "(I)V"⟩, 5), (⟨"LoopsBelowModel", "errs", "(I)I"⟩, 27), (⟨"LoopsBelowModel", "becomes", "(II)I"⟩, 27), (⟨"LoopsBelowModel", "gets", "(III)V"⟩, 27), (⟨"LoopsBelowModel", "isCloth", "(I)Z"⟩, 27), (⟨"LoopsBelowModel", "wants", "(I)I"⟩, 27), (⟨"LoopsBelowModel", "its", "(II)I"⟩, 27)]
theorem lw_r2 : ∀ q ∈ lw_privs_2, lw_okq q := List.forall_mem_cons.mpr ⟨lw_p16, List.forall_mem_cons.mpr ⟨lw_p17, List.forall_mem_cons.mpr ⟨lw_p18, List.forall_mem_cons.mpr ⟨lw_p19, List.forall_mem_cons.mpr ⟨lw_p20, List.forall_mem_cons.mpr ⟨lw_p21, List.forall_mem_cons.mpr ⟨lw_p22, List.forall_mem_cons.mpr ⟨lw_p23, List.forall_mem_cons.mpr ⟨lw_p24, List.forall_mem_cons.mpr ⟨lw_p25, List.forall_mem_cons.mpr ⟨lw_p26, List.forall_mem_cons.mpr ⟨lw_p27, List.forall_mem_cons.mpr ⟨lw_p28, List.forall_mem_cons.mpr ⟨lw_p29, List.forall_mem_cons.mpr ⟨lw_p30, List.forall_mem_cons.mpr ⟨lw_p31, fun _ h => absurd h List.not_mem_nil⟩⟩⟩⟩⟩⟩⟩⟩⟩⟩⟩⟩⟩⟩⟩⟩
theorem lw_p32 : lw_okq (⟨"LoopsBelowModel", "lawOf", "(IIII)I"⟩, 27) := ⟨⟨by decide +kernel, by decide +kernel⟩, List.mem_of_getElem? (i := 892) (by decide +kernel), List.mem_of_getElem? (i := 1026) (by decide +kernel), List.mem_of_getElem? (i := 1027) (by decide +kernel)⟩
theorem lw_p33 : lw_okq (⟨"LoopsBelowModel", "walks", "(IIII)I"⟩, 27) := ⟨⟨by decide +kernel, by decide +kernel⟩, List.mem_of_getElem? (i := 892) (by decide +kernel), List.mem_of_getElem? (i := 1030) (by decide +kernel), List.mem_of_getElem? (i := 1031) (by decide +kernel)⟩
theorem lw_p34 : lw_okq (⟨"LoopsBelowModel", "whole", "()I"⟩, 27) := ⟨⟨by decide +kernel, by decide +kernel⟩, List.mem_of_getElem? (i := 892) (by decide +kernel), List.mem_of_getElem? (i := 1034) (by decide +kernel), List.mem_of_getElem? (i := 1035) (by decide +kernel)⟩
theorem lw_p35 : lw_okq (⟨"LoopsBelowModel", "both", "()I"⟩, 27) := ⟨⟨by decide +kernel, by decide +kernel⟩, List.mem_of_getElem? (i := 892) (by decide +kernel), List.mem_of_getElem? (i := 1038) (by decide +kernel), List.mem_of_getElem? (i := 1039) (by decide +kernel)⟩
theorem lw_p36 : lw_okq (⟨"LoopsBelowModel", "compared", "()I"⟩, 27) := ⟨⟨by decide +kernel, by decide +kernel⟩, List.mem_of_getElem? (i := 892) (by decide +kernel), List.mem_of_getElem? (i := 1042) (by decide +kernel), List.mem_of_getElem? (i := 1043) (by decide +kernel)⟩
theorem lw_p37 : lw_okq (⟨"LoopsBelowModel", "sum", "()I"⟩, 27) := ⟨⟨by decide +kernel, by decide +kernel⟩, List.mem_of_getElem? (i := 892) (by decide +kernel), List.mem_of_getElem? (i := 1046) (by decide +kernel), List.mem_of_getElem? (i := 1047) (by decide +kernel)⟩
theorem lw_p38 : lw_okq (⟨"LoopsBelowModel", "product", "()I"⟩, 27) := ⟨⟨by decide +kernel, by decide +kernel⟩, List.mem_of_getElem? (i := 892) (by decide +kernel), List.mem_of_getElem? (i := 1050) (by decide +kernel), List.mem_of_getElem? (i := 1051) (by decide +kernel)⟩
theorem lw_p39 : lw_okq (⟨"LoopsBelowModel", "factor", "()I"⟩, 27) := ⟨⟨by decide +kernel, by decide +kernel⟩, List.mem_of_getElem? (i := 892) (by decide +kernel), List.mem_of_getElem? (i := 1054) (by decide +kernel), List.mem_of_getElem? (i := 1055) (by decide +kernel)⟩
theorem lw_p40 : lw_okq (⟨"LoopsBelowModel", "byteAt", "(I)I"⟩, 27) := ⟨⟨by decide +kernel, by decide +kernel⟩, List.mem_of_getElem? (i := 892) (by decide +kernel), List.mem_of_getElem? (i := 1058) (by decide +kernel), List.mem_of_getElem? (i := 1059) (by decide +kernel)⟩
theorem lw_p41 : lw_okq (⟨"LoopsBelowModel", "number", "()I"⟩, 27) := ⟨⟨by decide +kernel, by decide +kernel⟩, List.mem_of_getElem? (i := 892) (by decide +kernel), List.mem_of_getElem? (i := 1065) (by decide +kernel), List.mem_of_getElem? (i := 1066) (by decide +kernel)⟩
theorem lw_p42 : lw_okq (⟨"LoopsBelowModel", "named", "(I)I"⟩, 27) := ⟨⟨by decide +kernel, by decide +kernel⟩, List.mem_of_getElem? (i := 892) (by decide +kernel), List.mem_of_getElem? (i := 1069) (by decide +kernel), List.mem_of_getElem? (i := 1070) (by decide +kernel)⟩
theorem lw_p43 : lw_okq (⟨"LoopsBelowModel", "fails", "()I"⟩, 27) := ⟨⟨by decide +kernel, by decide +kernel⟩, List.mem_of_getElem? (i := 892) (by decide +kernel), List.mem_of_getElem? (i := 1073) (by decide +kernel), List.mem_of_getElem? (i := 1074) (by decide +kernel)⟩
theorem lw_p44 : lw_okq (⟨"LoopsBelowModel", "bears", "(I)I"⟩, 27) := ⟨⟨by decide +kernel, by decide +kernel⟩, List.mem_of_getElem? (i := 892) (by decide +kernel), List.mem_of_getElem? (i := 1080) (by decide +kernel), List.mem_of_getElem? (i := 1081) (by decide +kernel)⟩
theorem lw_p45 : lw_okq (⟨"LoopsBelowModel", "off", "(I)I"⟩, 27) := ⟨⟨by decide +kernel, by decide +kernel⟩, List.mem_of_getElem? (i := 892) (by decide +kernel), List.mem_of_getElem? (i := 1084) (by decide +kernel), List.mem_of_getElem? (i := 1085) (by decide +kernel)⟩
theorem lw_p46 : lw_okq (⟨"LoopsBelowModel", "shows", "(I)I"⟩, 27) := ⟨⟨by decide +kernel, by decide +kernel⟩, List.mem_of_getElem? (i := 892) (by decide +kernel), List.mem_of_getElem? (i := 1088) (by decide +kernel), List.mem_of_getElem? (i := 1089) (by decide +kernel)⟩
theorem lw_p47 : lw_okq (⟨"LoopsBelowModel", "isSkipped", "(I)Z"⟩, 27) := ⟨⟨by decide +kernel, by decide +kernel⟩, List.mem_of_getElem? (i := 892) (by decide +kernel), List.mem_of_getElem? (i := 1092) (by decide +kernel), List.mem_of_getElem? (i := 1093) (by decide +kernel)⟩
def lw_privs_3 : List (MethodName × Nat) := [(⟨"LoopsBelowModel", "lawOf", "(IIII)I"⟩, 27), (⟨"LoopsBelowModel", "walks", "(IIII)I"⟩, 27), (⟨"LoopsBelowModel", "whole", "()I"⟩, 27), (⟨"LoopsBelowModel", "both", "()I"⟩, 27), (⟨"LoopsBelowModel", "compared", "()I"⟩, 27), (⟨"LoopsBelowModel", "sum", "()I"⟩, 27), (⟨"LoopsBelowModel", "product", "()I"⟩, 27), (⟨"LoopsBelowModel", "factor", "()I"⟩, 27), (⟨"LoopsBelowModel", "byteAt", "(I)I"⟩, 27), (⟨"LoopsBelowModel", "number", "()I"⟩, 27), (⟨"LoopsBelowModel", "named", "(I)I"⟩, 27), (⟨"LoopsBelowModel", "fails", "()I"⟩, 27), (⟨"LoopsBelowModel", "bears", "(I)I"⟩, 27), (⟨"LoopsBelowModel", "off", "(I)I"⟩, 27), (⟨"LoopsBelowModel", "shows", "(I)I"⟩, 27), (⟨"LoopsBelowModel", "isSkipped", "(I)Z"⟩, 27)]
theorem lw_r3 : ∀ q ∈ lw_privs_3, lw_okq q := List.forall_mem_cons.mpr ⟨lw_p32, List.forall_mem_cons.mpr ⟨lw_p33, List.forall_mem_cons.mpr ⟨lw_p34, List.forall_mem_cons.mpr ⟨lw_p35, List.forall_mem_cons.mpr ⟨lw_p36, List.forall_mem_cons.mpr ⟨lw_p37, List.forall_mem_cons.mpr ⟨lw_p38, List.forall_mem_cons.mpr ⟨lw_p39, List.forall_mem_cons.mpr ⟨lw_p40, List.forall_mem_cons.mpr ⟨lw_p41, List.forall_mem_cons.mpr ⟨lw_p42, List.forall_mem_cons.mpr ⟨lw_p43, List.forall_mem_cons.mpr ⟨lw_p44, List.forall_mem_cons.mpr ⟨lw_p45, List.forall_mem_cons.mpr ⟨lw_p46, List.forall_mem_cons.mpr ⟨lw_p47, fun _ h => absurd h List.not_mem_nil⟩⟩⟩⟩⟩⟩⟩⟩⟩⟩⟩⟩⟩⟩⟩⟩
theorem lw_p48 : lw_okq (⟨"LoopsBelowModel", "moveAll", "([I[I)V"⟩, 27) := ⟨⟨by decide +kernel, by decide +kernel⟩, List.mem_of_getElem? (i := 892) (by decide +kernel), List.mem_of_getElem? (i := 1125) (by decide +kernel), List.mem_of_getElem? (i := 1126) (by decide +kernel)⟩
theorem lw_p49 : lw_okq (⟨"LoopsBelowModel", "sews", "(II)I"⟩, 27) := ⟨⟨by decide +kernel, by decide +kernel⟩, List.mem_of_getElem? (i := 892) (by decide +kernel), List.mem_of_getElem? (i := 1135) (by decide +kernel), List.mem_of_getElem? (i := 1136) (by decide +kernel)⟩
theorem lw_p50 : lw_okq (⟨"LoopsBelowModel", "yard", "(I)I"⟩, 27) := ⟨⟨by decide +kernel, by decide +kernel⟩, List.mem_of_getElem? (i := 892) (by decide +kernel), List.mem_of_getElem? (i := 1139) (by decide +kernel), List.mem_of_getElem? (i := 1140) (by decide +kernel)⟩
theorem lw_p51 : lw_okq (⟨"LoopsBelowModel", "canDo", "(I)Z"⟩, 27) := ⟨⟨by decide +kernel, by decide +kernel⟩, List.mem_of_getElem? (i := 892) (by decide +kernel), List.mem_of_getElem? (i := 1147) (by decide +kernel), List.mem_of_getElem? (i := 1148) (by decide +kernel)⟩
theorem lw_p52 : lw_okq (⟨"LoopsBelowModel", "does", "(I)V"⟩, 27) := ⟨⟨by decide +kernel, by decide +kernel⟩, List.mem_of_getElem? (i := 892) (by decide +kernel), List.mem_of_getElem? (i := 1154) (by decide +kernel), List.mem_of_getElem? (i := 1155) (by decide +kernel)⟩
theorem lw_p53 : lw_okq (⟨"LoopsBelowModel", "drawn", "(I)I"⟩, 27) := ⟨⟨by decide +kernel, by decide +kernel⟩, List.mem_of_getElem? (i := 892) (by decide +kernel), List.mem_of_getElem? (i := 1162) (by decide +kernel), List.mem_of_getElem? (i := 1163) (by decide +kernel)⟩
theorem lw_p54 : lw_okq (⟨"LoopsBelowModel", "turnsTo", "(I)V"⟩, 27) := ⟨⟨by decide +kernel, by decide +kernel⟩, List.mem_of_getElem? (i := 892) (by decide +kernel), List.mem_of_getElem? (i := 1194) (by decide +kernel), List.mem_of_getElem? (i := 1195) (by decide +kernel)⟩
theorem lw_p55 : lw_okq (⟨"LoopsBelowModel", "isShown", "(I)Z"⟩, 27) := ⟨⟨by decide +kernel, by decide +kernel⟩, List.mem_of_getElem? (i := 892) (by decide +kernel), List.mem_of_getElem? (i := 1198) (by decide +kernel), List.mem_of_getElem? (i := 1199) (by decide +kernel)⟩
theorem lw_p56 : lw_okq (⟨"LoopsBelowModel", "triesRow", "(III)V"⟩, 27) := ⟨⟨by decide +kernel, by decide +kernel⟩, List.mem_of_getElem? (i := 892) (by decide +kernel), List.mem_of_getElem? (i := 1214) (by decide +kernel), List.mem_of_getElem? (i := 1215) (by decide +kernel)⟩
theorem lw_p57 : lw_okq (⟨"LoopsBelowModel", "threadsIn", "(II)I"⟩, 27) := ⟨⟨by decide +kernel, by decide +kernel⟩, List.mem_of_getElem? (i := 892) (by decide +kernel), List.mem_of_getElem? (i := 1233) (by decide +kernel), List.mem_of_getElem? (i := 1234) (by decide +kernel)⟩
theorem lw_p58 : lw_okq (⟨"LoopsBelowModel", "ran", "(I)V"⟩, 27) := ⟨⟨by decide +kernel, by decide +kernel⟩, List.mem_of_getElem? (i := 892) (by decide +kernel), List.mem_of_getElem? (i := 1237) (by decide +kernel), List.mem_of_getElem? (i := 1238) (by decide +kernel)⟩
theorem lw_p59 : lw_okq (⟨"LoopsBelowModel", "sewsIn", "(II)I"⟩, 27) := ⟨⟨by decide +kernel, by decide +kernel⟩, List.mem_of_getElem? (i := 892) (by decide +kernel), List.mem_of_getElem? (i := 1241) (by decide +kernel), List.mem_of_getElem? (i := 1242) (by decide +kernel)⟩
theorem lw_p60 : lw_okq (⟨"LoopsBelowModel", "showsIn", "(II)I"⟩, 27) := ⟨⟨by decide +kernel, by decide +kernel⟩, List.mem_of_getElem? (i := 892) (by decide +kernel), List.mem_of_getElem? (i := 1245) (by decide +kernel), List.mem_of_getElem? (i := 1246) (by decide +kernel)⟩
theorem lw_p61 : lw_okq (⟨"LoopsBelowModel", "foldsIn", "(II)I"⟩, 27) := ⟨⟨by decide +kernel, by decide +kernel⟩, List.mem_of_getElem? (i := 892) (by decide +kernel), List.mem_of_getElem? (i := 1249) (by decide +kernel), List.mem_of_getElem? (i := 1250) (by decide +kernel)⟩
theorem lw_p62 : lw_okq (⟨"LoopsBelowModel", "sumOf", "(I)I"⟩, 27) := ⟨⟨by decide +kernel, by decide +kernel⟩, List.mem_of_getElem? (i := 892) (by decide +kernel), List.mem_of_getElem? (i := 1300) (by decide +kernel), List.mem_of_getElem? (i := 1301) (by decide +kernel)⟩
def lw_privs_4 : List (MethodName × Nat) := [(⟨"LoopsBelowModel", "moveAll", "([I[I)V"⟩, 27), (⟨"LoopsBelowModel", "sews", "(II)I"⟩, 27), (⟨"LoopsBelowModel", "yard", "(I)I"⟩, 27), (⟨"LoopsBelowModel", "canDo", "(I)Z"⟩, 27), (⟨"LoopsBelowModel", "does", "(I)V"⟩, 27), (⟨"LoopsBelowModel", "drawn", "(I)I"⟩, 27), (⟨"LoopsBelowModel", "turnsTo", "(I)V"⟩, 27), (⟨"LoopsBelowModel", "isShown", "(I)Z"⟩, 27), (⟨"LoopsBelowModel", "triesRow", "(III)V"⟩, 27), (⟨"LoopsBelowModel", "threadsIn", "(II)I"⟩, 27), (⟨"LoopsBelowModel", "ran", "(I)V"⟩, 27), (⟨"LoopsBelowModel", "sewsIn", "(II)I"⟩, 27), (⟨"LoopsBelowModel", "showsIn", "(II)I"⟩, 27), (⟨"LoopsBelowModel", "foldsIn", "(II)I"⟩, 27), (⟨"LoopsBelowModel", "sumOf", "(I)I"⟩, 27)]
theorem lw_r4 : ∀ q ∈ lw_privs_4, lw_okq q := List.forall_mem_cons.mpr ⟨lw_p48, List.forall_mem_cons.mpr ⟨lw_p49, List.forall_mem_cons.mpr ⟨lw_p50, List.forall_mem_cons.mpr ⟨lw_p51, List.forall_mem_cons.mpr ⟨lw_p52, List.forall_mem_cons.mpr ⟨lw_p53, List.forall_mem_cons.mpr ⟨lw_p54, List.forall_mem_cons.mpr ⟨lw_p55, List.forall_mem_cons.mpr ⟨lw_p56, List.forall_mem_cons.mpr ⟨lw_p57, List.forall_mem_cons.mpr ⟨lw_p58, List.forall_mem_cons.mpr ⟨lw_p59, List.forall_mem_cons.mpr ⟨lw_p60, List.forall_mem_cons.mpr ⟨lw_p61, List.forall_mem_cons.mpr ⟨lw_p62, fun _ h => absurd h List.not_mem_nil⟩⟩⟩⟩⟩⟩⟩⟩⟩⟩⟩⟩⟩⟩⟩
def lw_privs : List (MethodName × Nat) := lw_privs_1 ++ (lw_privs_2 ++ (lw_privs_3 ++ (lw_privs_4)))
def lw_tbl : List Cond := k2_sels lw_privs ++ tables_1
theorem lw_privs_ok : ∀ q ∈ lw_privs, lw_okq q := by
  show ∀ q ∈ lw_privs_1 ++ (lw_privs_2 ++ (lw_privs_3 ++ (lw_privs_4))), lw_okq q
  exact List.forall_mem_append.mpr ⟨lw_r1, List.forall_mem_append.mpr ⟨lw_r2, List.forall_mem_append.mpr ⟨lw_r3, lw_r4⟩⟩⟩
end
section

/-! ===== BEGIN printed: names, fields, word lists, decode rows ===== -/
def RX0 : String := "LoopsBelow$Choir"
def TX0 : u_T := fun k => match k with
  | 0 => ("LoopsBelow$Choir", "begun", "[I", true)
  | 1 => ("LoopsBelow$Choir", "length", "I", false)
  | 2 => ("LoopsBelow$Choir", "kind", "I", false)
  | 3 => ("LoopsBelow$Choir", "m", "I", false)
  | _ => ("LoopsBelow$Choir", "n", "I", false)
def tyX0 : Nat → FieldType := fun k => match k with
  | 0 => .array .int
  | 1 => .int
  | 2 => .int
  | 3 => .int
  | _ => .int
theorem nmX0 : ∀ a, a < 5 → ∀ b, b < 5 → a ≠ b → (TX0 a).2.1 ≠ (TX0 b).2.1 := by decide +kernel
theorem tyX0_ok : ∀ k, k < 5 → parseFieldDescriptor (TX0 k).2.2.1 = some (tyX0 k) := by decide +kernel
abbrev cX0_init : ByteArray := prog_2_method_1_code
def yX0_init : MethodName := ⟨RX0, "<init>", "()V"⟩
abbrev cX0_sing : ByteArray := prog_2_method_2_code
def yX0_sing : MethodName := ⟨RX0, "sing", "(LLoopsBelow$Cloth;III)I"⟩
abbrev cX0_speak : ByteArray := prog_2_method_3_code
def yX0_speak : MethodName := ⟨RX0, "speak", "(IIII)I"⟩
abbrev cX0_bodyFrom : ByteArray := prog_2_method_4_code
def yX0_bodyFrom : MethodName := ⟨RX0, "bodyFrom", "(II)I"⟩
abbrev cX0_note : ByteArray := prog_2_method_5_code
def yX0_note : MethodName := ⟨RX0, "note", "(I)V"⟩
def RX1 : String := "LoopsBelow$Cloth"
def TX1 : u_T := fun k => match k with
  | 0 => ("LoopsBelow$Cloth", "kind", "I", false)
  | 1 => ("LoopsBelow$Cloth", "m", "I", false)
  | 2 => ("LoopsBelow$Cloth", "thick", "I", false)
  | 3 => ("LoopsBelow$Cloth", "yards", "I", false)
  | _ => ("LoopsBelow$Cloth", "spoilt", "I", false)
def tyX1 : Nat → FieldType := fun k => match k with
  | 0 => .int
  | 1 => .int
  | 2 => .int
  | 3 => .int
  | _ => .int
theorem nmX1 : ∀ a, a < 5 → ∀ b, b < 5 → a ≠ b → (TX1 a).2.1 ≠ (TX1 b).2.1 := by decide +kernel
theorem tyX1_ok : ∀ k, k < 5 → parseFieldDescriptor (TX1 k).2.2.1 = some (tyX1 k) := by decide +kernel
abbrev cX1_init : ByteArray := prog_3_method_1_code
def yX1_init : MethodName := ⟨RX1, "<init>", "()V"⟩
abbrev cX1_begin : ByteArray := prog_3_method_2_code
def yX1_begin : MethodName := ⟨RX1, "begin", "(II)V"⟩
abbrev cX1_makeOf : ByteArray := prog_3_method_3_code
def yX1_makeOf : MethodName := ⟨RX1, "makeOf", "(I)V"⟩
abbrev cX1_copyFrom : ByteArray := prog_3_method_4_code
def yX1_copyFrom : MethodName := ⟨RX1, "copyFrom", "(LLoopsBelow$Cloth;)V"⟩
abbrev cX1_isOf : ByteArray := prog_3_method_5_code
def yX1_isOf : MethodName := ⟨RX1, "isOf", "(I)Z"⟩
abbrev cX1_wantsMore : ByteArray := prog_3_method_6_code
def yX1_wantsMore : MethodName := ⟨RX1, "wantsMore", "()I"⟩
abbrev cX1_wantsMoreAs : ByteArray := prog_3_method_7_code
def yX1_wantsMoreAs : MethodName := ⟨RX1, "wantsMoreAs", "(I)I"⟩
abbrev cX1_bears : ByteArray := prog_3_method_8_code
def yX1_bears : MethodName := ⟨RX1, "bears", "()I"⟩
abbrev cX1_lintOfYard : ByteArray := prog_3_method_9_code
def yX1_lintOfYard : MethodName := ⟨RX1, "lintOfYard", "()I"⟩
def RX2 : String := "LoopsBelow$Gauge"
def TX2 : u_T := fun k => match k with
  | 0 => ("LoopsBelow$Gauge", "state", "LLoopsBelow$State;", true)
  | 1 => ("LoopsBelow$Gauge", "cloth", "LLoopsBelow$Cloth;", true)
  | 2 => ("LoopsBelow$Gauge", "limits", "[I", true)
  | 3 => ("LoopsBelow$Gauge", "wants", "I", false)
  | _ => ("LoopsBelow$Gauge", "bears", "I", false)
def tyX2 : Nat → FieldType := fun k => match k with
  | 0 => .object "LoopsBelow$State"
  | 1 => .object "LoopsBelow$Cloth"
  | 2 => .array .int
  | 3 => .int
  | _ => .int
theorem nmX2 : ∀ a, a < 5 → ∀ b, b < 5 → a ≠ b → (TX2 a).2.1 ≠ (TX2 b).2.1 := by decide +kernel
theorem tyX2_ok : ∀ k, k < 5 → parseFieldDescriptor (TX2 k).2.2.1 = some (tyX2 k) := by decide +kernel
abbrev cX2_init : ByteArray := prog_4_method_1_code
def yX2_init : MethodName := ⟨RX2, "<init>", "(LLoopsBelow$State;LLoopsBelow$Cloth;)V"⟩
abbrev cX2_refresh : ByteArray := prog_4_method_2_code
def yX2_refresh : MethodName := ⟨RX2, "refresh", "()V"⟩
abbrev cX2_off : ByteArray := prog_4_method_3_code
def yX2_off : MethodName := ⟨RX2, "off", "(LLoopsBelow$Machine;)I"⟩
abbrev cX2_shows : ByteArray := prog_4_method_4_code
def yX2_shows : MethodName := ⟨RX2, "shows", "(LLoopsBelow$Machine;)I"⟩
abbrev cX2_limitAt : ByteArray := prog_4_method_5_code
def yX2_limitAt : MethodName := ⟨RX2, "limitAt", "(I)I"⟩
def RX3 : String := "LoopsBelow$Law"
def TX3 : u_T := fun k => match k with
  | 0 => ("LoopsBelow$Law", "steps", "[I", true)
  | 1 => ("LoopsBelow$Law", "stack", "[I", true)
  | _ => ("LoopsBelow$Law", "length", "I", false)
def tyX3 : Nat → FieldType := fun k => match k with
  | 0 => .array .int
  | 1 => .array .int
  | _ => .int
theorem nmX3 : ∀ a, a < 3 → ∀ b, b < 3 → a ≠ b → (TX3 a).2.1 ≠ (TX3 b).2.1 := by decide +kernel
theorem tyX3_ok : ∀ k, k < 3 → parseFieldDescriptor (TX3 k).2.2.1 = some (tyX3 k) := by decide +kernel
abbrev cX3_init : ByteArray := prog_5_method_1_code
def yX3_init : MethodName := ⟨RX3, "<init>", "()V"⟩
abbrev cX3_take : ByteArray := prog_5_method_2_code
def yX3_take : MethodName := ⟨RX3, "take", "([II)V"⟩
abbrev cX3_value : ByteArray := prog_5_method_3_code
def yX3_value : MethodName := ⟨RX3, "value", "(III)I"⟩
abbrev cX3_joined : ByteArray := prog_5_method_4_code
def yX3_joined : MethodName := ⟨RX3, "joined", "(III)I"⟩
def RX4 : String := "LoopsBelow$Machine"
def TX4 : u_T := fun k => match k with
  | 0 => ("LoopsBelow$Machine", "threading", "I", false)
  | 1 => ("LoopsBelow$Machine", "knob", "I", false)
  | 2 => ("LoopsBelow$Machine", "screw", "I", false)
  | 3 => ("LoopsBelow$Machine", "needle", "I", false)
  | 4 => ("LoopsBelow$Machine", "lint", "I", false)
  | _ => ("LoopsBelow$Machine", "speed", "I", false)
def tyX4 : Nat → FieldType := fun k => match k with
  | 0 => .int
  | 1 => .int
  | 2 => .int
  | 3 => .int
  | 4 => .int
  | _ => .int
theorem nmX4 : ∀ a, a < 6 → ∀ b, b < 6 → a ≠ b → (TX4 a).2.1 ≠ (TX4 b).2.1 := by decide +kernel
theorem tyX4_ok : ∀ k, k < 6 → parseFieldDescriptor (TX4 k).2.2.1 = some (tyX4 k) := by decide +kernel
abbrev cX4_init : ByteArray := prog_6_method_1_code
def yX4_init : MethodName := ⟨RX4, "<init>", "()V"⟩
abbrev cX4_mostOf : ByteArray := prog_6_method_2_code
def yX4_mostOf : MethodName := ⟨RX4, "mostOf", "(I)I"⟩
abbrev cX4_part : ByteArray := prog_6_method_3_code
def yX4_part : MethodName := ⟨RX4, "part", "(I)I"⟩
abbrev cX4_turnPart : ByteArray := prog_6_method_4_code
def yX4_turnPart : MethodName := ⟨RX4, "turnPart", "(II)V"⟩
abbrev cX4_copyFrom : ByteArray := prog_6_method_5_code
def yX4_copyFrom : MethodName := ⟨RX4, "copyFrom", "(LLoopsBelow$Machine;)V"⟩
abbrev cX4_guess : ByteArray := prog_6_method_6_code
def yX4_guess : MethodName := ⟨RX4, "guess", "(I)V"⟩
abbrev cX4_yardSeconds : ByteArray := prog_6_method_7_code
def yX4_yardSeconds : MethodName := ⟨RX4, "yardSeconds", "()I"⟩
abbrev cX4_gather : ByteArray := prog_6_method_8_code
def yX4_gather : MethodName := ⟨RX4, "gather", "(I)V"⟩
abbrev cX4_hasRoomFor : ByteArray := prog_6_method_9_code
def yX4_hasRoomFor : MethodName := ⟨RX4, "hasRoomFor", "(I)Z"⟩
abbrev cX4_follow : ByteArray := prog_6_method_10_code
def yX4_follow : MethodName := ⟨RX4, "follow", "(I)V"⟩
def RX5 : String := "LoopsBelow$RowSearch"
def TX5 : u_T := fun k => match k with
  | 0 => ("LoopsBelow$RowSearch", "gauges", "[LLoopsBelow$Gauge;", true)
  | 1 => ("LoopsBelow$RowSearch", "machine", "LLoopsBelow$Machine;", true)
  | 2 => ("LoopsBelow$RowSearch", "cloths", "I", false)
  | 3 => ("LoopsBelow$RowSearch", "wanted", "I", false)
  | 4 => ("LoopsBelow$RowSearch", "yards", "I", false)
  | 5 => ("LoopsBelow$RowSearch", "fewest", "I", false)
  | _ => ("LoopsBelow$RowSearch", "firstOfFewest", "I", false)
def tyX5 : Nat → FieldType := fun k => match k with
  | 0 => .array (.object "LoopsBelow$Gauge")
  | 1 => .object "LoopsBelow$Machine"
  | 2 => .int
  | 3 => .int
  | 4 => .int
  | 5 => .int
  | _ => .int
theorem nmX5 : ∀ a, a < 7 → ∀ b, b < 7 → a ≠ b → (TX5 a).2.1 ≠ (TX5 b).2.1 := by decide +kernel
theorem tyX5_ok : ∀ k, k < 7 → parseFieldDescriptor (TX5 k).2.2.1 = some (tyX5 k) := by decide +kernel
abbrev cX5_init : ByteArray := prog_7_method_1_code
def yX5_init : MethodName := ⟨RX5, "<init>", "([LLoopsBelow$Gauge;LLoopsBelow$Machine;)V"⟩
abbrev cX5_begin : ByteArray := prog_7_method_2_code
def yX5_begin : MethodName := ⟨RX5, "begin", "(III)V"⟩
abbrev cX5_extend : ByteArray := prog_7_method_3_code
def yX5_extend : MethodName := ⟨RX5, "extend", "(IIII)V"⟩
abbrev cX5_sewOn : ByteArray := prog_7_method_4_code
def yX5_sewOn : MethodName := ⟨RX5, "sewOn", "(LLoopsBelow$Gauge;)I"⟩
def RX6 : String := "LoopsBelow$Sheet"
def TX6 : u_T := fun k => match k with
  | 0 => ("LoopsBelow$Sheet", "numbers", "[I", true)
  | 1 => ("LoopsBelow$Sheet", "bits", "I", false)
  | _ => ("LoopsBelow$Sheet", "length", "I", false)
def tyX6 : Nat → FieldType := fun k => match k with
  | 0 => .array .int
  | 1 => .int
  | _ => .int
theorem nmX6 : ∀ a, a < 3 → ∀ b, b < 3 → a ≠ b → (TX6 a).2.1 ≠ (TX6 b).2.1 := by decide +kernel
theorem tyX6_ok : ∀ k, k < 3 → parseFieldDescriptor (TX6 k).2.2.1 = some (tyX6 k) := by decide +kernel
abbrev cX6_init : ByteArray := prog_8_method_1_code
def yX6_init : MethodName := ⟨RX6, "<init>", "()V"⟩
abbrev cX6_isMissing : ByteArray := prog_8_method_2_code
def yX6_isMissing : MethodName := ⟨RX6, "isMissing", "()Z"⟩
abbrev cX6_lay : ByteArray := prog_8_method_3_code
def yX6_lay : MethodName := ⟨RX6, "lay", "(II)V"⟩
abbrev cX6_write : ByteArray := prog_8_method_4_code
def yX6_write : MethodName := ⟨RX6, "write", "(II)V"⟩
abbrev cX6_hasRun : ByteArray := prog_8_method_5_code
def yX6_hasRun : MethodName := ⟨RX6, "hasRun", "(II)Z"⟩
def RX7 : String := "LoopsBelow$State"
def TX7 : u_T := fun k => match k with
  | 0 => ("LoopsBelow$State", "machine", "LLoopsBelow$Machine;", true)
  | 1 => ("LoopsBelow$State", "cloths", "[LLoopsBelow$Cloth;", true)
  | 2 => ("LoopsBelow$State", "laws", "[LLoopsBelow$Law;", true)
  | 3 => ("LoopsBelow$State", "tape", "[B", true)
  | 4 => ("LoopsBelow$State", "waiting", "[I", true)
  | 5 => ("LoopsBelow$State", "clothCount", "I", false)
  | 6 => ("LoopsBelow$State", "tapeLength", "I", false)
  | 7 => ("LoopsBelow$State", "waitCount", "I", false)
  | 8 => ("LoopsBelow$State", "second", "I", false)
  | _ => ("LoopsBelow$State", "z", "I", false)
def tyX7 : Nat → FieldType := fun k => match k with
  | 0 => .object "LoopsBelow$Machine"
  | 1 => .array (.object "LoopsBelow$Cloth")
  | 2 => .array (.object "LoopsBelow$Law")
  | 3 => .array .byte
  | 4 => .array .int
  | 5 => .int
  | 6 => .int
  | 7 => .int
  | 8 => .int
  | _ => .int
theorem nmX7 : ∀ a, a < 10 → ∀ b, b < 10 → a ≠ b → (TX7 a).2.1 ≠ (TX7 b).2.1 := by decide +kernel
theorem tyX7_ok : ∀ k, k < 10 → parseFieldDescriptor (TX7 k).2.2.1 = some (tyX7 k) := by decide +kernel
abbrev cX7_init : ByteArray := prog_9_method_1_code
def yX7_init : MethodName := ⟨RX7, "<init>", "()V"⟩
abbrev cX7_copyFrom : ByteArray := prog_9_method_2_code
def yX7_copyFrom : MethodName := ⟨RX7, "copyFrom", "(LLoopsBelow$State;)V"⟩
abbrev cX7_gives : ByteArray := prog_9_method_3_code
def yX7_gives : MethodName := ⟨RX7, "gives", "(IIII)I"⟩
abbrev cX7_follow : ByteArray := prog_9_method_4_code
def yX7_follow : MethodName := ⟨RX7, "follow", "(I)V"⟩
abbrev cX7_sewYard : ByteArray := prog_9_method_5_code
def yX7_sewYard : MethodName := ⟨RX7, "sewYard", "(LLoopsBelow$Gauge;)I"⟩
abbrev cX7_draw : ByteArray := prog_9_method_6_code
def yX7_draw : MethodName := ⟨RX7, "draw", "()I"⟩
abbrev cX7_allYards : ByteArray := prog_9_method_7_code
def yX7_allYards : MethodName := ⟨RX7, "allYards", "()I"⟩
abbrev cX7_allSpoilt : ByteArray := prog_9_method_8_code
def yX7_allSpoilt : MethodName := ⟨RX7, "allSpoilt", "()I"⟩
def RX8 : String := "LoopsBelow$TextReader"
def TX8 : u_T := fun k => match k with
  | 0 => ("LoopsBelow$TextReader", "steps", "[I", true)
  | 1 => ("LoopsBelow$TextReader", "bytes", "[I", true)
  | 2 => ("LoopsBelow$TextReader", "length", "I", false)
  | 3 => ("LoopsBelow$TextReader", "at", "I", false)
  | 4 => ("LoopsBelow$TextReader", "end", "I", false)
  | _ => ("LoopsBelow$TextReader", "names", "Ljava/lang/String;", false)
def tyX8 : Nat → FieldType := fun k => match k with
  | 0 => .array .int
  | 1 => .array .int
  | 2 => .int
  | 3 => .int
  | 4 => .int
  | _ => .object "java/lang/String"
theorem nmX8 : ∀ a, a < 6 → ∀ b, b < 6 → a ≠ b → (TX8 a).2.1 ≠ (TX8 b).2.1 := by decide +kernel
theorem tyX8_ok : ∀ k, k < 6 → parseFieldDescriptor (TX8 k).2.2.1 = some (tyX8 k) := by decide +kernel
abbrev cX8_init : ByteArray := prog_10_method_1_code
def yX8_init : MethodName := ⟨RX8, "<init>", "()V"⟩
abbrev cX8_reads : ByteArray := prog_10_method_2_code
def yX8_reads : MethodName := ⟨RX8, "reads", "([BILjava/lang/String;)Z"⟩
abbrev cX8_readLevel : ByteArray := prog_10_method_3_code
def yX8_readLevel : MethodName := ⟨RX8, "readLevel", "(II)Z"⟩
abbrev cX8_readSingle : ByteArray := prog_10_method_4_code
def yX8_readSingle : MethodName := ⟨RX8, "readSingle", "(I)Z"⟩
abbrev cX8_readDenied : ByteArray := prog_10_method_5_code
def yX8_readDenied : MethodName := ⟨RX8, "readDenied", "(I)Z"⟩
abbrev cX8_readEnclosed : ByteArray := prog_10_method_6_code
def yX8_readEnclosed : MethodName := ⟨RX8, "readEnclosed", "(I)Z"⟩
abbrev cX8_readNumber : ByteArray := prog_10_method_7_code
def yX8_readNumber : MethodName := ⟨RX8, "readNumber", "()V"⟩
abbrev cX8_operatorIsOf : ByteArray := prog_10_method_8_code
def yX8_operatorIsOf : MethodName := ⟨RX8, "operatorIsOf", "(I)Z"⟩
abbrev cX8_here : ByteArray := prog_10_method_9_code
def yX8_here : MethodName := ⟨RX8, "here", "()I"⟩
abbrev cX8_add : ByteArray := prog_10_method_10_code
def yX8_add : MethodName := ⟨RX8, "add", "(I)V"⟩
def RX9 : String := "LoopsBelow"
def TX9 : u_T := fun k => match k with
  | 0 => ("LoopsBelow", "now", "LLoopsBelow$State;", true)
  | 1 => ("LoopsBelow", "kept", "LLoopsBelow$State;", true)
  | 2 => ("LoopsBelow", "images", "I", false)
  | 3 => ("LoopsBelow", "thought", "LLoopsBelow$Machine;", true)
  | 4 => ("LoopsBelow", "gauges", "[LLoopsBelow$Gauge;", true)
  | 5 => ("LoopsBelow", "tallies", "[I", true)
  | 6 => ("LoopsBelow", "rows", "LLoopsBelow$RowSearch;", true)
  | 7 => ("LoopsBelow", "reader", "LLoopsBelow$TextReader;", true)
  | 8 => ("LoopsBelow", "choir", "LLoopsBelow$Choir;", true)
  | 9 => ("LoopsBelow", "sheets", "[LLoopsBelow$Sheet;", true)
  | _ => ("LoopsBelow", "errors", "[I", true)
def tyX9 : Nat → FieldType := fun k => match k with
  | 0 => .object "LoopsBelow$State"
  | 1 => .object "LoopsBelow$State"
  | 2 => .int
  | 3 => .object "LoopsBelow$Machine"
  | 4 => .array (.object "LoopsBelow$Gauge")
  | 5 => .array .int
  | 6 => .object "LoopsBelow$RowSearch"
  | 7 => .object "LoopsBelow$TextReader"
  | 8 => .object "LoopsBelow$Choir"
  | 9 => .array (.object "LoopsBelow$Sheet")
  | _ => .array .int
theorem nmX9 : ∀ a, a < 11 → ∀ b, b < 11 → a ≠ b → (TX9 a).2.1 ≠ (TX9 b).2.1 := by decide +kernel
theorem tyX9_ok : ∀ k, k < 11 → parseFieldDescriptor (TX9 k).2.2.1 = some (tyX9 k) := by decide +kernel
abbrev cX9_init : ByteArray := prog_1_method_1_code
def yX9_init : MethodName := ⟨RX9, "<init>", "()V"⟩
abbrev cX9_set : ByteArray := prog_1_method_2_code
def yX9_set : MethodName := ⟨RX9, "set", "(II)I"⟩
abbrev cX9_machine : ByteArray := prog_1_method_3_code
def yX9_machine : MethodName := ⟨RX9, "machine", "(I)I"⟩
abbrev cX9_cloth : ByteArray := prog_1_method_4_code
def yX9_cloth : MethodName := ⟨RX9, "cloth", "(II)I"⟩
abbrev cX9_ofCloth : ByteArray := prog_1_method_5_code
def yX9_ofCloth : MethodName := ⟨RX9, "ofCloth", "(II)I"⟩
abbrev cX9_change : ByteArray := prog_1_method_6_code
def yX9_change : MethodName := ⟨RX9, "change", "(III)I"⟩
abbrev cX9_become : ByteArray := prog_1_method_7_code
def yX9_become : MethodName := ⟨RX9, "become", "(II)I"⟩
abbrev cX9_as : ByteArray := prog_1_method_8_code
def yX9_as : MethodName := ⟨RX9, "as", "(II)I"⟩
abbrev cX9_feed : ByteArray := prog_1_method_9_code
def yX9_feed : MethodName := ⟨RX9, "feed", "(JI)I"⟩
abbrev cX9_text : ByteArray := prog_1_method_10_code
def yX9_text : MethodName := ⟨RX9, "text", "(I)I"⟩
abbrev cX9_law : ByteArray := prog_1_method_11_code
def yX9_law : MethodName := ⟨RX9, "law", "(IIII)I"⟩
abbrev cX9_sew : ByteArray := prog_1_method_12_code
def yX9_sew : MethodName := ⟨RX9, "sew", "(II)I"⟩
abbrev cX9_deed : ByteArray := prog_1_method_13_code
def yX9_deed : MethodName := ⟨RX9, "deed", "(I)I"⟩
abbrev cX9_loose : ByteArray := prog_1_method_14_code
def yX9_loose : MethodName := ⟨RX9, "loose", "(I)I"⟩
abbrev cX9_after : ByteArray := prog_1_method_15_code
def yX9_after : MethodName := ⟨RX9, "after", "(II)I"⟩
abbrev cX9_until : ByteArray := prog_1_method_16_code
def yX9_until : MethodName := ⟨RX9, "until", "(I)I"⟩
abbrev cX9_cure : ByteArray := prog_1_method_17_code
def yX9_cure : MethodName := ⟨RX9, "cure", "(II)I"⟩
abbrev cX9_alone : ByteArray := prog_1_method_18_code
def yX9_alone : MethodName := ⟨RX9, "alone", "(I)I"⟩
abbrev cX9_canBe : ByteArray := prog_1_method_19_code
def yX9_canBe : MethodName := ⟨RX9, "canBe", "(II)I"⟩
abbrev cX9_tellsMost : ByteArray := prog_1_method_20_code
def yX9_tellsMost : MethodName := ⟨RX9, "tellsMost", "(I)I"⟩
abbrev cX9_knobWas : ByteArray := prog_1_method_21_code
def yX9_knobWas : MethodName := ⟨RX9, "knobWas", "(III)I"⟩
abbrev cX9_row : ByteArray := prog_1_method_22_code
def yX9_row : MethodName := ⟨RX9, "row", "(III)I"⟩
abbrev cX9_odds : ByteArray := prog_1_method_23_code
def yX9_odds : MethodName := ⟨RX9, "odds", "(II)I"⟩
abbrev cX9_seed : ByteArray := prog_1_method_24_code
def yX9_seed : MethodName := ⟨RX9, "seed", "(I)I"⟩
abbrev cX9_voice : ByteArray := prog_1_method_25_code
def yX9_voice : MethodName := ⟨RX9, "voice", "(III)I"⟩
abbrev cX9_trace : ByteArray := prog_1_method_26_code
def yX9_trace : MethodName := ⟨RX9, "trace", "(I)I"⟩
abbrev cX9_sheet : ByteArray := prog_1_method_27_code
def yX9_sheet : MethodName := ⟨RX9, "sheet", "(III)I"⟩
abbrev cX9_put : ByteArray := prog_1_method_28_code
def yX9_put : MethodName := ⟨RX9, "put", "(III)I"⟩
abbrev cX9_move : ByteArray := prog_1_method_29_code
def yX9_move : MethodName := ⟨RX9, "move", "(IIIII)I"⟩
abbrev cX9_thicks : ByteArray := prog_1_method_30_code
def yX9_thicks : MethodName := ⟨RX9, "thicks", "(I)I"⟩
abbrev cX9_judge : ByteArray := prog_1_method_31_code
def yX9_judge : MethodName := ⟨RX9, "judge", "(I)I"⟩
abbrev cX9_image : ByteArray := prog_1_method_32_code
def yX9_image : MethodName := ⟨RX9, "image", "()I"⟩
abbrev cX9_restore : ByteArray := prog_1_method_33_code
def yX9_restore : MethodName := ⟨RX9, "restore", "()I"⟩
abbrev cX9_tell : ByteArray := prog_1_method_34_code
def yX9_tell : MethodName := ⟨RX9, "tell", "(I)I"⟩
abbrev cX9_check : ByteArray := prog_1_method_35_code
def yX9_check : MethodName := ⟨RX9, "check", "()I"⟩
abbrev cX9_count : ByteArray := prog_1_method_36_code
def yX9_count : MethodName := ⟨RX9, "count", "(I)I"⟩
abbrev cX9_told : ByteArray := prog_1_method_37_code
def yX9_told : MethodName := ⟨RX9, "told", "(I)I"⟩
abbrev cX9_error : ByteArray := prog_1_method_38_code
def yX9_error : MethodName := ⟨RX9, "error", "(I)I"⟩
abbrev cX9_hasCloth : ByteArray := prog_1_method_39_code
def yX9_hasCloth : MethodName := ⟨RX9, "hasCloth", "(I)Z"⟩
abbrev cX9_isKindAndM : ByteArray := prog_1_method_40_code
def yX9_isKindAndM : MethodName := ⟨RX9, "isKindAndM", "(I)Z"⟩
abbrev cX9_isDigit : ByteArray := prog_1_method_41_code
def yX9_isDigit : MethodName := ⟨RX9, "isDigit", "(I)Z"⟩
abbrev cX9_isUse : ByteArray := prog_1_method_42_code
def yX9_isUse : MethodName := ⟨RX9, "isUse", "(I)Z"⟩
abbrev cX9_isPart : ByteArray := prog_1_method_43_code
def yX9_isPart : MethodName := ⟨RX9, "isPart", "(I)Z"⟩
abbrev cX9_isSheet : ByteArray := prog_1_method_44_code
def yX9_isSheet : MethodName := ⟨RX9, "isSheet", "(I)Z"⟩
abbrev cX9_isWidth : ByteArray := prog_1_method_45_code
def yX9_isWidth : MethodName := ⟨RX9, "isWidth", "(I)Z"⟩
abbrev cX9_gaugeOf : ByteArray := prog_1_method_46_code
def yX9_gaugeOf : MethodName := ⟨RX9, "gaugeOf", "(I)LLoopsBelow$Gauge;"⟩
abbrev cX9_refreshGauges : ByteArray := prog_1_method_47_code
def yX9_refreshGauges : MethodName := ⟨RX9, "refreshGauges", "()V"⟩
abbrev cX9_evening : ByteArray := prog_1_method_48_code
def yX9_evening : MethodName := ⟨RX9, "evening", "()I"⟩
abbrev cX9_cheapestCure : ByteArray := prog_1_method_49_code
def yX9_cheapestCure : MethodName := ⟨RX9, "cheapestCure", "(LLoopsBelow$Gauge;)I"⟩
abbrev cX9_thinkOfDeeds : ByteArray := prog_1_method_50_code
def yX9_thinkOfDeeds : MethodName := ⟨RX9, "thinkOfDeeds", "(I)V"⟩
abbrev cX9_cureSeconds : ByteArray := prog_1_method_51_code
def yX9_cureSeconds : MethodName := ⟨RX9, "cureSeconds", "(III)I"⟩
abbrev cX9_tellsOfAllCloths : ByteArray := prog_1_method_52_code
def yX9_tellsOfAllCloths : MethodName := ⟨RX9, "tellsOfAllCloths", "(LLoopsBelow$Sheet;)Z"⟩
abbrev cX9_prepareGuesses : ByteArray := prog_1_method_53_code
def yX9_prepareGuesses : MethodName := ⟨RX9, "prepareGuesses", "()V"⟩
abbrev cX9_showsAsTold : ByteArray := prog_1_method_54_code
def yX9_showsAsTold : MethodName := ⟨RX9, "showsAsTold", "(LLoopsBelow$Sheet;)Z"⟩
abbrev cX9_tallyAll : ByteArray := prog_1_method_55_code
def yX9_tallyAll : MethodName := ⟨RX9, "tallyAll", "()V"⟩
abbrev cX9_greatestTally : ByteArray := prog_1_method_56_code
def yX9_greatestTally : MethodName := ⟨RX9, "greatestTally", "(I)I"⟩
abbrev cX9_commonOfTen : ByteArray := prog_1_method_57_code
def yX9_commonOfTen : MethodName := ⟨RX9, "commonOfTen", "(I)I"⟩
abbrev cX9_held : ByteArray := prog_1_method_58_code
def yX9_held : MethodName := ⟨RX9, "held", "(III)I"⟩
abbrev cX9_above : ByteArray := prog_1_method_59_code
def yX9_above : MethodName := ⟨RX9, "above", "(I)I"⟩
def RX10 : String := "LoopsBelowModel"
def TX10 : u_T := fun k => match k with
  | 0 => ("LoopsBelowModel", "row", "[I", true)
  | 1 => ("LoopsBelowModel", "kept", "[I", true)
  | 2 => ("LoopsBelowModel", "tried", "[I", true)
  | 3 => ("LoopsBelowModel", "before", "[I", true)
  | 4 => ("LoopsBelowModel", "isKept", "Z", false)
  | 5 => ("LoopsBelowModel", "images", "I", false)
  | 6 => ("LoopsBelowModel", "found", "[I", true)
  | 7 => ("LoopsBelowModel", "use", "I", false)
  | 8 => ("LoopsBelowModel", "at", "I", false)
  | 9 => ("LoopsBelowModel", "end", "I", false)
  | 10 => ("LoopsBelowModel", "open", "I", false)
  | 11 => ("LoopsBelowModel", "namedA", "I", false)
  | 12 => ("LoopsBelowModel", "namedB", "I", false)
  | 13 => ("LoopsBelowModel", "namedC", "I", false)
  | 14 => ("LoopsBelowModel", "good", "Z", false)
  | 15 => ("LoopsBelowModel", "bitsOf", "[I", true)
  | 16 => ("LoopsBelowModel", "sizeOf", "[I", true)
  | 17 => ("LoopsBelowModel", "sheets", "[I", true)
  | 18 => ("LoopsBelowModel", "moved", "[I", true)
  | 19 => ("LoopsBelowModel", "shown", "[I", true)
  | 20 => ("LoopsBelowModel", "fewest", "I", false)
  | 21 => ("LoopsBelowModel", "firstOf", "I", false)
  | 22 => ("LoopsBelowModel", "traced", "[I", true)
  | 23 => ("LoopsBelowModel", "tracedMany", "I", false)
  | 24 => ("LoopsBelowModel", "voiceKind", "I", false)
  | 25 => ("LoopsBelowModel", "voiceN", "I", false)
  | _ => ("LoopsBelowModel", "voiceM", "I", false)
def tyX10 : Nat → FieldType := fun k => match k with
  | 0 => .array .int
  | 1 => .array .int
  | 2 => .array .int
  | 3 => .array .int
  | 4 => .boolean
  | 5 => .int
  | 6 => .array .int
  | 7 => .int
  | 8 => .int
  | 9 => .int
  | 10 => .int
  | 11 => .int
  | 12 => .int
  | 13 => .int
  | 14 => .boolean
  | 15 => .array .int
  | 16 => .array .int
  | 17 => .array .int
  | 18 => .array .int
  | 19 => .array .int
  | 20 => .int
  | 21 => .int
  | 22 => .array .int
  | 23 => .int
  | 24 => .int
  | 25 => .int
  | _ => .int
theorem nmX10 : ∀ a, a < 27 → ∀ b, b < 27 → a ≠ b → (TX10 a).2.1 ≠ (TX10 b).2.1 := by decide +kernel
theorem tyX10_ok : ∀ k, k < 27 → parseFieldDescriptor (TX10 k).2.2.1 = some (tyX10 k) := by decide +kernel
abbrev cX10_init : ByteArray := prog_12_method_1_code
def yX10_init : MethodName := ⟨RX10, "<init>", "()V"⟩
abbrev cX10_in : ByteArray := prog_12_method_2_code
def yX10_in : MethodName := ⟨RX10, "in", "(III)Z"⟩
abbrev cX10_errs : ByteArray := prog_12_method_3_code
def yX10_errs : MethodName := ⟨RX10, "errs", "(I)I"⟩
abbrev cX10_held : ByteArray := prog_12_method_4_code
def yX10_held : MethodName := ⟨RX10, "held", "(III)I"⟩
abbrev cX10_moveAll : ByteArray := prog_12_method_5_code
def yX10_moveAll : MethodName := ⟨RX10, "moveAll", "([I[I)V"⟩
abbrev cX10_its : ByteArray := prog_12_method_6_code
def yX10_its : MethodName := ⟨RX10, "its", "(II)I"⟩
abbrev cX10_gets : ByteArray := prog_12_method_7_code
def yX10_gets : MethodName := ⟨RX10, "gets", "(III)V"⟩
abbrev cX10_isCloth : ByteArray := prog_12_method_8_code
def yX10_isCloth : MethodName := ⟨RX10, "isCloth", "(I)Z"⟩
abbrev cX10_becomes : ByteArray := prog_12_method_9_code
def yX10_becomes : MethodName := ⟨RX10, "becomes", "(II)I"⟩
abbrev cX10_set : ByteArray := prog_12_method_10_code
def yX10_set : MethodName := ⟨RX10, "set", "(II)I"⟩
abbrev cX10_machine : ByteArray := prog_12_method_11_code
def yX10_machine : MethodName := ⟨RX10, "machine", "(I)I"⟩
abbrev cX10_cloth : ByteArray := prog_12_method_12_code
def yX10_cloth : MethodName := ⟨RX10, "cloth", "(II)I"⟩
abbrev cX10_ofCloth : ByteArray := prog_12_method_13_code
def yX10_ofCloth : MethodName := ⟨RX10, "ofCloth", "(II)I"⟩
abbrev cX10_change : ByteArray := prog_12_method_14_code
def yX10_change : MethodName := ⟨RX10, "change", "(III)I"⟩
abbrev cX10_become : ByteArray := prog_12_method_15_code
def yX10_become : MethodName := ⟨RX10, "become", "(II)I"⟩
abbrev cX10_above : ByteArray := prog_12_method_16_code
def yX10_above : MethodName := ⟨RX10, "above", "(I)I"⟩
abbrev cX10_as : ByteArray := prog_12_method_17_code
def yX10_as : MethodName := ⟨RX10, "as", "(II)I"⟩
abbrev cX10_byteAt : ByteArray := prog_12_method_18_code
def yX10_byteAt : MethodName := ⟨RX10, "byteAt", "(I)I"⟩
abbrev cX10_isDigit : ByteArray := prog_12_method_19_code
def yX10_isDigit : MethodName := ⟨RX10, "isDigit", "(I)Z"⟩
abbrev cX10_fails : ByteArray := prog_12_method_20_code
def yX10_fails : MethodName := ⟨RX10, "fails", "()I"⟩
abbrev cX10_number : ByteArray := prog_12_method_21_code
def yX10_number : MethodName := ⟨RX10, "number", "()I"⟩
abbrev cX10_named : ByteArray := prog_12_method_22_code
def yX10_named : MethodName := ⟨RX10, "named", "(I)I"⟩
abbrev cX10_factor : ByteArray := prog_12_method_23_code
def yX10_factor : MethodName := ⟨RX10, "factor", "()I"⟩
abbrev cX10_product : ByteArray := prog_12_method_24_code
def yX10_product : MethodName := ⟨RX10, "product", "()I"⟩
abbrev cX10_sum : ByteArray := prog_12_method_25_code
def yX10_sum : MethodName := ⟨RX10, "sum", "()I"⟩
abbrev cX10_compared : ByteArray := prog_12_method_26_code
def yX10_compared : MethodName := ⟨RX10, "compared", "()I"⟩
abbrev cX10_both : ByteArray := prog_12_method_27_code
def yX10_both : MethodName := ⟨RX10, "both", "()I"⟩
abbrev cX10_whole : ByteArray := prog_12_method_28_code
def yX10_whole : MethodName := ⟨RX10, "whole", "()I"⟩
abbrev cX10_walks : ByteArray := prog_12_method_29_code
def yX10_walks : MethodName := ⟨RX10, "walks", "(IIII)I"⟩
abbrev cX10_lawOf : ByteArray := prog_12_method_30_code
def yX10_lawOf : MethodName := ⟨RX10, "lawOf", "(IIII)I"⟩
abbrev cX10_law : ByteArray := prog_12_method_31_code
def yX10_law : MethodName := ⟨RX10, "law", "(IIII)I"⟩
abbrev cX10_feed : ByteArray := prog_12_method_32_code
def yX10_feed : MethodName := ⟨RX10, "feed", "(JI)I"⟩
abbrev cX10_text : ByteArray := prog_12_method_33_code
def yX10_text : MethodName := ⟨RX10, "text", "(I)I"⟩
abbrev cX10_wants : ByteArray := prog_12_method_34_code
def yX10_wants : MethodName := ⟨RX10, "wants", "(I)I"⟩
abbrev cX10_bears : ByteArray := prog_12_method_35_code
def yX10_bears : MethodName := ⟨RX10, "bears", "(I)I"⟩
abbrev cX10_off : ByteArray := prog_12_method_36_code
def yX10_off : MethodName := ⟨RX10, "off", "(I)I"⟩
abbrev cX10_isSkipped : ByteArray := prog_12_method_37_code
def yX10_isSkipped : MethodName := ⟨RX10, "isSkipped", "(I)Z"⟩
abbrev cX10_shows : ByteArray := prog_12_method_38_code
def yX10_shows : MethodName := ⟨RX10, "shows", "(I)I"⟩
abbrev cX10_yard : ByteArray := prog_12_method_39_code
def yX10_yard : MethodName := ⟨RX10, "yard", "(I)I"⟩
abbrev cX10_sews : ByteArray := prog_12_method_40_code
def yX10_sews : MethodName := ⟨RX10, "sews", "(II)I"⟩
abbrev cX10_sew : ByteArray := prog_12_method_41_code
def yX10_sew : MethodName := ⟨RX10, "sew", "(II)I"⟩
abbrev cX10_lasts : ByteArray := prog_12_method_42_code
def yX10_lasts : MethodName := ⟨RX10, "lasts", "(I)I"⟩
abbrev cX10_canDo : ByteArray := prog_12_method_43_code
def yX10_canDo : MethodName := ⟨RX10, "canDo", "(I)Z"⟩
abbrev cX10_does : ByteArray := prog_12_method_44_code
def yX10_does : MethodName := ⟨RX10, "does", "(I)V"⟩
abbrev cX10_deed : ByteArray := prog_12_method_45_code
def yX10_deed : MethodName := ⟨RX10, "deed", "(I)I"⟩
abbrev cX10_drawn : ByteArray := prog_12_method_46_code
def yX10_drawn : MethodName := ⟨RX10, "drawn", "(I)I"⟩
abbrev cX10_loose : ByteArray := prog_12_method_47_code
def yX10_loose : MethodName := ⟨RX10, "loose", "(I)I"⟩
abbrev cX10_after : ByteArray := prog_12_method_48_code
def yX10_after : MethodName := ⟨RX10, "after", "(II)I"⟩
abbrev cX10_until : ByteArray := prog_12_method_49_code
def yX10_until : MethodName := ⟨RX10, "until", "(I)I"⟩
abbrev cX10_apart : ByteArray := prog_12_method_50_code
def yX10_apart : MethodName := ⟨RX10, "apart", "(II)I"⟩
abbrev cX10_cure : ByteArray := prog_12_method_51_code
def yX10_cure : MethodName := ⟨RX10, "cure", "(II)I"⟩
abbrev cX10_alone : ByteArray := prog_12_method_52_code
def yX10_alone : MethodName := ⟨RX10, "alone", "(I)I"⟩
abbrev cX10_turnsTo : ByteArray := prog_12_method_53_code
def yX10_turnsTo : MethodName := ⟨RX10, "turnsTo", "(I)V"⟩
abbrev cX10_isSheet : ByteArray := prog_12_method_54_code
def yX10_isSheet : MethodName := ⟨RX10, "isSheet", "(I)Z"⟩
abbrev cX10_isShown : ByteArray := prog_12_method_55_code
def yX10_isShown : MethodName := ⟨RX10, "isShown", "(I)Z"⟩
abbrev cX10_canBe : ByteArray := prog_12_method_56_code
def yX10_canBe : MethodName := ⟨RX10, "canBe", "(II)I"⟩
abbrev cX10_tellsMost : ByteArray := prog_12_method_57_code
def yX10_tellsMost : MethodName := ⟨RX10, "tellsMost", "(I)I"⟩
abbrev cX10_knobWas : ByteArray := prog_12_method_58_code
def yX10_knobWas : MethodName := ⟨RX10, "knobWas", "(III)I"⟩
abbrev cX10_triesRow : ByteArray := prog_12_method_59_code
def yX10_triesRow : MethodName := ⟨RX10, "triesRow", "(III)V"⟩
abbrev cX10_row : ByteArray := prog_12_method_60_code
def yX10_row : MethodName := ⟨RX10, "row", "(III)I"⟩
abbrev cX10_divisor : ByteArray := prog_12_method_61_code
def yX10_divisor : MethodName := ⟨RX10, "divisor", "(II)I"⟩
abbrev cX10_odds : ByteArray := prog_12_method_62_code
def yX10_odds : MethodName := ⟨RX10, "odds", "(II)I"⟩
abbrev cX10_seed : ByteArray := prog_12_method_63_code
def yX10_seed : MethodName := ⟨RX10, "seed", "(I)I"⟩
abbrev cX10_ran : ByteArray := prog_12_method_64_code
def yX10_ran : MethodName := ⟨RX10, "ran", "(I)V"⟩
abbrev cX10_threadsIn : ByteArray := prog_12_method_65_code
def yX10_threadsIn : MethodName := ⟨RX10, "threadsIn", "(II)I"⟩
abbrev cX10_showsIn : ByteArray := prog_12_method_66_code
def yX10_showsIn : MethodName := ⟨RX10, "showsIn", "(II)I"⟩
abbrev cX10_sewsIn : ByteArray := prog_12_method_67_code
def yX10_sewsIn : MethodName := ⟨RX10, "sewsIn", "(II)I"⟩
abbrev cX10_foldsIn : ByteArray := prog_12_method_68_code
def yX10_foldsIn : MethodName := ⟨RX10, "foldsIn", "(II)I"⟩
abbrev cX10_voice : ByteArray := prog_12_method_69_code
def yX10_voice : MethodName := ⟨RX10, "voice", "(III)I"⟩
abbrev cX10_trace : ByteArray := prog_12_method_70_code
def yX10_trace : MethodName := ⟨RX10, "trace", "(I)I"⟩
abbrev cX10_narrow : ByteArray := prog_12_method_71_code
def yX10_narrow : MethodName := ⟨RX10, "narrow", "(II)I"⟩
abbrev cX10_sheet : ByteArray := prog_12_method_72_code
def yX10_sheet : MethodName := ⟨RX10, "sheet", "(III)I"⟩
abbrev cX10_put : ByteArray := prog_12_method_73_code
def yX10_put : MethodName := ⟨RX10, "put", "(III)I"⟩
abbrev cX10_move : ByteArray := prog_12_method_74_code
def yX10_move : MethodName := ⟨RX10, "move", "(IIIII)I"⟩
abbrev cX10_thicks : ByteArray := prog_12_method_75_code
def yX10_thicks : MethodName := ⟨RX10, "thicks", "(I)I"⟩
abbrev cX10_judge : ByteArray := prog_12_method_76_code
def yX10_judge : MethodName := ⟨RX10, "judge", "(I)I"⟩
abbrev cX10_image : ByteArray := prog_12_method_77_code
def yX10_image : MethodName := ⟨RX10, "image", "()I"⟩
abbrev cX10_restore : ByteArray := prog_12_method_78_code
def yX10_restore : MethodName := ⟨RX10, "restore", "()I"⟩
abbrev cX10_tell : ByteArray := prog_12_method_79_code
def yX10_tell : MethodName := ⟨RX10, "tell", "(I)I"⟩
abbrev cX10_check : ByteArray := prog_12_method_80_code
def yX10_check : MethodName := ⟨RX10, "check", "()I"⟩
abbrev cX10_sumOf : ByteArray := prog_12_method_81_code
def yX10_sumOf : MethodName := ⟨RX10, "sumOf", "(I)I"⟩
abbrev cX10_count : ByteArray := prog_12_method_82_code
def yX10_count : MethodName := ⟨RX10, "count", "(I)I"⟩
abbrev cX10_told : ByteArray := prog_12_method_83_code
def yX10_told : MethodName := ⟨RX10, "told", "(I)I"⟩
def RJx145de : String := "java/io/Serializable"
def TJx145de : u_T := fun k => match k with
  | _ => ("", "", "", false)
def tyJx145de : Nat → FieldType := fun k => match k with
  | _ => .int
theorem nmJx145de : ∀ a, a < 0 → ∀ b, b < 0 → a ≠ b → (TJx145de a).2.1 ≠ (TJx145de b).2.1 := by decide +kernel
theorem tyJx145de_ok : ∀ k, k < 0 → parseFieldDescriptor (TJx145de k).2.2.1 = some (tyJx145de k) := by decide +kernel
def RJx9f9b0 : String := "java/lang/CharSequence"
def TJx9f9b0 : u_T := fun k => match k with
  | _ => ("", "", "", false)
def tyJx9f9b0 : Nat → FieldType := fun k => match k with
  | _ => .int
theorem nmJx9f9b0 : ∀ a, a < 0 → ∀ b, b < 0 → a ≠ b → (TJx9f9b0 a).2.1 ≠ (TJx9f9b0 b).2.1 := by decide +kernel
theorem tyJx9f9b0_ok : ∀ k, k < 0 → parseFieldDescriptor (TJx9f9b0 k).2.2.1 = some (tyJx9f9b0 k) := by decide +kernel
def RJ11 : String := "java/lang/Character"
def TJ11 : u_T := fun k => match k with
  | _ => ("", "", "", false)
def tyJ11 : Nat → FieldType := fun k => match k with
  | _ => .int
theorem nmJ11 : ∀ a, a < 0 → ∀ b, b < 0 → a ≠ b → (TJ11 a).2.1 ≠ (TJ11 b).2.1 := by decide +kernel
theorem tyJ11_ok : ∀ k, k < 0 → parseFieldDescriptor (TJ11 k).2.2.1 = some (tyJ11 k) := by decide +kernel
abbrev cJ11_isValidCodePoint_9a6ad : ByteArray := prog_13_method_11_code
def yJ11_isValidCodePoint_9a6ad : MethodName := ⟨RJ11, "isValidCodePoint", "(I)Z"⟩
abbrev cJ11_highSurrogate_5068e : ByteArray := prog_13_method_28_code
def yJ11_highSurrogate_5068e : MethodName := ⟨RJ11, "highSurrogate", "(I)C"⟩
abbrev cJ11_lowSurrogate_5068e : ByteArray := prog_13_method_29_code
def yJ11_lowSurrogate_5068e : MethodName := ⟨RJ11, "lowSurrogate", "(I)C"⟩
def RJxb160c : String := "java/lang/Comparable"
def TJxb160c : u_T := fun k => match k with
  | _ => ("", "", "", false)
def tyJxb160c : Nat → FieldType := fun k => match k with
  | _ => .int
theorem nmJxb160c : ∀ a, a < 0 → ∀ b, b < 0 → a ≠ b → (TJxb160c a).2.1 ≠ (TJxb160c b).2.1 := by decide +kernel
theorem tyJxb160c_ok : ∀ k, k < 0 → parseFieldDescriptor (TJxb160c k).2.2.1 = some (tyJxb160c k) := by decide +kernel
def RJ9 : String := "java/lang/Math"
def TJ9 : u_T := fun k => match k with
  | _ => ("", "", "", false)
def tyJ9 : Nat → FieldType := fun k => match k with
  | _ => .int
theorem nmJ9 : ∀ a, a < 0 → ∀ b, b < 0 → a ≠ b → (TJ9 a).2.1 ≠ (TJ9 b).2.1 := by decide +kernel
theorem tyJ9_ok : ∀ k, k < 0 → parseFieldDescriptor (TJ9 k).2.2.1 = some (tyJ9 k) := by decide +kernel
abbrev cJ9_abs_0f7a4 : ByteArray := prog_14_method_59_code
def yJ9_abs_0f7a4 : MethodName := ⟨RJ9, "abs", "(I)I"⟩
abbrev cJ9_max_7cf53 : ByteArray := prog_14_method_65_code
def yJ9_max_7cf53 : MethodName := ⟨RJ9, "max", "(II)I"⟩
abbrev cJ9_min_7cf53 : ByteArray := prog_14_method_69_code
def yJ9_min_7cf53 : MethodName := ⟨RJ9, "min", "(II)I"⟩
def RJ0 : String := "java/lang/String"
def TJ0 : u_T := fun k => match k with
  | _ => ("", "", "", false)
def tyJ0 : Nat → FieldType := fun k => match k with
  | _ => .int
theorem nmJ0 : ∀ a, a < 0 → ∀ b, b < 0 → a ≠ b → (TJ0 a).2.1 ≠ (TJ0 b).2.1 := by decide +kernel
theorem tyJ0_ok : ∀ k, k < 0 → parseFieldDescriptor (TJ0 k).2.2.1 = some (tyJ0 k) := by decide +kernel
abbrev cJ0_length_8abf5 : ByteArray := prog_15_method_54_code
def yJ0_length_8abf5 : MethodName := ⟨RJ0, "length", "()I"⟩
abbrev cJ0_indexOf_0f7a4 : ByteArray := prog_15_method_79_code
def yJ0_indexOf_0f7a4 : MethodName := ⟨RJ0, "indexOf", "(I)I"⟩
abbrev cJ0_indexOf_7cf53 : ByteArray := prog_15_method_80_code
def yJ0_indexOf_7cf53 : MethodName := ⟨RJ0, "indexOf", "(II)I"⟩
abbrev cJ0_coder_7d493 : ByteArray := prog_15_method_152_code
def yJ0_coder_7d493 : MethodName := ⟨RJ0, "coder", "()B"⟩
abbrev cJ0_isLatin1_aae02 : ByteArray := prog_15_method_154_code
def yJ0_isLatin1_aae02 : MethodName := ⟨RJ0, "isLatin1", "()Z"⟩
abbrev cJ0_checkBoundsBeginEnd_23922 : ByteArray := prog_15_method_158_code
def yJ0_checkBoundsBeginEnd_23922 : MethodName := ⟨RJ0, "checkBoundsBeginEnd", "(III)V"⟩
def RJ1 : String := "java/lang/StringLatin1"
def TJ1 : u_T := fun k => match k with
  | _ => ("", "", "", false)
def tyJ1 : Nat → FieldType := fun k => match k with
  | _ => .int
theorem nmJ1 : ∀ a, a < 0 → ∀ b, b < 0 → a ≠ b → (TJ1 a).2.1 ≠ (TJ1 b).2.1 := by decide +kernel
theorem tyJ1_ok : ∀ k, k < 0 → parseFieldDescriptor (TJ1 k).2.2.1 = some (tyJ1 k) := by decide +kernel
abbrev cJ1_canEncode_9a6ad : ByteArray := prog_16_method_4_code
def yJ1_canEncode_9a6ad : MethodName := ⟨RJ1, "canEncode", "(I)Z"⟩
abbrev cJ1_indexOf_4cfef : ByteArray := prog_16_method_22_code
def yJ1_indexOf_4cfef : MethodName := ⟨RJ1, "indexOf", "([BIII)I"⟩
abbrev cJ1_indexOfChar_4cfef : ByteArray := prog_16_method_23_code
def yJ1_indexOfChar_4cfef : MethodName := ⟨RJ1, "indexOfChar", "([BIII)I"⟩
def RJ2 : String := "java/lang/StringUTF16"
def TJ2 : u_T := fun k => match k with
  | _ => ("", "", "", false)
def tyJ2 : Nat → FieldType := fun k => match k with
  | _ => .int
theorem nmJ2 : ∀ a, a < 0 → ∀ b, b < 0 → a ≠ b → (TJ2 a).2.1 ≠ (TJ2 b).2.1 := by decide +kernel
theorem tyJ2_ok : ∀ k, k < 0 → parseFieldDescriptor (TJ2 k).2.2.1 = some (tyJ2 k) := by decide +kernel
abbrev cJ2_getChar_3b067 : ByteArray := prog_17_method_5_code
def yJ2_getChar_3b067 : MethodName := ⟨RJ2, "getChar", "([BI)C"⟩
abbrev cJ2_length_9d52b : ByteArray := prog_17_method_6_code
def yJ2_length_9d52b : MethodName := ⟨RJ2, "length", "([B)I"⟩
abbrev cJ2_indexOf_4cfef : ByteArray := prog_17_method_40_code
def yJ2_indexOf_4cfef : MethodName := ⟨RJ2, "indexOf", "([BIII)I"⟩
abbrev cJ2_indexOfChar_4cfef : ByteArray := prog_17_method_47_code
def yJ2_indexOfChar_4cfef : MethodName := ⟨RJ2, "indexOfChar", "([BIII)I"⟩
abbrev cJ2_indexOfCharUnsafe_4cfef : ByteArray := prog_17_method_48_code
def yJ2_indexOfCharUnsafe_4cfef : MethodName := ⟨RJ2, "indexOfCharUnsafe", "([BIII)I"⟩
abbrev cJ2_indexOfSupplementary_4cfef : ByteArray := prog_17_method_49_code
def yJ2_indexOfSupplementary_4cfef : MethodName := ⟨RJ2, "indexOfSupplementary", "([BIII)I"⟩
abbrev cJ2_checkBoundsBeginEnd_d044e : ByteArray := prog_17_method_93_code
def yJ2_checkBoundsBeginEnd_d044e : MethodName := ⟨RJ2, "checkBoundsBeginEnd", "(II[B)V"⟩
def RJ10 : String := "java/lang/System"
def TJ10 : u_T := fun k => match k with
  | _ => ("", "", "", false)
def tyJ10 : Nat → FieldType := fun k => match k with
  | _ => .int
theorem nmJ10 : ∀ a, a < 0 → ∀ b, b < 0 → a ≠ b → (TJ10 a).2.1 ≠ (TJ10 b).2.1 := by decide +kernel
theorem tyJ10_ok : ∀ k, k < 0 → parseFieldDescriptor (TJ10 k).2.2.1 = some (tyJ10 k) := by decide +kernel
def RJxfd54e : String := "java/lang/constant/Constable"
def TJxfd54e : u_T := fun k => match k with
  | _ => ("", "", "", false)
def tyJxfd54e : Nat → FieldType := fun k => match k with
  | _ => .int
theorem nmJxfd54e : ∀ a, a < 0 → ∀ b, b < 0 → a ≠ b → (TJxfd54e a).2.1 ≠ (TJxfd54e b).2.1 := by decide +kernel
theorem tyJxfd54e_ok : ∀ k, k < 0 → parseFieldDescriptor (TJxfd54e k).2.2.1 = some (tyJxfd54e k) := by decide +kernel
def RJx3cf43 : String := "java/lang/constant/ConstantDesc"
def TJx3cf43 : u_T := fun k => match k with
  | _ => ("", "", "", false)
def tyJx3cf43 : Nat → FieldType := fun k => match k with
  | _ => .int
theorem nmJx3cf43 : ∀ a, a < 0 → ∀ b, b < 0 → a ≠ b → (TJx3cf43 a).2.1 ≠ (TJx3cf43 b).2.1 := by decide +kernel
theorem tyJx3cf43_ok : ∀ k, k < 0 → parseFieldDescriptor (TJx3cf43 k).2.2.1 = some (tyJx3cf43 k) := by decide +kernel
def RJ7 : String := "java/util/Arrays"
def TJ7 : u_T := fun k => match k with
  | _ => ("", "", "", false)
def tyJ7 : Nat → FieldType := fun k => match k with
  | _ => .int
theorem nmJ7 : ∀ a, a < 0 → ∀ b, b < 0 → a ≠ b → (TJ7 a).2.1 ≠ (TJ7 b).2.1 := by decide +kernel
theorem tyJ7_ok : ∀ k, k < 0 → parseFieldDescriptor (TJ7 k).2.2.1 = some (tyJ7 k) := by decide +kernel
abbrev cJ7_fill_53178 : ByteArray := prog_19_method_103_code
def yJ7_fill_53178 : MethodName := ⟨RJ7, "fill", "([II)V"⟩
def RJ3 : String := "jdk/internal/util/Preconditions"
def TJ3 : u_T := fun k => match k with
  | _ => ("", "", "", false)
def tyJ3 : Nat → FieldType := fun k => match k with
  | _ => .int
theorem nmJ3 : ∀ a, a < 0 → ∀ b, b < 0 → a ≠ b → (TJ3 a).2.1 ≠ (TJ3 b).2.1 := by decide +kernel
theorem tyJ3_ok : ∀ k, k < 0 → parseFieldDescriptor (TJ3 k).2.2.1 = some (tyJ3 k) := by decide +kernel
abbrev cJ3_checkFromToIndex_8c36e : ByteArray := prog_20_method_12_code
def yJ3_checkFromToIndex_8c36e : MethodName := ⟨RJ3, "checkFromToIndex", "(IIILjava/util/function/BiFunction;)I"⟩
def RL : String := "LoopsBelowLaw"
abbrev cL_law : ByteArray := code
def yL_law : MethodName := ⟨RL, "law", "([I)Z"⟩
abbrev vwCl : List vw_C := [(RX0, TX0, 5), (RX1, TX1, 5), (RX2, TX2, 5), (RX3, TX3, 3), (RX4, TX4, 6), (RX5, TX5, 7), (RX6, TX6, 3), (RX7, TX7, 10), (RX8, TX8, 6), (RX9, TX9, 11), (RX10, TX10, 27)]
end
section
theorem dX0_init_0 : decode cX0_init 0 = .ok (.aload_n 0, 1) := by decide +kernel
theorem dX0_init_1 : decode cX0_init 1 = .ok (.invokespecial 3, 3) := by decide +kernel
theorem dX0_init_4 : decode cX0_init 4 = .ok (.aload_n 0, 1) := by decide +kernel
theorem dX0_init_5 : decode cX0_init 5 = .ok (.bipush 40, 2) := by decide +kernel
theorem dX0_init_7 : decode cX0_init 7 = .ok (.newarray .int, 2) := by decide +kernel
theorem dX0_init_9 : decode cX0_init 9 = .ok (.putfield 9, 3) := by decide +kernel
theorem dX0_init_12 : decode cX0_init 12 = .ok (.return_, 1) := by decide +kernel
theorem dX0_sing_0 : decode cX0_sing 0 = .ok (.aload_n 0, 1) := by decide +kernel
theorem dX0_sing_1 : decode cX0_sing 1 = .ok (.aload_n 1, 1) := by decide +kernel
theorem dX0_sing_2 : decode cX0_sing 2 = .ok (.getfield 15, 3) := by decide +kernel
theorem dX0_sing_5 : decode cX0_sing 5 = .ok (.putfield 21, 3) := by decide +kernel
theorem dX0_sing_8 : decode cX0_sing 8 = .ok (.aload_n 0, 1) := by decide +kernel
theorem dX0_sing_9 : decode cX0_sing 9 = .ok (.aload_n 1, 1) := by decide +kernel
theorem dX0_sing_10 : decode cX0_sing 10 = .ok (.getfield 22, 3) := by decide +kernel
theorem dX0_sing_13 : decode cX0_sing 13 = .ok (.putfield 25, 3) := by decide +kernel
theorem dX0_sing_16 : decode cX0_sing 16 = .ok (.aload_n 0, 1) := by decide +kernel
theorem dX0_sing_17 : decode cX0_sing 17 = .ok (.iload_n 2, 1) := by decide +kernel
theorem dX0_sing_18 : decode cX0_sing 18 = .ok (.putfield 26, 3) := by decide +kernel
theorem dX0_sing_21 : decode cX0_sing 21 = .ok (.aload_n 0, 1) := by decide +kernel
theorem dX0_sing_22 : decode cX0_sing 22 = .ok (.iconst 0, 1) := by decide +kernel
theorem dX0_sing_23 : decode cX0_sing 23 = .ok (.putfield 29, 3) := by decide +kernel
theorem dX0_sing_26 : decode cX0_sing 26 = .ok (.aload_n 0, 1) := by decide +kernel
theorem dX0_sing_27 : decode cX0_sing 27 = .ok (.aload_n 0, 1) := by decide +kernel
theorem dX0_sing_28 : decode cX0_sing 28 = .ok (.getfield 21, 3) := by decide +kernel
theorem dX0_sing_31 : decode cX0_sing 31 = .ok (.iload_n 3, 1) := by decide +kernel
theorem dX0_sing_32 : decode cX0_sing 32 = .ok (.iload 4, 2) := by decide +kernel
theorem dX0_sing_34 : decode cX0_sing 34 = .ok (.iconst 0, 1) := by decide +kernel
theorem dX0_sing_35 : decode cX0_sing 35 = .ok (.invokevirtual 32, 3) := by decide +kernel
theorem dX0_sing_38 : decode cX0_sing 38 = .ok (.ireturn, 1) := by decide +kernel
theorem dX0_speak_0 : decode cX0_speak 0 = .ok (.iload 4, 2) := by decide +kernel
theorem dX0_speak_2 : decode cX0_speak 2 = .ok (.bipush 40, 2) := by decide +kernel
theorem dX0_speak_4 : decode cX0_speak 4 = .ok (.if_icmp .lt 5, 3) := by decide +kernel
theorem dX0_speak_7 : decode cX0_speak 7 = .ok (.iconst 0, 1) := by decide +kernel
theorem dX0_speak_8 : decode cX0_speak 8 = .ok (.ireturn, 1) := by decide +kernel
theorem dX0_speak_9 : decode cX0_speak 9 = .ok (.iload_n 1, 1) := by decide +kernel
theorem dX0_speak_10 : decode cX0_speak 10 = .ok (.iload_n 2, 1) := by decide +kernel
theorem dX0_speak_11 : decode cX0_speak 11 = .ok (.invokestatic 36, 3) := by decide +kernel
theorem dX0_speak_14 : decode cX0_speak 14 = .ok (.istore 5, 2) := by decide +kernel
theorem dX0_speak_16 : decode cX0_speak 16 = .ok (.aload_n 0, 1) := by decide +kernel
theorem dX0_speak_17 : decode cX0_speak 17 = .ok (.iload 5, 2) := by decide +kernel
theorem dX0_speak_19 : decode cX0_speak 19 = .ok (.invokevirtual 40, 3) := by decide +kernel
theorem dX0_speak_22 : decode cX0_speak 22 = .ok (.iload 4, 2) := by decide +kernel
theorem dX0_speak_24 : decode cX0_speak 24 = .ok (.iconst 1, 1) := by decide +kernel
theorem dX0_speak_25 : decode cX0_speak 25 = .ok (.iadd, 1) := by decide +kernel
theorem dX0_speak_26 : decode cX0_speak 26 = .ok (.istore 6, 2) := by decide +kernel
theorem dX0_speak_28 : decode cX0_speak 28 = .ok (.iload 5, 2) := by decide +kernel
theorem dX0_speak_30 : decode cX0_speak 30 = .ok (.lookupswitch 272 #[(10, 98), (11, 105), (12, 120), (13, 127), (20, 153), (30, 165), (40, 188), (50, 199), (60, 222), (70, 234), (71, 249)], 98) := by decide +kernel
theorem dX0_speak_128 : decode cX0_speak 128 = .ok (.iload_n 3, 1) := by decide +kernel
theorem dX0_speak_129 : decode cX0_speak 129 = .ok (.aload_n 0, 1) := by decide +kernel
theorem dX0_speak_130 : decode cX0_speak 130 = .ok (.getfield 26, 3) := by decide +kernel
theorem dX0_speak_133 : decode cX0_speak 133 = .ok (.iadd, 1) := by decide +kernel
theorem dX0_speak_134 : decode cX0_speak 134 = .ok (.ireturn, 1) := by decide +kernel
theorem dX0_speak_135 : decode cX0_speak 135 = .ok (.aload_n 0, 1) := by decide +kernel
theorem dX0_speak_136 : decode cX0_speak 136 = .ok (.aload_n 0, 1) := by decide +kernel
theorem dX0_speak_137 : decode cX0_speak 137 = .ok (.getfield 21, 3) := by decide +kernel
theorem dX0_speak_140 : decode cX0_speak 140 = .ok (.iconst 0, 1) := by decide +kernel
theorem dX0_speak_141 : decode cX0_speak 141 = .ok (.iload_n 3, 1) := by decide +kernel
theorem dX0_speak_142 : decode cX0_speak 142 = .ok (.iload 6, 2) := by decide +kernel
theorem dX0_speak_144 : decode cX0_speak 144 = .ok (.invokevirtual 32, 3) := by decide +kernel
theorem dX0_speak_147 : decode cX0_speak 147 = .ok (.iconst 2, 1) := by decide +kernel
theorem dX0_speak_148 : decode cX0_speak 148 = .ok (.imul, 1) := by decide +kernel
theorem dX0_speak_149 : decode cX0_speak 149 = .ok (.ireturn, 1) := by decide +kernel
theorem dX0_speak_150 : decode cX0_speak 150 = .ok (.iload_n 3, 1) := by decide +kernel
theorem dX0_speak_151 : decode cX0_speak 151 = .ok (.aload_n 0, 1) := by decide +kernel
theorem dX0_speak_152 : decode cX0_speak 152 = .ok (.getfield 25, 3) := by decide +kernel
theorem dX0_speak_155 : decode cX0_speak 155 = .ok (.isub, 1) := by decide +kernel
theorem dX0_speak_156 : decode cX0_speak 156 = .ok (.ireturn, 1) := by decide +kernel
theorem dX0_speak_157 : decode cX0_speak 157 = .ok (.aload_n 0, 1) := by decide +kernel
theorem dX0_speak_158 : decode cX0_speak 158 = .ok (.aload_n 0, 1) := by decide +kernel
theorem dX0_speak_159 : decode cX0_speak 159 = .ok (.getfield 21, 3) := by decide +kernel
theorem dX0_speak_162 : decode cX0_speak 162 = .ok (.iconst 1, 1) := by decide +kernel
theorem dX0_speak_163 : decode cX0_speak 163 = .ok (.iload_n 3, 1) := by decide +kernel
theorem dX0_speak_164 : decode cX0_speak 164 = .ok (.iload 6, 2) := by decide +kernel
theorem dX0_speak_166 : decode cX0_speak 166 = .ok (.invokevirtual 32, 3) := by decide +kernel
theorem dX0_speak_169 : decode cX0_speak 169 = .ok (.aload_n 0, 1) := by decide +kernel
theorem dX0_speak_170 : decode cX0_speak 170 = .ok (.aload_n 0, 1) := by decide +kernel
theorem dX0_speak_171 : decode cX0_speak 171 = .ok (.getfield 21, 3) := by decide +kernel
theorem dX0_speak_174 : decode cX0_speak 174 = .ok (.iconst 2, 1) := by decide +kernel
theorem dX0_speak_175 : decode cX0_speak 175 = .ok (.iload_n 3, 1) := by decide +kernel
theorem dX0_speak_176 : decode cX0_speak 176 = .ok (.iload 6, 2) := by decide +kernel
theorem dX0_speak_178 : decode cX0_speak 178 = .ok (.invokevirtual 32, 3) := by decide +kernel
theorem dX0_speak_181 : decode cX0_speak 181 = .ok (.ixor, 1) := by decide +kernel
theorem dX0_speak_182 : decode cX0_speak 182 = .ok (.ireturn, 1) := by decide +kernel
theorem dX0_speak_183 : decode cX0_speak 183 = .ok (.aload_n 0, 1) := by decide +kernel
theorem dX0_speak_184 : decode cX0_speak 184 = .ok (.iconst 0, 1) := by decide +kernel
theorem dX0_speak_185 : decode cX0_speak 185 = .ok (.iconst 0, 1) := by decide +kernel
theorem dX0_speak_186 : decode cX0_speak 186 = .ok (.iload_n 3, 1) := by decide +kernel
theorem dX0_speak_187 : decode cX0_speak 187 = .ok (.iload 6, 2) := by decide +kernel
theorem dX0_speak_189 : decode cX0_speak 189 = .ok (.invokevirtual 32, 3) := by decide +kernel
theorem dX0_speak_192 : decode cX0_speak 192 = .ok (.iconst 3, 1) := by decide +kernel
theorem dX0_speak_193 : decode cX0_speak 193 = .ok (.imul, 1) := by decide +kernel
theorem dX0_speak_194 : decode cX0_speak 194 = .ok (.ireturn, 1) := by decide +kernel
theorem dX0_speak_195 : decode cX0_speak 195 = .ok (.aload_n 0, 1) := by decide +kernel
theorem dX0_speak_196 : decode cX0_speak 196 = .ok (.iconst 0, 1) := by decide +kernel
theorem dX0_speak_197 : decode cX0_speak 197 = .ok (.iconst 1, 1) := by decide +kernel
theorem dX0_speak_198 : decode cX0_speak 198 = .ok (.iload_n 3, 1) := by decide +kernel
theorem dX0_speak_199 : decode cX0_speak 199 = .ok (.iload 6, 2) := by decide +kernel
theorem dX0_speak_201 : decode cX0_speak 201 = .ok (.invokevirtual 32, 3) := by decide +kernel
theorem dX0_speak_204 : decode cX0_speak 204 = .ok (.aload_n 0, 1) := by decide +kernel
theorem dX0_speak_205 : decode cX0_speak 205 = .ok (.aload_n 0, 1) := by decide +kernel
theorem dX0_speak_206 : decode cX0_speak 206 = .ok (.getfield 21, 3) := by decide +kernel
theorem dX0_speak_209 : decode cX0_speak 209 = .ok (.iconst 2, 1) := by decide +kernel
theorem dX0_speak_210 : decode cX0_speak 210 = .ok (.iconst 1, 1) := by decide +kernel
theorem dX0_speak_211 : decode cX0_speak 211 = .ok (.iload 6, 2) := by decide +kernel
theorem dX0_speak_213 : decode cX0_speak 213 = .ok (.invokevirtual 32, 3) := by decide +kernel
theorem dX0_speak_216 : decode cX0_speak 216 = .ok (.isub, 1) := by decide +kernel
theorem dX0_speak_217 : decode cX0_speak 217 = .ok (.ireturn, 1) := by decide +kernel
theorem dX0_speak_218 : decode cX0_speak 218 = .ok (.aload_n 0, 1) := by decide +kernel
theorem dX0_speak_219 : decode cX0_speak 219 = .ok (.iconst 0, 1) := by decide +kernel
theorem dX0_speak_220 : decode cX0_speak 220 = .ok (.iconst 2, 1) := by decide +kernel
theorem dX0_speak_221 : decode cX0_speak 221 = .ok (.iload_n 3, 1) := by decide +kernel
theorem dX0_speak_222 : decode cX0_speak 222 = .ok (.iload 6, 2) := by decide +kernel
theorem dX0_speak_224 : decode cX0_speak 224 = .ok (.invokevirtual 32, 3) := by decide +kernel
theorem dX0_speak_227 : decode cX0_speak 227 = .ok (.ineg, 1) := by decide +kernel
theorem dX0_speak_228 : decode cX0_speak 228 = .ok (.ireturn, 1) := by decide +kernel
theorem dX0_speak_229 : decode cX0_speak 229 = .ok (.aload_n 0, 1) := by decide +kernel
theorem dX0_speak_230 : decode cX0_speak 230 = .ok (.iconst 1, 1) := by decide +kernel
theorem dX0_speak_231 : decode cX0_speak 231 = .ok (.iconst 3, 1) := by decide +kernel
theorem dX0_speak_232 : decode cX0_speak 232 = .ok (.iload_n 3, 1) := by decide +kernel
theorem dX0_speak_233 : decode cX0_speak 233 = .ok (.iload 6, 2) := by decide +kernel
theorem dX0_speak_235 : decode cX0_speak 235 = .ok (.invokevirtual 32, 3) := by decide +kernel
theorem dX0_speak_238 : decode cX0_speak 238 = .ok (.aload_n 0, 1) := by decide +kernel
theorem dX0_speak_239 : decode cX0_speak 239 = .ok (.aload_n 0, 1) := by decide +kernel
theorem dX0_speak_240 : decode cX0_speak 240 = .ok (.getfield 21, 3) := by decide +kernel
theorem dX0_speak_243 : decode cX0_speak 243 = .ok (.iconst 0, 1) := by decide +kernel
theorem dX0_speak_244 : decode cX0_speak 244 = .ok (.iconst 2, 1) := by decide +kernel
theorem dX0_speak_245 : decode cX0_speak 245 = .ok (.iload 6, 2) := by decide +kernel
theorem dX0_speak_247 : decode cX0_speak 247 = .ok (.invokevirtual 32, 3) := by decide +kernel
theorem dX0_speak_250 : decode cX0_speak 250 = .ok (.isub, 1) := by decide +kernel
theorem dX0_speak_251 : decode cX0_speak 251 = .ok (.ireturn, 1) := by decide +kernel
theorem dX0_speak_252 : decode cX0_speak 252 = .ok (.aload_n 0, 1) := by decide +kernel
theorem dX0_speak_253 : decode cX0_speak 253 = .ok (.iconst 2, 1) := by decide +kernel
theorem dX0_speak_254 : decode cX0_speak 254 = .ok (.iconst 1, 1) := by decide +kernel
theorem dX0_speak_255 : decode cX0_speak 255 = .ok (.iload_n 3, 1) := by decide +kernel
theorem dX0_speak_256 : decode cX0_speak 256 = .ok (.iconst 1, 1) := by decide +kernel
theorem dX0_speak_257 : decode cX0_speak 257 = .ok (.iadd, 1) := by decide +kernel
theorem dX0_speak_258 : decode cX0_speak 258 = .ok (.iload 6, 2) := by decide +kernel
theorem dX0_speak_260 : decode cX0_speak 260 = .ok (.invokevirtual 32, 3) := by decide +kernel
theorem dX0_speak_263 : decode cX0_speak 263 = .ok (.ireturn, 1) := by decide +kernel
theorem dX0_speak_264 : decode cX0_speak 264 = .ok (.aload_n 0, 1) := by decide +kernel
theorem dX0_speak_265 : decode cX0_speak 265 = .ok (.iconst 3, 1) := by decide +kernel
theorem dX0_speak_266 : decode cX0_speak 266 = .ok (.iconst 2, 1) := by decide +kernel
theorem dX0_speak_267 : decode cX0_speak 267 = .ok (.iload_n 3, 1) := by decide +kernel
theorem dX0_speak_268 : decode cX0_speak 268 = .ok (.iload 6, 2) := by decide +kernel
theorem dX0_speak_270 : decode cX0_speak 270 = .ok (.invokevirtual 32, 3) := by decide +kernel
theorem dX0_speak_273 : decode cX0_speak 273 = .ok (.aload_n 0, 1) := by decide +kernel
theorem dX0_speak_274 : decode cX0_speak 274 = .ok (.getfield 26, 3) := by decide +kernel
theorem dX0_speak_277 : decode cX0_speak 277 = .ok (.ixor, 1) := by decide +kernel
theorem dX0_speak_278 : decode cX0_speak 278 = .ok (.ireturn, 1) := by decide +kernel
theorem dX0_speak_279 : decode cX0_speak 279 = .ok (.aload_n 0, 1) := by decide +kernel
theorem dX0_speak_280 : decode cX0_speak 280 = .ok (.aload_n 0, 1) := by decide +kernel
theorem dX0_speak_281 : decode cX0_speak 281 = .ok (.getfield 21, 3) := by decide +kernel
theorem dX0_speak_284 : decode cX0_speak 284 = .ok (.iconst 1, 1) := by decide +kernel
theorem dX0_speak_285 : decode cX0_speak 285 = .ok (.iload_n 3, 1) := by decide +kernel
theorem dX0_speak_286 : decode cX0_speak 286 = .ok (.iload 6, 2) := by decide +kernel
theorem dX0_speak_288 : decode cX0_speak 288 = .ok (.invokevirtual 32, 3) := by decide +kernel
theorem dX0_speak_291 : decode cX0_speak 291 = .ok (.aload_n 0, 1) := by decide +kernel
theorem dX0_speak_292 : decode cX0_speak 292 = .ok (.iconst 3, 1) := by decide +kernel
theorem dX0_speak_293 : decode cX0_speak 293 = .ok (.iconst 3, 1) := by decide +kernel
theorem dX0_speak_294 : decode cX0_speak 294 = .ok (.iload_n 3, 1) := by decide +kernel
theorem dX0_speak_295 : decode cX0_speak 295 = .ok (.iload 6, 2) := by decide +kernel
theorem dX0_speak_297 : decode cX0_speak 297 = .ok (.invokevirtual 32, 3) := by decide +kernel
theorem dX0_speak_300 : decode cX0_speak 300 = .ok (.isub, 1) := by decide +kernel
theorem dX0_speak_301 : decode cX0_speak 301 = .ok (.ireturn, 1) := by decide +kernel
theorem dX0_speak_302 : decode cX0_speak 302 = .ok (.iconst 0, 1) := by decide +kernel
theorem dX0_speak_303 : decode cX0_speak 303 = .ok (.ireturn, 1) := by decide +kernel
theorem dX0_bodyFrom_0 : decode cX0_bodyFrom 0 = .ok (.iload_n 0, 1) := by decide +kernel
theorem dX0_bodyFrom_1 : decode cX0_bodyFrom 1 = .ok (.istore_n 2, 1) := by decide +kernel
theorem dX0_bodyFrom_2 : decode cX0_bodyFrom 2 = .ok (.iconst 0, 1) := by decide +kernel
theorem dX0_bodyFrom_3 : decode cX0_bodyFrom 3 = .ok (.istore_n 3, 1) := by decide +kernel
theorem dX0_bodyFrom_4 : decode cX0_bodyFrom 4 = .ok (.iload_n 3, 1) := by decide +kernel
theorem dX0_bodyFrom_5 : decode cX0_bodyFrom 5 = .ok (.bipush 7, 2) := by decide +kernel
theorem dX0_bodyFrom_7 : decode cX0_bodyFrom 7 = .ok (.if_icmp .ge 43, 3) := by decide +kernel
theorem dX0_bodyFrom_10 : decode cX0_bodyFrom 10 = .ok (.iload_n 2, 1) := by decide +kernel
theorem dX0_bodyFrom_11 : decode cX0_bodyFrom 11 = .ok (.ifCond .lt 39, 3) := by decide +kernel
theorem dX0_bodyFrom_14 : decode cX0_bodyFrom 14 = .ok (.iload_n 2, 1) := by decide +kernel
theorem dX0_bodyFrom_15 : decode cX0_bodyFrom 15 = .ok (.bipush 7, 2) := by decide +kernel
theorem dX0_bodyFrom_17 : decode cX0_bodyFrom 17 = .ok (.if_icmp .ge 33, 3) := by decide +kernel
theorem dX0_bodyFrom_20 : decode cX0_bodyFrom 20 = .ok (.getstatic 44, 3) := by decide +kernel
theorem dX0_bodyFrom_23 : decode cX0_bodyFrom 23 = .ok (.iload_n 2, 1) := by decide +kernel
theorem dX0_bodyFrom_24 : decode cX0_bodyFrom 24 = .ok (.iconst 4, 1) := by decide +kernel
theorem dX0_bodyFrom_25 : decode cX0_bodyFrom 25 = .ok (.imul, 1) := by decide +kernel
theorem dX0_bodyFrom_26 : decode cX0_bodyFrom 26 = .ok (.iload_n 1, 1) := by decide +kernel
theorem dX0_bodyFrom_27 : decode cX0_bodyFrom 27 = .ok (.iadd, 1) := by decide +kernel
theorem dX0_bodyFrom_28 : decode cX0_bodyFrom 28 = .ok (.iaload, 1) := by decide +kernel
theorem dX0_bodyFrom_29 : decode cX0_bodyFrom 29 = .ok (.istore 4, 2) := by decide +kernel
theorem dX0_bodyFrom_31 : decode cX0_bodyFrom 31 = .ok (.iload 4, 2) := by decide +kernel
theorem dX0_bodyFrom_33 : decode cX0_bodyFrom 33 = .ok (.ifCond .eq 6, 3) := by decide +kernel
theorem dX0_bodyFrom_36 : decode cX0_bodyFrom 36 = .ok (.iload 4, 2) := by decide +kernel
theorem dX0_bodyFrom_38 : decode cX0_bodyFrom 38 = .ok (.ireturn, 1) := by decide +kernel
theorem dX0_bodyFrom_39 : decode cX0_bodyFrom 39 = .ok (.iload_n 2, 1) := by decide +kernel
theorem dX0_bodyFrom_40 : decode cX0_bodyFrom 40 = .ok (.invokestatic 47, 3) := by decide +kernel
theorem dX0_bodyFrom_43 : decode cX0_bodyFrom 43 = .ok (.istore_n 2, 1) := by decide +kernel
theorem dX0_bodyFrom_44 : decode cX0_bodyFrom 44 = .ok (.iinc 3 1, 3) := by decide +kernel
theorem dX0_bodyFrom_47 : decode cX0_bodyFrom 47 = .ok (.goto (-43), 3) := by decide +kernel
theorem dX0_bodyFrom_50 : decode cX0_bodyFrom 50 = .ok (.iconst 0, 1) := by decide +kernel
theorem dX0_bodyFrom_51 : decode cX0_bodyFrom 51 = .ok (.ireturn, 1) := by decide +kernel
theorem dX0_note_0 : decode cX0_note 0 = .ok (.aload_n 0, 1) := by decide +kernel
theorem dX0_note_1 : decode cX0_note 1 = .ok (.getfield 29, 3) := by decide +kernel
theorem dX0_note_4 : decode cX0_note 4 = .ok (.bipush 40, 2) := by decide +kernel
theorem dX0_note_6 : decode cX0_note 6 = .ok (.if_icmp .ge 23, 3) := by decide +kernel
theorem dX0_note_9 : decode cX0_note 9 = .ok (.aload_n 0, 1) := by decide +kernel
theorem dX0_note_10 : decode cX0_note 10 = .ok (.getfield 9, 3) := by decide +kernel
theorem dX0_note_13 : decode cX0_note 13 = .ok (.aload_n 0, 1) := by decide +kernel
theorem dX0_note_14 : decode cX0_note 14 = .ok (.getfield 29, 3) := by decide +kernel
theorem dX0_note_17 : decode cX0_note 17 = .ok (.iload_n 1, 1) := by decide +kernel
theorem dX0_note_18 : decode cX0_note 18 = .ok (.iastore, 1) := by decide +kernel
theorem dX0_note_19 : decode cX0_note 19 = .ok (.aload_n 0, 1) := by decide +kernel
theorem dX0_note_20 : decode cX0_note 20 = .ok (.dup, 1) := by decide +kernel
theorem dX0_note_21 : decode cX0_note 21 = .ok (.getfield 29, 3) := by decide +kernel
theorem dX0_note_24 : decode cX0_note 24 = .ok (.iconst 1, 1) := by decide +kernel
theorem dX0_note_25 : decode cX0_note 25 = .ok (.iadd, 1) := by decide +kernel
theorem dX0_note_26 : decode cX0_note 26 = .ok (.putfield 29, 3) := by decide +kernel
theorem dX0_note_29 : decode cX0_note 29 = .ok (.return_, 1) := by decide +kernel
theorem dX1_init_0 : decode cX1_init 0 = .ok (.aload_n 0, 1) := by decide +kernel
theorem dX1_init_1 : decode cX1_init 1 = .ok (.invokespecial 3, 3) := by decide +kernel
theorem dX1_init_4 : decode cX1_init 4 = .ok (.return_, 1) := by decide +kernel
theorem dX1_begin_0 : decode cX1_begin 0 = .ok (.aload_n 0, 1) := by decide +kernel
theorem dX1_begin_1 : decode cX1_begin 1 = .ok (.iload_n 1, 1) := by decide +kernel
theorem dX1_begin_2 : decode cX1_begin 2 = .ok (.invokevirtual 9, 3) := by decide +kernel
theorem dX1_begin_5 : decode cX1_begin 5 = .ok (.aload_n 0, 1) := by decide +kernel
theorem dX1_begin_6 : decode cX1_begin 6 = .ok (.iload_n 2, 1) := by decide +kernel
theorem dX1_begin_7 : decode cX1_begin 7 = .ok (.putfield 15, 3) := by decide +kernel
theorem dX1_begin_10 : decode cX1_begin 10 = .ok (.aload_n 0, 1) := by decide +kernel
theorem dX1_begin_11 : decode cX1_begin 11 = .ok (.iconst 0, 1) := by decide +kernel
theorem dX1_begin_12 : decode cX1_begin 12 = .ok (.putfield 19, 3) := by decide +kernel
theorem dX1_begin_15 : decode cX1_begin 15 = .ok (.aload_n 0, 1) := by decide +kernel
theorem dX1_begin_16 : decode cX1_begin 16 = .ok (.iconst 0, 1) := by decide +kernel
theorem dX1_begin_17 : decode cX1_begin 17 = .ok (.putfield 22, 3) := by decide +kernel
theorem dX1_begin_20 : decode cX1_begin 20 = .ok (.return_, 1) := by decide +kernel
theorem dX1_makeOf_0 : decode cX1_makeOf 0 = .ok (.aload_n 0, 1) := by decide +kernel
theorem dX1_makeOf_1 : decode cX1_makeOf 1 = .ok (.iload_n 1, 1) := by decide +kernel
theorem dX1_makeOf_2 : decode cX1_makeOf 2 = .ok (.bipush 10, 2) := by decide +kernel
theorem dX1_makeOf_4 : decode cX1_makeOf 4 = .ok (.idiv, 1) := by decide +kernel
theorem dX1_makeOf_5 : decode cX1_makeOf 5 = .ok (.putfield 25, 3) := by decide +kernel
theorem dX1_makeOf_8 : decode cX1_makeOf 8 = .ok (.aload_n 0, 1) := by decide +kernel
theorem dX1_makeOf_9 : decode cX1_makeOf 9 = .ok (.iload_n 1, 1) := by decide +kernel
theorem dX1_makeOf_10 : decode cX1_makeOf 10 = .ok (.bipush 10, 2) := by decide +kernel
theorem dX1_makeOf_12 : decode cX1_makeOf 12 = .ok (.irem, 1) := by decide +kernel
theorem dX1_makeOf_13 : decode cX1_makeOf 13 = .ok (.putfield 28, 3) := by decide +kernel
theorem dX1_makeOf_16 : decode cX1_makeOf 16 = .ok (.return_, 1) := by decide +kernel
theorem dX1_copyFrom_0 : decode cX1_copyFrom 0 = .ok (.aload_n 0, 1) := by decide +kernel
theorem dX1_copyFrom_1 : decode cX1_copyFrom 1 = .ok (.aload_n 1, 1) := by decide +kernel
theorem dX1_copyFrom_2 : decode cX1_copyFrom 2 = .ok (.getfield 25, 3) := by decide +kernel
theorem dX1_copyFrom_5 : decode cX1_copyFrom 5 = .ok (.putfield 25, 3) := by decide +kernel
theorem dX1_copyFrom_8 : decode cX1_copyFrom 8 = .ok (.aload_n 0, 1) := by decide +kernel
theorem dX1_copyFrom_9 : decode cX1_copyFrom 9 = .ok (.aload_n 1, 1) := by decide +kernel
theorem dX1_copyFrom_10 : decode cX1_copyFrom 10 = .ok (.getfield 28, 3) := by decide +kernel
theorem dX1_copyFrom_13 : decode cX1_copyFrom 13 = .ok (.putfield 28, 3) := by decide +kernel
theorem dX1_copyFrom_16 : decode cX1_copyFrom 16 = .ok (.aload_n 0, 1) := by decide +kernel
theorem dX1_copyFrom_17 : decode cX1_copyFrom 17 = .ok (.aload_n 1, 1) := by decide +kernel
theorem dX1_copyFrom_18 : decode cX1_copyFrom 18 = .ok (.getfield 15, 3) := by decide +kernel
theorem dX1_copyFrom_21 : decode cX1_copyFrom 21 = .ok (.putfield 15, 3) := by decide +kernel
theorem dX1_copyFrom_24 : decode cX1_copyFrom 24 = .ok (.aload_n 0, 1) := by decide +kernel
theorem dX1_copyFrom_25 : decode cX1_copyFrom 25 = .ok (.aload_n 1, 1) := by decide +kernel
theorem dX1_copyFrom_26 : decode cX1_copyFrom 26 = .ok (.getfield 19, 3) := by decide +kernel
theorem dX1_copyFrom_29 : decode cX1_copyFrom 29 = .ok (.putfield 19, 3) := by decide +kernel
theorem dX1_copyFrom_32 : decode cX1_copyFrom 32 = .ok (.aload_n 0, 1) := by decide +kernel
theorem dX1_copyFrom_33 : decode cX1_copyFrom 33 = .ok (.aload_n 1, 1) := by decide +kernel
theorem dX1_copyFrom_34 : decode cX1_copyFrom 34 = .ok (.getfield 22, 3) := by decide +kernel
theorem dX1_copyFrom_37 : decode cX1_copyFrom 37 = .ok (.putfield 22, 3) := by decide +kernel
theorem dX1_copyFrom_40 : decode cX1_copyFrom 40 = .ok (.return_, 1) := by decide +kernel
theorem dX1_isOf_0 : decode cX1_isOf 0 = .ok (.aload_n 0, 1) := by decide +kernel
theorem dX1_isOf_1 : decode cX1_isOf 1 = .ok (.getfield 25, 3) := by decide +kernel
theorem dX1_isOf_4 : decode cX1_isOf 4 = .ok (.istore_n 2, 1) := by decide +kernel
theorem dX1_isOf_5 : decode cX1_isOf 5 = .ok (.iconst 0, 1) := by decide +kernel
theorem dX1_isOf_6 : decode cX1_isOf 6 = .ok (.istore_n 3, 1) := by decide +kernel
theorem dX1_isOf_7 : decode cX1_isOf 7 = .ok (.iload_n 3, 1) := by decide +kernel
theorem dX1_isOf_8 : decode cX1_isOf 8 = .ok (.bipush 7, 2) := by decide +kernel
theorem dX1_isOf_10 : decode cX1_isOf 10 = .ok (.if_icmp .ge 26, 3) := by decide +kernel
theorem dX1_isOf_13 : decode cX1_isOf 13 = .ok (.iload_n 2, 1) := by decide +kernel
theorem dX1_isOf_14 : decode cX1_isOf 14 = .ok (.iconst (-1), 1) := by decide +kernel
theorem dX1_isOf_15 : decode cX1_isOf 15 = .ok (.if_icmp .eq 21, 3) := by decide +kernel
theorem dX1_isOf_18 : decode cX1_isOf 18 = .ok (.iload_n 2, 1) := by decide +kernel
theorem dX1_isOf_19 : decode cX1_isOf 19 = .ok (.iload_n 1, 1) := by decide +kernel
theorem dX1_isOf_20 : decode cX1_isOf 20 = .ok (.if_icmp .ne 5, 3) := by decide +kernel
theorem dX1_isOf_23 : decode cX1_isOf 23 = .ok (.iconst 1, 1) := by decide +kernel
theorem dX1_isOf_24 : decode cX1_isOf 24 = .ok (.ireturn, 1) := by decide +kernel
theorem dX1_isOf_25 : decode cX1_isOf 25 = .ok (.iload_n 2, 1) := by decide +kernel
theorem dX1_isOf_26 : decode cX1_isOf 26 = .ok (.invokestatic 31, 3) := by decide +kernel
theorem dX1_isOf_29 : decode cX1_isOf 29 = .ok (.istore_n 2, 1) := by decide +kernel
theorem dX1_isOf_30 : decode cX1_isOf 30 = .ok (.iinc 3 1, 3) := by decide +kernel
theorem dX1_isOf_33 : decode cX1_isOf 33 = .ok (.goto (-26), 3) := by decide +kernel
theorem dX1_isOf_36 : decode cX1_isOf 36 = .ok (.iconst 0, 1) := by decide +kernel
theorem dX1_isOf_37 : decode cX1_isOf 37 = .ok (.ireturn, 1) := by decide +kernel
theorem dX1_wantsMore_0 : decode cX1_wantsMore 0 = .ok (.iconst 0, 1) := by decide +kernel
theorem dX1_wantsMore_1 : decode cX1_wantsMore 1 = .ok (.istore_n 1, 1) := by decide +kernel
theorem dX1_wantsMore_2 : decode cX1_wantsMore 2 = .ok (.aload_n 0, 1) := by decide +kernel
theorem dX1_wantsMore_3 : decode cX1_wantsMore 3 = .ok (.getfield 25, 3) := by decide +kernel
theorem dX1_wantsMore_6 : decode cX1_wantsMore 6 = .ok (.istore_n 2, 1) := by decide +kernel
theorem dX1_wantsMore_7 : decode cX1_wantsMore 7 = .ok (.iconst 0, 1) := by decide +kernel
theorem dX1_wantsMore_8 : decode cX1_wantsMore 8 = .ok (.istore_n 3, 1) := by decide +kernel
theorem dX1_wantsMore_9 : decode cX1_wantsMore 9 = .ok (.iload_n 3, 1) := by decide +kernel
theorem dX1_wantsMore_10 : decode cX1_wantsMore 10 = .ok (.bipush 7, 2) := by decide +kernel
theorem dX1_wantsMore_12 : decode cX1_wantsMore 12 = .ok (.if_icmp .ge 27, 3) := by decide +kernel
theorem dX1_wantsMore_15 : decode cX1_wantsMore 15 = .ok (.iload_n 2, 1) := by decide +kernel
theorem dX1_wantsMore_16 : decode cX1_wantsMore 16 = .ok (.iconst (-1), 1) := by decide +kernel
theorem dX1_wantsMore_17 : decode cX1_wantsMore 17 = .ok (.if_icmp .eq 22, 3) := by decide +kernel
theorem dX1_wantsMore_20 : decode cX1_wantsMore 20 = .ok (.iload_n 1, 1) := by decide +kernel
theorem dX1_wantsMore_21 : decode cX1_wantsMore 21 = .ok (.aload_n 0, 1) := by decide +kernel
theorem dX1_wantsMore_22 : decode cX1_wantsMore 22 = .ok (.iload_n 2, 1) := by decide +kernel
theorem dX1_wantsMore_23 : decode cX1_wantsMore 23 = .ok (.invokevirtual 35, 3) := by decide +kernel
theorem dX1_wantsMore_26 : decode cX1_wantsMore 26 = .ok (.iadd, 1) := by decide +kernel
theorem dX1_wantsMore_27 : decode cX1_wantsMore 27 = .ok (.istore_n 1, 1) := by decide +kernel
theorem dX1_wantsMore_28 : decode cX1_wantsMore 28 = .ok (.iload_n 2, 1) := by decide +kernel
theorem dX1_wantsMore_29 : decode cX1_wantsMore 29 = .ok (.invokestatic 31, 3) := by decide +kernel
theorem dX1_wantsMore_32 : decode cX1_wantsMore 32 = .ok (.istore_n 2, 1) := by decide +kernel
theorem dX1_wantsMore_33 : decode cX1_wantsMore 33 = .ok (.iinc 3 1, 3) := by decide +kernel
theorem dX1_wantsMore_36 : decode cX1_wantsMore 36 = .ok (.goto (-27), 3) := by decide +kernel
theorem dX1_wantsMore_39 : decode cX1_wantsMore 39 = .ok (.iload_n 1, 1) := by decide +kernel
theorem dX1_wantsMore_40 : decode cX1_wantsMore 40 = .ok (.ireturn, 1) := by decide +kernel
theorem dX1_wantsMoreAs_0 : decode cX1_wantsMoreAs 0 = .ok (.iload_n 1, 1) := by decide +kernel
theorem dX1_wantsMoreAs_1 : decode cX1_wantsMoreAs 1 = .ok (.tableswitch 62 1 5 #[35, 38, 45, 52, 54], 35) := by decide +kernel
theorem dX1_wantsMoreAs_36 : decode cX1_wantsMoreAs 36 = .ok (.bipush (-2), 2) := by decide +kernel
theorem dX1_wantsMoreAs_38 : decode cX1_wantsMoreAs 38 = .ok (.ireturn, 1) := by decide +kernel
theorem dX1_wantsMoreAs_39 : decode cX1_wantsMoreAs 39 = .ok (.aload_n 0, 1) := by decide +kernel
theorem dX1_wantsMoreAs_40 : decode cX1_wantsMoreAs 40 = .ok (.getfield 15, 3) := by decide +kernel
theorem dX1_wantsMoreAs_43 : decode cX1_wantsMoreAs 43 = .ok (.iconst 2, 1) := by decide +kernel
theorem dX1_wantsMoreAs_44 : decode cX1_wantsMoreAs 44 = .ok (.idiv, 1) := by decide +kernel
theorem dX1_wantsMoreAs_45 : decode cX1_wantsMoreAs 45 = .ok (.ireturn, 1) := by decide +kernel
theorem dX1_wantsMoreAs_46 : decode cX1_wantsMoreAs 46 = .ok (.aload_n 0, 1) := by decide +kernel
theorem dX1_wantsMoreAs_47 : decode cX1_wantsMoreAs 47 = .ok (.getfield 28, 3) := by decide +kernel
theorem dX1_wantsMoreAs_50 : decode cX1_wantsMoreAs 50 = .ok (.iconst 3, 1) := by decide +kernel
theorem dX1_wantsMoreAs_51 : decode cX1_wantsMoreAs 51 = .ok (.irem, 1) := by decide +kernel
theorem dX1_wantsMoreAs_52 : decode cX1_wantsMoreAs 52 = .ok (.ireturn, 1) := by decide +kernel
theorem dX1_wantsMoreAs_53 : decode cX1_wantsMoreAs 53 = .ok (.iconst 1, 1) := by decide +kernel
theorem dX1_wantsMoreAs_54 : decode cX1_wantsMoreAs 54 = .ok (.ireturn, 1) := by decide +kernel
theorem dX1_wantsMoreAs_55 : decode cX1_wantsMoreAs 55 = .ok (.aload_n 0, 1) := by decide +kernel
theorem dX1_wantsMoreAs_56 : decode cX1_wantsMoreAs 56 = .ok (.getfield 28, 3) := by decide +kernel
theorem dX1_wantsMoreAs_59 : decode cX1_wantsMoreAs 59 = .ok (.iconst 2, 1) := by decide +kernel
theorem dX1_wantsMoreAs_60 : decode cX1_wantsMoreAs 60 = .ok (.irem, 1) := by decide +kernel
theorem dX1_wantsMoreAs_61 : decode cX1_wantsMoreAs 61 = .ok (.ineg, 1) := by decide +kernel
theorem dX1_wantsMoreAs_62 : decode cX1_wantsMoreAs 62 = .ok (.ireturn, 1) := by decide +kernel
theorem dX1_wantsMoreAs_63 : decode cX1_wantsMoreAs 63 = .ok (.iconst 0, 1) := by decide +kernel
theorem dX1_wantsMoreAs_64 : decode cX1_wantsMoreAs 64 = .ok (.ireturn, 1) := by decide +kernel
theorem dX1_bears_0 : decode cX1_bears 0 = .ok (.aload_n 0, 1) := by decide +kernel
theorem dX1_bears_1 : decode cX1_bears 1 = .ok (.getfield 25, 3) := by decide +kernel
theorem dX1_bears_4 : decode cX1_bears 4 = .ok (.tableswitch 57 1 6 #[40, 57, 44, 42, 46, 48], 40) := by decide +kernel
theorem dX1_bears_44 : decode cX1_bears 44 = .ok (.iconst 0, 1) := by decide +kernel
theorem dX1_bears_45 : decode cX1_bears 45 = .ok (.ireturn, 1) := by decide +kernel
theorem dX1_bears_46 : decode cX1_bears 46 = .ok (.iconst 0, 1) := by decide +kernel
theorem dX1_bears_47 : decode cX1_bears 47 = .ok (.ireturn, 1) := by decide +kernel
theorem dX1_bears_48 : decode cX1_bears 48 = .ok (.iconst 2, 1) := by decide +kernel
theorem dX1_bears_49 : decode cX1_bears 49 = .ok (.ireturn, 1) := by decide +kernel
theorem dX1_bears_50 : decode cX1_bears 50 = .ok (.iconst 2, 1) := by decide +kernel
theorem dX1_bears_51 : decode cX1_bears 51 = .ok (.ireturn, 1) := by decide +kernel
theorem dX1_bears_52 : decode cX1_bears 52 = .ok (.iconst 2, 1) := by decide +kernel
theorem dX1_bears_53 : decode cX1_bears 53 = .ok (.aload_n 0, 1) := by decide +kernel
theorem dX1_bears_54 : decode cX1_bears 54 = .ok (.getfield 28, 3) := by decide +kernel
theorem dX1_bears_57 : decode cX1_bears 57 = .ok (.iconst 4, 1) := by decide +kernel
theorem dX1_bears_58 : decode cX1_bears 58 = .ok (.idiv, 1) := by decide +kernel
theorem dX1_bears_59 : decode cX1_bears 59 = .ok (.iadd, 1) := by decide +kernel
theorem dX1_bears_60 : decode cX1_bears 60 = .ok (.ireturn, 1) := by decide +kernel
theorem dX1_bears_61 : decode cX1_bears 61 = .ok (.iconst 1, 1) := by decide +kernel
theorem dX1_bears_62 : decode cX1_bears 62 = .ok (.ireturn, 1) := by decide +kernel
theorem dX1_lintOfYard_0 : decode cX1_lintOfYard 0 = .ok (.aload_n 0, 1) := by decide +kernel
theorem dX1_lintOfYard_1 : decode cX1_lintOfYard 1 = .ok (.getfield 25, 3) := by decide +kernel
theorem dX1_lintOfYard_4 : decode cX1_lintOfYard 4 = .ok (.tableswitch 42 2 6 #[38, 42, 42, 40, 36], 36) := by decide +kernel
theorem dX1_lintOfYard_40 : decode cX1_lintOfYard 40 = .ok (.iconst 0, 1) := by decide +kernel
theorem dX1_lintOfYard_41 : decode cX1_lintOfYard 41 = .ok (.ireturn, 1) := by decide +kernel
theorem dX1_lintOfYard_42 : decode cX1_lintOfYard 42 = .ok (.iconst 2, 1) := by decide +kernel
theorem dX1_lintOfYard_43 : decode cX1_lintOfYard 43 = .ok (.ireturn, 1) := by decide +kernel
theorem dX1_lintOfYard_44 : decode cX1_lintOfYard 44 = .ok (.iconst 2, 1) := by decide +kernel
theorem dX1_lintOfYard_45 : decode cX1_lintOfYard 45 = .ok (.ireturn, 1) := by decide +kernel
theorem dX1_lintOfYard_46 : decode cX1_lintOfYard 46 = .ok (.iconst 1, 1) := by decide +kernel
theorem dX1_lintOfYard_47 : decode cX1_lintOfYard 47 = .ok (.ireturn, 1) := by decide +kernel
theorem dX2_init_0 : decode cX2_init 0 = .ok (.aload_n 0, 1) := by decide +kernel
theorem dX2_init_1 : decode cX2_init 1 = .ok (.invokespecial 3, 3) := by decide +kernel
theorem dX2_init_4 : decode cX2_init 4 = .ok (.aload_n 0, 1) := by decide +kernel
theorem dX2_init_5 : decode cX2_init 5 = .ok (.bipush 100, 2) := by decide +kernel
theorem dX2_init_7 : decode cX2_init 7 = .ok (.newarray .int, 2) := by decide +kernel
theorem dX2_init_9 : decode cX2_init 9 = .ok (.putfield 9, 3) := by decide +kernel
theorem dX2_init_12 : decode cX2_init 12 = .ok (.aload_n 0, 1) := by decide +kernel
theorem dX2_init_13 : decode cX2_init 13 = .ok (.aload_n 1, 1) := by decide +kernel
theorem dX2_init_14 : decode cX2_init 14 = .ok (.putfield 15, 3) := by decide +kernel
theorem dX2_init_17 : decode cX2_init 17 = .ok (.aload_n 0, 1) := by decide +kernel
theorem dX2_init_18 : decode cX2_init 18 = .ok (.aload_n 2, 1) := by decide +kernel
theorem dX2_init_19 : decode cX2_init 19 = .ok (.putfield 19, 3) := by decide +kernel
theorem dX2_init_22 : decode cX2_init 22 = .ok (.return_, 1) := by decide +kernel
theorem dX2_refresh_0 : decode cX2_refresh 0 = .ok (.aload_n 0, 1) := by decide +kernel
theorem dX2_refresh_1 : decode cX2_refresh 1 = .ok (.aload_n 0, 1) := by decide +kernel
theorem dX2_refresh_2 : decode cX2_refresh 2 = .ok (.getfield 15, 3) := by decide +kernel
theorem dX2_refresh_5 : decode cX2_refresh 5 = .ok (.iconst 0, 1) := by decide +kernel
theorem dX2_refresh_6 : decode cX2_refresh 6 = .ok (.aload_n 0, 1) := by decide +kernel
theorem dX2_refresh_7 : decode cX2_refresh 7 = .ok (.getfield 19, 3) := by decide +kernel
theorem dX2_refresh_10 : decode cX2_refresh 10 = .ok (.getfield 23, 3) := by decide +kernel
theorem dX2_refresh_13 : decode cX2_refresh 13 = .ok (.aload_n 0, 1) := by decide +kernel
theorem dX2_refresh_14 : decode cX2_refresh 14 = .ok (.getfield 19, 3) := by decide +kernel
theorem dX2_refresh_17 : decode cX2_refresh 17 = .ok (.getfield 29, 3) := by decide +kernel
theorem dX2_refresh_20 : decode cX2_refresh 20 = .ok (.aload_n 0, 1) := by decide +kernel
theorem dX2_refresh_21 : decode cX2_refresh 21 = .ok (.getfield 19, 3) := by decide +kernel
theorem dX2_refresh_24 : decode cX2_refresh 24 = .ok (.getfield 32, 3) := by decide +kernel
theorem dX2_refresh_27 : decode cX2_refresh 27 = .ok (.invokevirtual 35, 3) := by decide +kernel
theorem dX2_refresh_30 : decode cX2_refresh 30 = .ok (.aload_n 0, 1) := by decide +kernel
theorem dX2_refresh_31 : decode cX2_refresh 31 = .ok (.getfield 19, 3) := by decide +kernel
theorem dX2_refresh_34 : decode cX2_refresh 34 = .ok (.invokevirtual 41, 3) := by decide +kernel
theorem dX2_refresh_37 : decode cX2_refresh 37 = .ok (.iadd, 1) := by decide +kernel
theorem dX2_refresh_38 : decode cX2_refresh 38 = .ok (.putfield 45, 3) := by decide +kernel
theorem dX2_refresh_41 : decode cX2_refresh 41 = .ok (.aload_n 0, 1) := by decide +kernel
theorem dX2_refresh_42 : decode cX2_refresh 42 = .ok (.aload_n 0, 1) := by decide +kernel
theorem dX2_refresh_43 : decode cX2_refresh 43 = .ok (.getfield 19, 3) := by decide +kernel
theorem dX2_refresh_46 : decode cX2_refresh 46 = .ok (.invokevirtual 48, 3) := by decide +kernel
theorem dX2_refresh_49 : decode cX2_refresh 49 = .ok (.putfield 51, 3) := by decide +kernel
theorem dX2_refresh_52 : decode cX2_refresh 52 = .ok (.aload_n 0, 1) := by decide +kernel
theorem dX2_refresh_53 : decode cX2_refresh 53 = .ok (.getfield 9, 3) := by decide +kernel
theorem dX2_refresh_56 : decode cX2_refresh 56 = .ok (.iconst (-1), 1) := by decide +kernel
theorem dX2_refresh_57 : decode cX2_refresh 57 = .ok (.invokestatic 53, 3) := by decide +kernel
theorem dX2_refresh_60 : decode cX2_refresh 60 = .ok (.return_, 1) := by decide +kernel
theorem dX2_off_0 : decode cX2_off 0 = .ok (.aload_n 1, 1) := by decide +kernel
theorem dX2_off_1 : decode cX2_off 1 = .ok (.getfield 59, 3) := by decide +kernel
theorem dX2_off_4 : decode cX2_off 4 = .ok (.aload_n 1, 1) := by decide +kernel
theorem dX2_off_5 : decode cX2_off 5 = .ok (.getfield 64, 3) := by decide +kernel
theorem dX2_off_8 : decode cX2_off 8 = .ok (.isub, 1) := by decide +kernel
theorem dX2_off_9 : decode cX2_off 9 = .ok (.aload_n 1, 1) := by decide +kernel
theorem dX2_off_10 : decode cX2_off 10 = .ok (.getfield 67, 3) := by decide +kernel
theorem dX2_off_13 : decode cX2_off 13 = .ok (.bipush 20, 2) := by decide +kernel
theorem dX2_off_15 : decode cX2_off 15 = .ok (.idiv, 1) := by decide +kernel
theorem dX2_off_16 : decode cX2_off 16 = .ok (.isub, 1) := by decide +kernel
theorem dX2_off_17 : decode cX2_off 17 = .ok (.aload_n 0, 1) := by decide +kernel
theorem dX2_off_18 : decode cX2_off 18 = .ok (.getfield 45, 3) := by decide +kernel
theorem dX2_off_21 : decode cX2_off 21 = .ok (.isub, 1) := by decide +kernel
theorem dX2_off_22 : decode cX2_off 22 = .ok (.ireturn, 1) := by decide +kernel
theorem dX2_shows_0 : decode cX2_shows 0 = .ok (.aload_n 1, 1) := by decide +kernel
theorem dX2_shows_1 : decode cX2_shows 1 = .ok (.getfield 70, 3) := by decide +kernel
theorem dX2_shows_4 : decode cX2_shows 4 = .ok (.ifCond .eq 5, 3) := by decide +kernel
theorem dX2_shows_7 : decode cX2_shows 7 = .ok (.iconst 4, 1) := by decide +kernel
theorem dX2_shows_8 : decode cX2_shows 8 = .ok (.ireturn, 1) := by decide +kernel
theorem dX2_shows_9 : decode cX2_shows 9 = .ok (.aload_n 1, 1) := by decide +kernel
theorem dX2_shows_10 : decode cX2_shows 10 = .ok (.getfield 73, 3) := by decide +kernel
theorem dX2_shows_13 : decode cX2_shows 13 = .ok (.iconst 2, 1) := by decide +kernel
theorem dX2_shows_14 : decode cX2_shows 14 = .ok (.if_icmp .eq 26, 3) := by decide +kernel
theorem dX2_shows_17 : decode cX2_shows 17 = .ok (.aload_n 1, 1) := by decide +kernel
theorem dX2_shows_18 : decode cX2_shows 18 = .ok (.getfield 73, 3) := by decide +kernel
theorem dX2_shows_21 : decode cX2_shows 21 = .ok (.iconst 1, 1) := by decide +kernel
theorem dX2_shows_22 : decode cX2_shows 22 = .ok (.if_icmp .ne 20, 3) := by decide +kernel
theorem dX2_shows_25 : decode cX2_shows 25 = .ok (.aload_n 1, 1) := by decide +kernel
theorem dX2_shows_26 : decode cX2_shows 26 = .ok (.getfield 76, 3) := by decide +kernel
theorem dX2_shows_29 : decode cX2_shows 29 = .ok (.aload_n 0, 1) := by decide +kernel
theorem dX2_shows_30 : decode cX2_shows 30 = .ok (.aload_n 1, 1) := by decide +kernel
theorem dX2_shows_31 : decode cX2_shows 31 = .ok (.getfield 67, 3) := by decide +kernel
theorem dX2_shows_34 : decode cX2_shows 34 = .ok (.invokevirtual 79, 3) := by decide +kernel
theorem dX2_shows_37 : decode cX2_shows 37 = .ok (.if_icmp .le 5, 3) := by decide +kernel
theorem dX2_shows_40 : decode cX2_shows 40 = .ok (.iconst 3, 1) := by decide +kernel
theorem dX2_shows_41 : decode cX2_shows 41 = .ok (.ireturn, 1) := by decide +kernel
theorem dX2_shows_42 : decode cX2_shows 42 = .ok (.aload_n 0, 1) := by decide +kernel
theorem dX2_shows_43 : decode cX2_shows 43 = .ok (.aload_n 1, 1) := by decide +kernel
theorem dX2_shows_44 : decode cX2_shows 44 = .ok (.invokevirtual 83, 3) := by decide +kernel
theorem dX2_shows_47 : decode cX2_shows 47 = .ok (.istore_n 2, 1) := by decide +kernel
theorem dX2_shows_48 : decode cX2_shows 48 = .ok (.iload_n 2, 1) := by decide +kernel
theorem dX2_shows_49 : decode cX2_shows 49 = .ok (.aload_n 0, 1) := by decide +kernel
theorem dX2_shows_50 : decode cX2_shows 50 = .ok (.getfield 51, 3) := by decide +kernel
theorem dX2_shows_53 : decode cX2_shows 53 = .ok (.ineg, 1) := by decide +kernel
theorem dX2_shows_54 : decode cX2_shows 54 = .ok (.if_icmp .ge 5, 3) := by decide +kernel
theorem dX2_shows_57 : decode cX2_shows 57 = .ok (.iconst 1, 1) := by decide +kernel
theorem dX2_shows_58 : decode cX2_shows 58 = .ok (.ireturn, 1) := by decide +kernel
theorem dX2_shows_59 : decode cX2_shows 59 = .ok (.iload_n 2, 1) := by decide +kernel
theorem dX2_shows_60 : decode cX2_shows 60 = .ok (.aload_n 0, 1) := by decide +kernel
theorem dX2_shows_61 : decode cX2_shows 61 = .ok (.getfield 51, 3) := by decide +kernel
theorem dX2_shows_64 : decode cX2_shows 64 = .ok (.if_icmp .le 7, 3) := by decide +kernel
theorem dX2_shows_67 : decode cX2_shows 67 = .ok (.iconst 2, 1) := by decide +kernel
theorem dX2_shows_68 : decode cX2_shows 68 = .ok (.goto 4, 3) := by decide +kernel
theorem dX2_shows_71 : decode cX2_shows 71 = .ok (.iconst 0, 1) := by decide +kernel
theorem dX2_shows_72 : decode cX2_shows 72 = .ok (.ireturn, 1) := by decide +kernel
theorem dX2_limitAt_0 : decode cX2_limitAt 0 = .ok (.iload_n 1, 1) := by decide +kernel
theorem dX2_limitAt_1 : decode cX2_limitAt 1 = .ok (.iconst 0, 1) := by decide +kernel
theorem dX2_limitAt_2 : decode cX2_limitAt 2 = .ok (.bipush 99, 2) := by decide +kernel
theorem dX2_limitAt_4 : decode cX2_limitAt 4 = .ok (.invokestatic 87, 3) := by decide +kernel
theorem dX2_limitAt_7 : decode cX2_limitAt 7 = .ok (.istore_n 2, 1) := by decide +kernel
theorem dX2_limitAt_8 : decode cX2_limitAt 8 = .ok (.aload_n 0, 1) := by decide +kernel
theorem dX2_limitAt_9 : decode cX2_limitAt 9 = .ok (.getfield 9, 3) := by decide +kernel
theorem dX2_limitAt_12 : decode cX2_limitAt 12 = .ok (.iload_n 2, 1) := by decide +kernel
theorem dX2_limitAt_13 : decode cX2_limitAt 13 = .ok (.iaload, 1) := by decide +kernel
theorem dX2_limitAt_14 : decode cX2_limitAt 14 = .ok (.iconst (-1), 1) := by decide +kernel
theorem dX2_limitAt_15 : decode cX2_limitAt 15 = .ok (.if_icmp .ne 32, 3) := by decide +kernel
theorem dX2_limitAt_18 : decode cX2_limitAt 18 = .ok (.aload_n 0, 1) := by decide +kernel
theorem dX2_limitAt_19 : decode cX2_limitAt 19 = .ok (.getfield 9, 3) := by decide +kernel
theorem dX2_limitAt_22 : decode cX2_limitAt 22 = .ok (.iload_n 2, 1) := by decide +kernel
theorem dX2_limitAt_23 : decode cX2_limitAt 23 = .ok (.aload_n 0, 1) := by decide +kernel
theorem dX2_limitAt_24 : decode cX2_limitAt 24 = .ok (.getfield 15, 3) := by decide +kernel
theorem dX2_limitAt_27 : decode cX2_limitAt 27 = .ok (.iconst 1, 1) := by decide +kernel
theorem dX2_limitAt_28 : decode cX2_limitAt 28 = .ok (.aload_n 0, 1) := by decide +kernel
theorem dX2_limitAt_29 : decode cX2_limitAt 29 = .ok (.getfield 19, 3) := by decide +kernel
theorem dX2_limitAt_32 : decode cX2_limitAt 32 = .ok (.getfield 23, 3) := by decide +kernel
theorem dX2_limitAt_35 : decode cX2_limitAt 35 = .ok (.aload_n 0, 1) := by decide +kernel
theorem dX2_limitAt_36 : decode cX2_limitAt 36 = .ok (.getfield 19, 3) := by decide +kernel
theorem dX2_limitAt_39 : decode cX2_limitAt 39 = .ok (.getfield 29, 3) := by decide +kernel
theorem dX2_limitAt_42 : decode cX2_limitAt 42 = .ok (.iload_n 2, 1) := by decide +kernel
theorem dX2_limitAt_43 : decode cX2_limitAt 43 = .ok (.invokevirtual 35, 3) := by decide +kernel
theorem dX2_limitAt_46 : decode cX2_limitAt 46 = .ok (.iastore, 1) := by decide +kernel
theorem dX2_limitAt_47 : decode cX2_limitAt 47 = .ok (.aload_n 0, 1) := by decide +kernel
theorem dX2_limitAt_48 : decode cX2_limitAt 48 = .ok (.getfield 9, 3) := by decide +kernel
theorem dX2_limitAt_51 : decode cX2_limitAt 51 = .ok (.iload_n 2, 1) := by decide +kernel
theorem dX2_limitAt_52 : decode cX2_limitAt 52 = .ok (.iaload, 1) := by decide +kernel
theorem dX2_limitAt_53 : decode cX2_limitAt 53 = .ok (.ireturn, 1) := by decide +kernel
theorem dX3_init_0 : decode cX3_init 0 = .ok (.aload_n 0, 1) := by decide +kernel
theorem dX3_init_1 : decode cX3_init 1 = .ok (.invokespecial 3, 3) := by decide +kernel
theorem dX3_init_4 : decode cX3_init 4 = .ok (.aload_n 0, 1) := by decide +kernel
theorem dX3_init_5 : decode cX3_init 5 = .ok (.bipush 50, 2) := by decide +kernel
theorem dX3_init_7 : decode cX3_init 7 = .ok (.newarray .int, 2) := by decide +kernel
theorem dX3_init_9 : decode cX3_init 9 = .ok (.putfield 9, 3) := by decide +kernel
theorem dX3_init_12 : decode cX3_init 12 = .ok (.aload_n 0, 1) := by decide +kernel
theorem dX3_init_13 : decode cX3_init 13 = .ok (.bipush 50, 2) := by decide +kernel
theorem dX3_init_15 : decode cX3_init 15 = .ok (.newarray .int, 2) := by decide +kernel
theorem dX3_init_17 : decode cX3_init 17 = .ok (.putfield 15, 3) := by decide +kernel
theorem dX3_init_20 : decode cX3_init 20 = .ok (.return_, 1) := by decide +kernel
theorem dX3_take_0 : decode cX3_take 0 = .ok (.aload_n 0, 1) := by decide +kernel
theorem dX3_take_1 : decode cX3_take 1 = .ok (.iload_n 2, 1) := by decide +kernel
theorem dX3_take_2 : decode cX3_take 2 = .ok (.iconst 0, 1) := by decide +kernel
theorem dX3_take_3 : decode cX3_take 3 = .ok (.aload_n 1, 1) := by decide +kernel
theorem dX3_take_4 : decode cX3_take 4 = .ok (.arraylength, 1) := by decide +kernel
theorem dX3_take_5 : decode cX3_take 5 = .ok (.bipush 50, 2) := by decide +kernel
theorem dX3_take_7 : decode cX3_take 7 = .ok (.invokestatic 18, 3) := by decide +kernel
theorem dX3_take_10 : decode cX3_take 10 = .ok (.invokestatic 24, 3) := by decide +kernel
theorem dX3_take_13 : decode cX3_take 13 = .ok (.putfield 28, 3) := by decide +kernel
theorem dX3_take_16 : decode cX3_take 16 = .ok (.aload_n 1, 1) := by decide +kernel
theorem dX3_take_17 : decode cX3_take 17 = .ok (.iconst 0, 1) := by decide +kernel
theorem dX3_take_18 : decode cX3_take 18 = .ok (.aload_n 0, 1) := by decide +kernel
theorem dX3_take_19 : decode cX3_take 19 = .ok (.getfield 9, 3) := by decide +kernel
theorem dX3_take_22 : decode cX3_take 22 = .ok (.iconst 0, 1) := by decide +kernel
theorem dX3_take_23 : decode cX3_take 23 = .ok (.aload_n 0, 1) := by decide +kernel
theorem dX3_take_24 : decode cX3_take 24 = .ok (.getfield 28, 3) := by decide +kernel
theorem dX3_take_27 : decode cX3_take 27 = .ok (.invokestatic 32, 3) := by decide +kernel
theorem dX3_take_30 : decode cX3_take 30 = .ok (.return_, 1) := by decide +kernel
theorem dX3_value_0 : decode cX3_value 0 = .ok (.iconst 0, 1) := by decide +kernel
theorem dX3_value_1 : decode cX3_value 1 = .ok (.istore 4, 2) := by decide +kernel
theorem dX3_value_3 : decode cX3_value 3 = .ok (.iconst 0, 1) := by decide +kernel
theorem dX3_value_4 : decode cX3_value 4 = .ok (.istore 5, 2) := by decide +kernel
theorem dX3_value_6 : decode cX3_value 6 = .ok (.iload 5, 2) := by decide +kernel
theorem dX3_value_8 : decode cX3_value 8 = .ok (.aload_n 0, 1) := by decide +kernel
theorem dX3_value_9 : decode cX3_value 9 = .ok (.getfield 28, 3) := by decide +kernel
theorem dX3_value_12 : decode cX3_value 12 = .ok (.if_icmp .ge 165, 3) := by decide +kernel
theorem dX3_value_15 : decode cX3_value 15 = .ok (.aload_n 0, 1) := by decide +kernel
theorem dX3_value_16 : decode cX3_value 16 = .ok (.getfield 9, 3) := by decide +kernel
theorem dX3_value_19 : decode cX3_value 19 = .ok (.iload 5, 2) := by decide +kernel
theorem dX3_value_21 : decode cX3_value 21 = .ok (.iaload, 1) := by decide +kernel
theorem dX3_value_22 : decode cX3_value 22 = .ok (.istore 6, 2) := by decide +kernel
theorem dX3_value_24 : decode cX3_value 24 = .ok (.iload 6, 2) := by decide +kernel
theorem dX3_value_26 : decode cX3_value 26 = .ok (.bipush (-33), 2) := by decide +kernel
theorem dX3_value_28 : decode cX3_value 28 = .ok (.if_icmp .ne 37, 3) := by decide +kernel
theorem dX3_value_31 : decode cX3_value 31 = .ok (.iload 4, 2) := by decide +kernel
theorem dX3_value_33 : decode cX3_value 33 = .ok (.ifCond .le 32, 3) := by decide +kernel
theorem dX3_value_36 : decode cX3_value 36 = .ok (.aload_n 0, 1) := by decide +kernel
theorem dX3_value_37 : decode cX3_value 37 = .ok (.getfield 15, 3) := by decide +kernel
theorem dX3_value_40 : decode cX3_value 40 = .ok (.iload 4, 2) := by decide +kernel
theorem dX3_value_42 : decode cX3_value 42 = .ok (.iconst 1, 1) := by decide +kernel
theorem dX3_value_43 : decode cX3_value 43 = .ok (.isub, 1) := by decide +kernel
theorem dX3_value_44 : decode cX3_value 44 = .ok (.aload_n 0, 1) := by decide +kernel
theorem dX3_value_45 : decode cX3_value 45 = .ok (.getfield 15, 3) := by decide +kernel
theorem dX3_value_48 : decode cX3_value 48 = .ok (.iload 4, 2) := by decide +kernel
theorem dX3_value_50 : decode cX3_value 50 = .ok (.iconst 1, 1) := by decide +kernel
theorem dX3_value_51 : decode cX3_value 51 = .ok (.isub, 1) := by decide +kernel
theorem dX3_value_52 : decode cX3_value 52 = .ok (.iaload, 1) := by decide +kernel
theorem dX3_value_53 : decode cX3_value 53 = .ok (.ifCond .ne 7, 3) := by decide +kernel
theorem dX3_value_56 : decode cX3_value 56 = .ok (.iconst 1, 1) := by decide +kernel
theorem dX3_value_57 : decode cX3_value 57 = .ok (.goto 4, 3) := by decide +kernel
theorem dX3_value_60 : decode cX3_value 60 = .ok (.iconst 0, 1) := by decide +kernel
theorem dX3_value_61 : decode cX3_value 61 = .ok (.iastore, 1) := by decide +kernel
theorem dX3_value_62 : decode cX3_value 62 = .ok (.goto 109, 3) := by decide +kernel
theorem dX3_value_65 : decode cX3_value 65 = .ok (.iload 6, 2) := by decide +kernel
theorem dX3_value_67 : decode cX3_value 67 = .ok (.bipush (-3), 2) := by decide +kernel
theorem dX3_value_69 : decode cX3_value 69 = .ok (.if_icmp .ge 46, 3) := by decide +kernel
theorem dX3_value_72 : decode cX3_value 72 = .ok (.iload 4, 2) := by decide +kernel
theorem dX3_value_74 : decode cX3_value 74 = .ok (.iconst 1, 1) := by decide +kernel
theorem dX3_value_75 : decode cX3_value 75 = .ok (.if_icmp .le 40, 3) := by decide +kernel
theorem dX3_value_78 : decode cX3_value 78 = .ok (.iinc 4 (-1), 3) := by decide +kernel
theorem dX3_value_81 : decode cX3_value 81 = .ok (.aload_n 0, 1) := by decide +kernel
theorem dX3_value_82 : decode cX3_value 82 = .ok (.getfield 15, 3) := by decide +kernel
theorem dX3_value_85 : decode cX3_value 85 = .ok (.iload 4, 2) := by decide +kernel
theorem dX3_value_87 : decode cX3_value 87 = .ok (.iconst 1, 1) := by decide +kernel
theorem dX3_value_88 : decode cX3_value 88 = .ok (.isub, 1) := by decide +kernel
theorem dX3_value_89 : decode cX3_value 89 = .ok (.iload 6, 2) := by decide +kernel
theorem dX3_value_91 : decode cX3_value 91 = .ok (.ineg, 1) := by decide +kernel
theorem dX3_value_92 : decode cX3_value 92 = .ok (.aload_n 0, 1) := by decide +kernel
theorem dX3_value_93 : decode cX3_value 93 = .ok (.getfield 15, 3) := by decide +kernel
theorem dX3_value_96 : decode cX3_value 96 = .ok (.iload 4, 2) := by decide +kernel
theorem dX3_value_98 : decode cX3_value 98 = .ok (.iconst 1, 1) := by decide +kernel
theorem dX3_value_99 : decode cX3_value 99 = .ok (.isub, 1) := by decide +kernel
theorem dX3_value_100 : decode cX3_value 100 = .ok (.iaload, 1) := by decide +kernel
theorem dX3_value_101 : decode cX3_value 101 = .ok (.aload_n 0, 1) := by decide +kernel
theorem dX3_value_102 : decode cX3_value 102 = .ok (.getfield 15, 3) := by decide +kernel
theorem dX3_value_105 : decode cX3_value 105 = .ok (.iload 4, 2) := by decide +kernel
theorem dX3_value_107 : decode cX3_value 107 = .ok (.iaload, 1) := by decide +kernel
theorem dX3_value_108 : decode cX3_value 108 = .ok (.invokestatic 38, 3) := by decide +kernel
theorem dX3_value_111 : decode cX3_value 111 = .ok (.iastore, 1) := by decide +kernel
theorem dX3_value_112 : decode cX3_value 112 = .ok (.goto 59, 3) := by decide +kernel
theorem dX3_value_115 : decode cX3_value 115 = .ok (.iload 6, 2) := by decide +kernel
theorem dX3_value_117 : decode cX3_value 117 = .ok (.bipush (-3), 2) := by decide +kernel
theorem dX3_value_119 : decode cX3_value 119 = .ok (.if_icmp .lt 52, 3) := by decide +kernel
theorem dX3_value_122 : decode cX3_value 122 = .ok (.iload 4, 2) := by decide +kernel
theorem dX3_value_124 : decode cX3_value 124 = .ok (.bipush 50, 2) := by decide +kernel
theorem dX3_value_126 : decode cX3_value 126 = .ok (.if_icmp .ge 45, 3) := by decide +kernel
theorem dX3_value_129 : decode cX3_value 129 = .ok (.aload_n 0, 1) := by decide +kernel
theorem dX3_value_130 : decode cX3_value 130 = .ok (.getfield 15, 3) := by decide +kernel
theorem dX3_value_133 : decode cX3_value 133 = .ok (.iload 4, 2) := by decide +kernel
theorem dX3_value_135 : decode cX3_value 135 = .ok (.iload 6, 2) := by decide +kernel
theorem dX3_value_137 : decode cX3_value 137 = .ok (.ifCond .lt 8, 3) := by decide +kernel
theorem dX3_value_140 : decode cX3_value 140 = .ok (.iload 6, 2) := by decide +kernel
theorem dX3_value_142 : decode cX3_value 142 = .ok (.goto 25, 3) := by decide +kernel
theorem dX3_value_145 : decode cX3_value 145 = .ok (.iload 6, 2) := by decide +kernel
theorem dX3_value_147 : decode cX3_value 147 = .ok (.iconst (-1), 1) := by decide +kernel
theorem dX3_value_148 : decode cX3_value 148 = .ok (.if_icmp .ne 7, 3) := by decide +kernel
theorem dX3_value_151 : decode cX3_value 151 = .ok (.iload_n 1, 1) := by decide +kernel
theorem dX3_value_152 : decode cX3_value 152 = .ok (.goto 15, 3) := by decide +kernel
theorem dX3_value_155 : decode cX3_value 155 = .ok (.iload 6, 2) := by decide +kernel
theorem dX3_value_157 : decode cX3_value 157 = .ok (.bipush (-2), 2) := by decide +kernel
theorem dX3_value_159 : decode cX3_value 159 = .ok (.if_icmp .ne 7, 3) := by decide +kernel
theorem dX3_value_162 : decode cX3_value 162 = .ok (.iload_n 2, 1) := by decide +kernel
theorem dX3_value_163 : decode cX3_value 163 = .ok (.goto 4, 3) := by decide +kernel
theorem dX3_value_166 : decode cX3_value 166 = .ok (.iload_n 3, 1) := by decide +kernel
theorem dX3_value_167 : decode cX3_value 167 = .ok (.iastore, 1) := by decide +kernel
theorem dX3_value_168 : decode cX3_value 168 = .ok (.iinc 4 1, 3) := by decide +kernel
theorem dX3_value_171 : decode cX3_value 171 = .ok (.iinc 5 1, 3) := by decide +kernel
theorem dX3_value_174 : decode cX3_value 174 = .ok (.goto (-168), 3) := by decide +kernel
theorem dX3_value_177 : decode cX3_value 177 = .ok (.aload_n 0, 1) := by decide +kernel
theorem dX3_value_178 : decode cX3_value 178 = .ok (.getfield 15, 3) := by decide +kernel
theorem dX3_value_181 : decode cX3_value 181 = .ok (.iconst 0, 1) := by decide +kernel
theorem dX3_value_182 : decode cX3_value 182 = .ok (.iaload, 1) := by decide +kernel
theorem dX3_value_183 : decode cX3_value 183 = .ok (.ireturn, 1) := by decide +kernel
theorem dX3_joined_0 : decode cX3_joined 0 = .ok (.iload_n 0, 1) := by decide +kernel
theorem dX3_joined_1 : decode cX3_joined 1 = .ok (.lookupswitch 168 #[(38, 97), (42, 152), (43, 144), (45, 148), (47, 156), (60, 111), (61, 122), (62, 133), (124, 83)], 83) := by decide +kernel
theorem dX3_joined_84 : decode cX3_joined 84 = .ok (.iload_n 1, 1) := by decide +kernel
theorem dX3_joined_85 : decode cX3_joined 85 = .ok (.ifCond .ne 7, 3) := by decide +kernel
theorem dX3_joined_88 : decode cX3_joined 88 = .ok (.iload_n 2, 1) := by decide +kernel
theorem dX3_joined_89 : decode cX3_joined 89 = .ok (.ifCond .eq 7, 3) := by decide +kernel
theorem dX3_joined_92 : decode cX3_joined 92 = .ok (.iconst 1, 1) := by decide +kernel
theorem dX3_joined_93 : decode cX3_joined 93 = .ok (.goto 4, 3) := by decide +kernel
theorem dX3_joined_96 : decode cX3_joined 96 = .ok (.iconst 0, 1) := by decide +kernel
theorem dX3_joined_97 : decode cX3_joined 97 = .ok (.ireturn, 1) := by decide +kernel
theorem dX3_joined_98 : decode cX3_joined 98 = .ok (.iload_n 1, 1) := by decide +kernel
theorem dX3_joined_99 : decode cX3_joined 99 = .ok (.ifCond .eq 11, 3) := by decide +kernel
theorem dX3_joined_102 : decode cX3_joined 102 = .ok (.iload_n 2, 1) := by decide +kernel
theorem dX3_joined_103 : decode cX3_joined 103 = .ok (.ifCond .eq 7, 3) := by decide +kernel
theorem dX3_joined_106 : decode cX3_joined 106 = .ok (.iconst 1, 1) := by decide +kernel
theorem dX3_joined_107 : decode cX3_joined 107 = .ok (.goto 4, 3) := by decide +kernel
theorem dX3_joined_110 : decode cX3_joined 110 = .ok (.iconst 0, 1) := by decide +kernel
theorem dX3_joined_111 : decode cX3_joined 111 = .ok (.ireturn, 1) := by decide +kernel
theorem dX3_joined_112 : decode cX3_joined 112 = .ok (.iload_n 1, 1) := by decide +kernel
theorem dX3_joined_113 : decode cX3_joined 113 = .ok (.iload_n 2, 1) := by decide +kernel
theorem dX3_joined_114 : decode cX3_joined 114 = .ok (.if_icmp .ge 7, 3) := by decide +kernel
theorem dX3_joined_117 : decode cX3_joined 117 = .ok (.iconst 1, 1) := by decide +kernel
theorem dX3_joined_118 : decode cX3_joined 118 = .ok (.goto 4, 3) := by decide +kernel
theorem dX3_joined_121 : decode cX3_joined 121 = .ok (.iconst 0, 1) := by decide +kernel
theorem dX3_joined_122 : decode cX3_joined 122 = .ok (.ireturn, 1) := by decide +kernel
theorem dX3_joined_123 : decode cX3_joined 123 = .ok (.iload_n 1, 1) := by decide +kernel
theorem dX3_joined_124 : decode cX3_joined 124 = .ok (.iload_n 2, 1) := by decide +kernel
theorem dX3_joined_125 : decode cX3_joined 125 = .ok (.if_icmp .ne 7, 3) := by decide +kernel
theorem dX3_joined_128 : decode cX3_joined 128 = .ok (.iconst 1, 1) := by decide +kernel
theorem dX3_joined_129 : decode cX3_joined 129 = .ok (.goto 4, 3) := by decide +kernel
theorem dX3_joined_132 : decode cX3_joined 132 = .ok (.iconst 0, 1) := by decide +kernel
theorem dX3_joined_133 : decode cX3_joined 133 = .ok (.ireturn, 1) := by decide +kernel
theorem dX3_joined_134 : decode cX3_joined 134 = .ok (.iload_n 1, 1) := by decide +kernel
theorem dX3_joined_135 : decode cX3_joined 135 = .ok (.iload_n 2, 1) := by decide +kernel
theorem dX3_joined_136 : decode cX3_joined 136 = .ok (.if_icmp .le 7, 3) := by decide +kernel
theorem dX3_joined_139 : decode cX3_joined 139 = .ok (.iconst 1, 1) := by decide +kernel
theorem dX3_joined_140 : decode cX3_joined 140 = .ok (.goto 4, 3) := by decide +kernel
theorem dX3_joined_143 : decode cX3_joined 143 = .ok (.iconst 0, 1) := by decide +kernel
theorem dX3_joined_144 : decode cX3_joined 144 = .ok (.ireturn, 1) := by decide +kernel
theorem dX3_joined_145 : decode cX3_joined 145 = .ok (.iload_n 1, 1) := by decide +kernel
theorem dX3_joined_146 : decode cX3_joined 146 = .ok (.iload_n 2, 1) := by decide +kernel
theorem dX3_joined_147 : decode cX3_joined 147 = .ok (.iadd, 1) := by decide +kernel
theorem dX3_joined_148 : decode cX3_joined 148 = .ok (.ireturn, 1) := by decide +kernel
theorem dX3_joined_149 : decode cX3_joined 149 = .ok (.iload_n 1, 1) := by decide +kernel
theorem dX3_joined_150 : decode cX3_joined 150 = .ok (.iload_n 2, 1) := by decide +kernel
theorem dX3_joined_151 : decode cX3_joined 151 = .ok (.isub, 1) := by decide +kernel
theorem dX3_joined_152 : decode cX3_joined 152 = .ok (.ireturn, 1) := by decide +kernel
theorem dX3_joined_153 : decode cX3_joined 153 = .ok (.iload_n 1, 1) := by decide +kernel
theorem dX3_joined_154 : decode cX3_joined 154 = .ok (.iload_n 2, 1) := by decide +kernel
theorem dX3_joined_155 : decode cX3_joined 155 = .ok (.imul, 1) := by decide +kernel
theorem dX3_joined_156 : decode cX3_joined 156 = .ok (.ireturn, 1) := by decide +kernel
theorem dX3_joined_157 : decode cX3_joined 157 = .ok (.iload_n 2, 1) := by decide +kernel
theorem dX3_joined_158 : decode cX3_joined 158 = .ok (.ifCond .ne 7, 3) := by decide +kernel
theorem dX3_joined_161 : decode cX3_joined 161 = .ok (.iconst 0, 1) := by decide +kernel
theorem dX3_joined_162 : decode cX3_joined 162 = .ok (.goto 6, 3) := by decide +kernel
theorem dX3_joined_165 : decode cX3_joined 165 = .ok (.iload_n 1, 1) := by decide +kernel
theorem dX3_joined_166 : decode cX3_joined 166 = .ok (.iload_n 2, 1) := by decide +kernel
theorem dX3_joined_167 : decode cX3_joined 167 = .ok (.idiv, 1) := by decide +kernel
theorem dX3_joined_168 : decode cX3_joined 168 = .ok (.ireturn, 1) := by decide +kernel
theorem dX3_joined_169 : decode cX3_joined 169 = .ok (.iload_n 2, 1) := by decide +kernel
theorem dX3_joined_170 : decode cX3_joined 170 = .ok (.ifCond .ne 7, 3) := by decide +kernel
theorem dX3_joined_173 : decode cX3_joined 173 = .ok (.iconst 0, 1) := by decide +kernel
theorem dX3_joined_174 : decode cX3_joined 174 = .ok (.goto 6, 3) := by decide +kernel
theorem dX3_joined_177 : decode cX3_joined 177 = .ok (.iload_n 1, 1) := by decide +kernel
theorem dX3_joined_178 : decode cX3_joined 178 = .ok (.iload_n 2, 1) := by decide +kernel
theorem dX3_joined_179 : decode cX3_joined 179 = .ok (.irem, 1) := by decide +kernel
theorem dX3_joined_180 : decode cX3_joined 180 = .ok (.ireturn, 1) := by decide +kernel
theorem dX4_init_0 : decode cX4_init 0 = .ok (.aload_n 0, 1) := by decide +kernel
theorem dX4_init_1 : decode cX4_init 1 = .ok (.invokespecial 3, 3) := by decide +kernel
theorem dX4_init_4 : decode cX4_init 4 = .ok (.aload_n 0, 1) := by decide +kernel
theorem dX4_init_5 : decode cX4_init 5 = .ok (.iconst 0, 1) := by decide +kernel
theorem dX4_init_6 : decode cX4_init 6 = .ok (.putfield 9, 3) := by decide +kernel
theorem dX4_init_9 : decode cX4_init 9 = .ok (.aload_n 0, 1) := by decide +kernel
theorem dX4_init_10 : decode cX4_init 10 = .ok (.iconst 4, 1) := by decide +kernel
theorem dX4_init_11 : decode cX4_init 11 = .ok (.putfield 15, 3) := by decide +kernel
theorem dX4_init_14 : decode cX4_init 14 = .ok (.aload_n 0, 1) := by decide +kernel
theorem dX4_init_15 : decode cX4_init 15 = .ok (.iconst 0, 1) := by decide +kernel
theorem dX4_init_16 : decode cX4_init 16 = .ok (.putfield 18, 3) := by decide +kernel
theorem dX4_init_19 : decode cX4_init 19 = .ok (.aload_n 0, 1) := by decide +kernel
theorem dX4_init_20 : decode cX4_init 20 = .ok (.iconst 0, 1) := by decide +kernel
theorem dX4_init_21 : decode cX4_init 21 = .ok (.putfield 21, 3) := by decide +kernel
theorem dX4_init_24 : decode cX4_init 24 = .ok (.aload_n 0, 1) := by decide +kernel
theorem dX4_init_25 : decode cX4_init 25 = .ok (.iconst 0, 1) := by decide +kernel
theorem dX4_init_26 : decode cX4_init 26 = .ok (.putfield 24, 3) := by decide +kernel
theorem dX4_init_29 : decode cX4_init 29 = .ok (.aload_n 0, 1) := by decide +kernel
theorem dX4_init_30 : decode cX4_init 30 = .ok (.iconst 3, 1) := by decide +kernel
theorem dX4_init_31 : decode cX4_init 31 = .ok (.putfield 27, 3) := by decide +kernel
theorem dX4_init_34 : decode cX4_init 34 = .ok (.return_, 1) := by decide +kernel
theorem dX4_mostOf_0 : decode cX4_mostOf 0 = .ok (.iload_n 0, 1) := by decide +kernel
theorem dX4_mostOf_1 : decode cX4_mostOf 1 = .ok (.tableswitch 55 0 5 #[39, 41, 44, 47, 49, 52], 39) := by decide +kernel
theorem dX4_mostOf_40 : decode cX4_mostOf 40 = .ok (.iconst 1, 1) := by decide +kernel
theorem dX4_mostOf_41 : decode cX4_mostOf 41 = .ok (.ireturn, 1) := by decide +kernel
theorem dX4_mostOf_42 : decode cX4_mostOf 42 = .ok (.bipush 9, 2) := by decide +kernel
theorem dX4_mostOf_44 : decode cX4_mostOf 44 = .ok (.ireturn, 1) := by decide +kernel
theorem dX4_mostOf_45 : decode cX4_mostOf 45 = .ok (.bipush 9, 2) := by decide +kernel
theorem dX4_mostOf_47 : decode cX4_mostOf 47 = .ok (.ireturn, 1) := by decide +kernel
theorem dX4_mostOf_48 : decode cX4_mostOf 48 = .ok (.iconst 2, 1) := by decide +kernel
theorem dX4_mostOf_49 : decode cX4_mostOf 49 = .ok (.ireturn, 1) := by decide +kernel
theorem dX4_mostOf_50 : decode cX4_mostOf 50 = .ok (.bipush 99, 2) := by decide +kernel
theorem dX4_mostOf_52 : decode cX4_mostOf 52 = .ok (.ireturn, 1) := by decide +kernel
theorem dX4_mostOf_53 : decode cX4_mostOf 53 = .ok (.bipush 9, 2) := by decide +kernel
theorem dX4_mostOf_55 : decode cX4_mostOf 55 = .ok (.ireturn, 1) := by decide +kernel
theorem dX4_mostOf_56 : decode cX4_mostOf 56 = .ok (.iconst (-1), 1) := by decide +kernel
theorem dX4_mostOf_57 : decode cX4_mostOf 57 = .ok (.ireturn, 1) := by decide +kernel
theorem dX4_part_0 : decode cX4_part 0 = .ok (.iload_n 1, 1) := by decide +kernel
theorem dX4_part_1 : decode cX4_part 1 = .ok (.tableswitch 60 0 4 #[35, 40, 45, 50, 55], 35) := by decide +kernel
theorem dX4_part_36 : decode cX4_part 36 = .ok (.aload_n 0, 1) := by decide +kernel
theorem dX4_part_37 : decode cX4_part 37 = .ok (.getfield 9, 3) := by decide +kernel
theorem dX4_part_40 : decode cX4_part 40 = .ok (.ireturn, 1) := by decide +kernel
theorem dX4_part_41 : decode cX4_part 41 = .ok (.aload_n 0, 1) := by decide +kernel
theorem dX4_part_42 : decode cX4_part 42 = .ok (.getfield 15, 3) := by decide +kernel
theorem dX4_part_45 : decode cX4_part 45 = .ok (.ireturn, 1) := by decide +kernel
theorem dX4_part_46 : decode cX4_part 46 = .ok (.aload_n 0, 1) := by decide +kernel
theorem dX4_part_47 : decode cX4_part 47 = .ok (.getfield 18, 3) := by decide +kernel
theorem dX4_part_50 : decode cX4_part 50 = .ok (.ireturn, 1) := by decide +kernel
theorem dX4_part_51 : decode cX4_part 51 = .ok (.aload_n 0, 1) := by decide +kernel
theorem dX4_part_52 : decode cX4_part 52 = .ok (.getfield 21, 3) := by decide +kernel
theorem dX4_part_55 : decode cX4_part 55 = .ok (.ireturn, 1) := by decide +kernel
theorem dX4_part_56 : decode cX4_part 56 = .ok (.aload_n 0, 1) := by decide +kernel
theorem dX4_part_57 : decode cX4_part 57 = .ok (.getfield 24, 3) := by decide +kernel
theorem dX4_part_60 : decode cX4_part 60 = .ok (.ireturn, 1) := by decide +kernel
theorem dX4_part_61 : decode cX4_part 61 = .ok (.aload_n 0, 1) := by decide +kernel
theorem dX4_part_62 : decode cX4_part 62 = .ok (.getfield 27, 3) := by decide +kernel
theorem dX4_part_65 : decode cX4_part 65 = .ok (.ireturn, 1) := by decide +kernel
theorem dX4_turnPart_0 : decode cX4_turnPart 0 = .ok (.iload_n 1, 1) := by decide +kernel
theorem dX4_turnPart_1 : decode cX4_turnPart 1 = .ok (.tableswitch 75 0 4 #[35, 43, 51, 59, 67], 35) := by decide +kernel
theorem dX4_turnPart_36 : decode cX4_turnPart 36 = .ok (.aload_n 0, 1) := by decide +kernel
theorem dX4_turnPart_37 : decode cX4_turnPart 37 = .ok (.iload_n 2, 1) := by decide +kernel
theorem dX4_turnPart_38 : decode cX4_turnPart 38 = .ok (.putfield 9, 3) := by decide +kernel
theorem dX4_turnPart_41 : decode cX4_turnPart 41 = .ok (.goto 40, 3) := by decide +kernel
theorem dX4_turnPart_44 : decode cX4_turnPart 44 = .ok (.aload_n 0, 1) := by decide +kernel
theorem dX4_turnPart_45 : decode cX4_turnPart 45 = .ok (.iload_n 2, 1) := by decide +kernel
theorem dX4_turnPart_46 : decode cX4_turnPart 46 = .ok (.putfield 15, 3) := by decide +kernel
theorem dX4_turnPart_49 : decode cX4_turnPart 49 = .ok (.goto 32, 3) := by decide +kernel
theorem dX4_turnPart_52 : decode cX4_turnPart 52 = .ok (.aload_n 0, 1) := by decide +kernel
theorem dX4_turnPart_53 : decode cX4_turnPart 53 = .ok (.iload_n 2, 1) := by decide +kernel
theorem dX4_turnPart_54 : decode cX4_turnPart 54 = .ok (.putfield 18, 3) := by decide +kernel
theorem dX4_turnPart_57 : decode cX4_turnPart 57 = .ok (.goto 24, 3) := by decide +kernel
theorem dX4_turnPart_60 : decode cX4_turnPart 60 = .ok (.aload_n 0, 1) := by decide +kernel
theorem dX4_turnPart_61 : decode cX4_turnPart 61 = .ok (.iload_n 2, 1) := by decide +kernel
theorem dX4_turnPart_62 : decode cX4_turnPart 62 = .ok (.putfield 21, 3) := by decide +kernel
theorem dX4_turnPart_65 : decode cX4_turnPart 65 = .ok (.goto 16, 3) := by decide +kernel
theorem dX4_turnPart_68 : decode cX4_turnPart 68 = .ok (.aload_n 0, 1) := by decide +kernel
theorem dX4_turnPart_69 : decode cX4_turnPart 69 = .ok (.iload_n 2, 1) := by decide +kernel
theorem dX4_turnPart_70 : decode cX4_turnPart 70 = .ok (.putfield 24, 3) := by decide +kernel
theorem dX4_turnPart_73 : decode cX4_turnPart 73 = .ok (.goto 8, 3) := by decide +kernel
theorem dX4_turnPart_76 : decode cX4_turnPart 76 = .ok (.aload_n 0, 1) := by decide +kernel
theorem dX4_turnPart_77 : decode cX4_turnPart 77 = .ok (.iload_n 2, 1) := by decide +kernel
theorem dX4_turnPart_78 : decode cX4_turnPart 78 = .ok (.putfield 27, 3) := by decide +kernel
theorem dX4_turnPart_81 : decode cX4_turnPart 81 = .ok (.return_, 1) := by decide +kernel
theorem dX4_copyFrom_0 : decode cX4_copyFrom 0 = .ok (.aload_n 0, 1) := by decide +kernel
theorem dX4_copyFrom_1 : decode cX4_copyFrom 1 = .ok (.aload_n 1, 1) := by decide +kernel
theorem dX4_copyFrom_2 : decode cX4_copyFrom 2 = .ok (.getfield 9, 3) := by decide +kernel
theorem dX4_copyFrom_5 : decode cX4_copyFrom 5 = .ok (.putfield 9, 3) := by decide +kernel
theorem dX4_copyFrom_8 : decode cX4_copyFrom 8 = .ok (.aload_n 0, 1) := by decide +kernel
theorem dX4_copyFrom_9 : decode cX4_copyFrom 9 = .ok (.aload_n 1, 1) := by decide +kernel
theorem dX4_copyFrom_10 : decode cX4_copyFrom 10 = .ok (.getfield 15, 3) := by decide +kernel
theorem dX4_copyFrom_13 : decode cX4_copyFrom 13 = .ok (.putfield 15, 3) := by decide +kernel
theorem dX4_copyFrom_16 : decode cX4_copyFrom 16 = .ok (.aload_n 0, 1) := by decide +kernel
theorem dX4_copyFrom_17 : decode cX4_copyFrom 17 = .ok (.aload_n 1, 1) := by decide +kernel
theorem dX4_copyFrom_18 : decode cX4_copyFrom 18 = .ok (.getfield 18, 3) := by decide +kernel
theorem dX4_copyFrom_21 : decode cX4_copyFrom 21 = .ok (.putfield 18, 3) := by decide +kernel
theorem dX4_copyFrom_24 : decode cX4_copyFrom 24 = .ok (.aload_n 0, 1) := by decide +kernel
theorem dX4_copyFrom_25 : decode cX4_copyFrom 25 = .ok (.aload_n 1, 1) := by decide +kernel
theorem dX4_copyFrom_26 : decode cX4_copyFrom 26 = .ok (.getfield 21, 3) := by decide +kernel
theorem dX4_copyFrom_29 : decode cX4_copyFrom 29 = .ok (.putfield 21, 3) := by decide +kernel
theorem dX4_copyFrom_32 : decode cX4_copyFrom 32 = .ok (.aload_n 0, 1) := by decide +kernel
theorem dX4_copyFrom_33 : decode cX4_copyFrom 33 = .ok (.aload_n 1, 1) := by decide +kernel
theorem dX4_copyFrom_34 : decode cX4_copyFrom 34 = .ok (.getfield 24, 3) := by decide +kernel
theorem dX4_copyFrom_37 : decode cX4_copyFrom 37 = .ok (.putfield 24, 3) := by decide +kernel
theorem dX4_copyFrom_40 : decode cX4_copyFrom 40 = .ok (.aload_n 0, 1) := by decide +kernel
theorem dX4_copyFrom_41 : decode cX4_copyFrom 41 = .ok (.aload_n 1, 1) := by decide +kernel
theorem dX4_copyFrom_42 : decode cX4_copyFrom 42 = .ok (.getfield 27, 3) := by decide +kernel
theorem dX4_copyFrom_45 : decode cX4_copyFrom 45 = .ok (.putfield 27, 3) := by decide +kernel
theorem dX4_copyFrom_48 : decode cX4_copyFrom 48 = .ok (.return_, 1) := by decide +kernel
theorem dX4_guess_0 : decode cX4_guess 0 = .ok (.aload_n 0, 1) := by decide +kernel
theorem dX4_guess_1 : decode cX4_guess 1 = .ok (.iload_n 1, 1) := by decide +kernel
theorem dX4_guess_2 : decode cX4_guess 2 = .ok (.sipush 300, 3) := by decide +kernel
theorem dX4_guess_5 : decode cX4_guess 5 = .ok (.idiv, 1) := by decide +kernel
theorem dX4_guess_6 : decode cX4_guess 6 = .ok (.putfield 9, 3) := by decide +kernel
theorem dX4_guess_9 : decode cX4_guess 9 = .ok (.aload_n 0, 1) := by decide +kernel
theorem dX4_guess_10 : decode cX4_guess 10 = .ok (.iload_n 1, 1) := by decide +kernel
theorem dX4_guess_11 : decode cX4_guess 11 = .ok (.bipush 100, 2) := by decide +kernel
theorem dX4_guess_13 : decode cX4_guess 13 = .ok (.idiv, 1) := by decide +kernel
theorem dX4_guess_14 : decode cX4_guess 14 = .ok (.iconst 3, 1) := by decide +kernel
theorem dX4_guess_15 : decode cX4_guess 15 = .ok (.irem, 1) := by decide +kernel
theorem dX4_guess_16 : decode cX4_guess 16 = .ok (.putfield 21, 3) := by decide +kernel
theorem dX4_guess_19 : decode cX4_guess 19 = .ok (.aload_n 0, 1) := by decide +kernel
theorem dX4_guess_20 : decode cX4_guess 20 = .ok (.iload_n 1, 1) := by decide +kernel
theorem dX4_guess_21 : decode cX4_guess 21 = .ok (.bipush 10, 2) := by decide +kernel
theorem dX4_guess_23 : decode cX4_guess 23 = .ok (.idiv, 1) := by decide +kernel
theorem dX4_guess_24 : decode cX4_guess 24 = .ok (.bipush 10, 2) := by decide +kernel
theorem dX4_guess_26 : decode cX4_guess 26 = .ok (.irem, 1) := by decide +kernel
theorem dX4_guess_27 : decode cX4_guess 27 = .ok (.putfield 15, 3) := by decide +kernel
theorem dX4_guess_30 : decode cX4_guess 30 = .ok (.aload_n 0, 1) := by decide +kernel
theorem dX4_guess_31 : decode cX4_guess 31 = .ok (.iload_n 1, 1) := by decide +kernel
theorem dX4_guess_32 : decode cX4_guess 32 = .ok (.bipush 10, 2) := by decide +kernel
theorem dX4_guess_34 : decode cX4_guess 34 = .ok (.irem, 1) := by decide +kernel
theorem dX4_guess_35 : decode cX4_guess 35 = .ok (.putfield 18, 3) := by decide +kernel
theorem dX4_guess_38 : decode cX4_guess 38 = .ok (.return_, 1) := by decide +kernel
theorem dX4_yardSeconds_0 : decode cX4_yardSeconds 0 = .ok (.bipush 10, 2) := by decide +kernel
theorem dX4_yardSeconds_2 : decode cX4_yardSeconds 2 = .ok (.aload_n 0, 1) := by decide +kernel
theorem dX4_yardSeconds_3 : decode cX4_yardSeconds 3 = .ok (.getfield 27, 3) := by decide +kernel
theorem dX4_yardSeconds_6 : decode cX4_yardSeconds 6 = .ok (.isub, 1) := by decide +kernel
theorem dX4_yardSeconds_7 : decode cX4_yardSeconds 7 = .ok (.ireturn, 1) := by decide +kernel
theorem dX4_gather_0 : decode cX4_gather 0 = .ok (.aload_n 0, 1) := by decide +kernel
theorem dX4_gather_1 : decode cX4_gather 1 = .ok (.bipush 99, 2) := by decide +kernel
theorem dX4_gather_3 : decode cX4_gather 3 = .ok (.aload_n 0, 1) := by decide +kernel
theorem dX4_gather_4 : decode cX4_gather 4 = .ok (.getfield 24, 3) := by decide +kernel
theorem dX4_gather_7 : decode cX4_gather 7 = .ok (.iload_n 1, 1) := by decide +kernel
theorem dX4_gather_8 : decode cX4_gather 8 = .ok (.iadd, 1) := by decide +kernel
theorem dX4_gather_9 : decode cX4_gather 9 = .ok (.invokestatic 30, 3) := by decide +kernel
theorem dX4_gather_12 : decode cX4_gather 12 = .ok (.putfield 24, 3) := by decide +kernel
theorem dX4_gather_15 : decode cX4_gather 15 = .ok (.return_, 1) := by decide +kernel
theorem dX4_hasRoomFor_0 : decode cX4_hasRoomFor 0 = .ok (.iload_n 1, 1) := by decide +kernel
theorem dX4_hasRoomFor_1 : decode cX4_hasRoomFor 1 = .ok (.tableswitch 87 3 6 #[31, 46, 59, 74], 31) := by decide +kernel
theorem dX4_hasRoomFor_32 : decode cX4_hasRoomFor 32 = .ok (.aload_n 0, 1) := by decide +kernel
theorem dX4_hasRoomFor_33 : decode cX4_hasRoomFor 33 = .ok (.getfield 15, 3) := by decide +kernel
theorem dX4_hasRoomFor_36 : decode cX4_hasRoomFor 36 = .ok (.bipush 9, 2) := by decide +kernel
theorem dX4_hasRoomFor_38 : decode cX4_hasRoomFor 38 = .ok (.if_icmp .ge 7, 3) := by decide +kernel
theorem dX4_hasRoomFor_41 : decode cX4_hasRoomFor 41 = .ok (.iconst 1, 1) := by decide +kernel
theorem dX4_hasRoomFor_42 : decode cX4_hasRoomFor 42 = .ok (.goto 4, 3) := by decide +kernel
theorem dX4_hasRoomFor_45 : decode cX4_hasRoomFor 45 = .ok (.iconst 0, 1) := by decide +kernel
theorem dX4_hasRoomFor_46 : decode cX4_hasRoomFor 46 = .ok (.ireturn, 1) := by decide +kernel
theorem dX4_hasRoomFor_47 : decode cX4_hasRoomFor 47 = .ok (.aload_n 0, 1) := by decide +kernel
theorem dX4_hasRoomFor_48 : decode cX4_hasRoomFor 48 = .ok (.getfield 15, 3) := by decide +kernel
theorem dX4_hasRoomFor_51 : decode cX4_hasRoomFor 51 = .ok (.ifCond .le 7, 3) := by decide +kernel
theorem dX4_hasRoomFor_54 : decode cX4_hasRoomFor 54 = .ok (.iconst 1, 1) := by decide +kernel
theorem dX4_hasRoomFor_55 : decode cX4_hasRoomFor 55 = .ok (.goto 4, 3) := by decide +kernel
theorem dX4_hasRoomFor_58 : decode cX4_hasRoomFor 58 = .ok (.iconst 0, 1) := by decide +kernel
theorem dX4_hasRoomFor_59 : decode cX4_hasRoomFor 59 = .ok (.ireturn, 1) := by decide +kernel
theorem dX4_hasRoomFor_60 : decode cX4_hasRoomFor 60 = .ok (.aload_n 0, 1) := by decide +kernel
theorem dX4_hasRoomFor_61 : decode cX4_hasRoomFor 61 = .ok (.getfield 18, 3) := by decide +kernel
theorem dX4_hasRoomFor_64 : decode cX4_hasRoomFor 64 = .ok (.bipush 9, 2) := by decide +kernel
theorem dX4_hasRoomFor_66 : decode cX4_hasRoomFor 66 = .ok (.if_icmp .ge 7, 3) := by decide +kernel
theorem dX4_hasRoomFor_69 : decode cX4_hasRoomFor 69 = .ok (.iconst 1, 1) := by decide +kernel
theorem dX4_hasRoomFor_70 : decode cX4_hasRoomFor 70 = .ok (.goto 4, 3) := by decide +kernel
theorem dX4_hasRoomFor_73 : decode cX4_hasRoomFor 73 = .ok (.iconst 0, 1) := by decide +kernel
theorem dX4_hasRoomFor_74 : decode cX4_hasRoomFor 74 = .ok (.ireturn, 1) := by decide +kernel
theorem dX4_hasRoomFor_75 : decode cX4_hasRoomFor 75 = .ok (.aload_n 0, 1) := by decide +kernel
theorem dX4_hasRoomFor_76 : decode cX4_hasRoomFor 76 = .ok (.getfield 18, 3) := by decide +kernel
theorem dX4_hasRoomFor_79 : decode cX4_hasRoomFor 79 = .ok (.ifCond .le 7, 3) := by decide +kernel
theorem dX4_hasRoomFor_82 : decode cX4_hasRoomFor 82 = .ok (.iconst 1, 1) := by decide +kernel
theorem dX4_hasRoomFor_83 : decode cX4_hasRoomFor 83 = .ok (.goto 4, 3) := by decide +kernel
theorem dX4_hasRoomFor_86 : decode cX4_hasRoomFor 86 = .ok (.iconst 0, 1) := by decide +kernel
theorem dX4_hasRoomFor_87 : decode cX4_hasRoomFor 87 = .ok (.ireturn, 1) := by decide +kernel
theorem dX4_hasRoomFor_88 : decode cX4_hasRoomFor 88 = .ok (.iconst 1, 1) := by decide +kernel
theorem dX4_hasRoomFor_89 : decode cX4_hasRoomFor 89 = .ok (.ireturn, 1) := by decide +kernel
theorem dX4_follow_0 : decode cX4_follow 0 = .ok (.iload_n 1, 1) := by decide +kernel
theorem dX4_follow_1 : decode cX4_follow 1 = .ok (.tableswitch 102 0 5 #[39, 47, 55, 63, 76, 89], 39) := by decide +kernel
theorem dX4_follow_40 : decode cX4_follow 40 = .ok (.aload_n 0, 1) := by decide +kernel
theorem dX4_follow_41 : decode cX4_follow 41 = .ok (.iconst 0, 1) := by decide +kernel
theorem dX4_follow_42 : decode cX4_follow 42 = .ok (.putfield 9, 3) := by decide +kernel
theorem dX4_follow_45 : decode cX4_follow 45 = .ok (.goto 68, 3) := by decide +kernel
theorem dX4_follow_48 : decode cX4_follow 48 = .ok (.aload_n 0, 1) := by decide +kernel
theorem dX4_follow_49 : decode cX4_follow 49 = .ok (.iconst 0, 1) := by decide +kernel
theorem dX4_follow_50 : decode cX4_follow 50 = .ok (.putfield 21, 3) := by decide +kernel
theorem dX4_follow_53 : decode cX4_follow 53 = .ok (.goto 60, 3) := by decide +kernel
theorem dX4_follow_56 : decode cX4_follow 56 = .ok (.aload_n 0, 1) := by decide +kernel
theorem dX4_follow_57 : decode cX4_follow 57 = .ok (.iconst 0, 1) := by decide +kernel
theorem dX4_follow_58 : decode cX4_follow 58 = .ok (.putfield 24, 3) := by decide +kernel
theorem dX4_follow_61 : decode cX4_follow 61 = .ok (.goto 52, 3) := by decide +kernel
theorem dX4_follow_64 : decode cX4_follow 64 = .ok (.aload_n 0, 1) := by decide +kernel
theorem dX4_follow_65 : decode cX4_follow 65 = .ok (.dup, 1) := by decide +kernel
theorem dX4_follow_66 : decode cX4_follow 66 = .ok (.getfield 15, 3) := by decide +kernel
theorem dX4_follow_69 : decode cX4_follow 69 = .ok (.iconst 1, 1) := by decide +kernel
theorem dX4_follow_70 : decode cX4_follow 70 = .ok (.iadd, 1) := by decide +kernel
theorem dX4_follow_71 : decode cX4_follow 71 = .ok (.putfield 15, 3) := by decide +kernel
theorem dX4_follow_74 : decode cX4_follow 74 = .ok (.goto 39, 3) := by decide +kernel
theorem dX4_follow_77 : decode cX4_follow 77 = .ok (.aload_n 0, 1) := by decide +kernel
theorem dX4_follow_78 : decode cX4_follow 78 = .ok (.dup, 1) := by decide +kernel
theorem dX4_follow_79 : decode cX4_follow 79 = .ok (.getfield 15, 3) := by decide +kernel
theorem dX4_follow_82 : decode cX4_follow 82 = .ok (.iconst 1, 1) := by decide +kernel
theorem dX4_follow_83 : decode cX4_follow 83 = .ok (.isub, 1) := by decide +kernel
theorem dX4_follow_84 : decode cX4_follow 84 = .ok (.putfield 15, 3) := by decide +kernel
theorem dX4_follow_87 : decode cX4_follow 87 = .ok (.goto 26, 3) := by decide +kernel
theorem dX4_follow_90 : decode cX4_follow 90 = .ok (.aload_n 0, 1) := by decide +kernel
theorem dX4_follow_91 : decode cX4_follow 91 = .ok (.dup, 1) := by decide +kernel
theorem dX4_follow_92 : decode cX4_follow 92 = .ok (.getfield 18, 3) := by decide +kernel
theorem dX4_follow_95 : decode cX4_follow 95 = .ok (.iconst 1, 1) := by decide +kernel
theorem dX4_follow_96 : decode cX4_follow 96 = .ok (.iadd, 1) := by decide +kernel
theorem dX4_follow_97 : decode cX4_follow 97 = .ok (.putfield 18, 3) := by decide +kernel
theorem dX4_follow_100 : decode cX4_follow 100 = .ok (.goto 13, 3) := by decide +kernel
theorem dX4_follow_103 : decode cX4_follow 103 = .ok (.aload_n 0, 1) := by decide +kernel
theorem dX4_follow_104 : decode cX4_follow 104 = .ok (.dup, 1) := by decide +kernel
theorem dX4_follow_105 : decode cX4_follow 105 = .ok (.getfield 18, 3) := by decide +kernel
theorem dX4_follow_108 : decode cX4_follow 108 = .ok (.iconst 1, 1) := by decide +kernel
theorem dX4_follow_109 : decode cX4_follow 109 = .ok (.isub, 1) := by decide +kernel
theorem dX4_follow_110 : decode cX4_follow 110 = .ok (.putfield 18, 3) := by decide +kernel
theorem dX4_follow_113 : decode cX4_follow 113 = .ok (.return_, 1) := by decide +kernel
theorem dX5_init_0 : decode cX5_init 0 = .ok (.aload_n 0, 1) := by decide +kernel
theorem dX5_init_1 : decode cX5_init 1 = .ok (.invokespecial 3, 3) := by decide +kernel
theorem dX5_init_4 : decode cX5_init 4 = .ok (.aload_n 0, 1) := by decide +kernel
theorem dX5_init_5 : decode cX5_init 5 = .ok (.aload_n 1, 1) := by decide +kernel
theorem dX5_init_6 : decode cX5_init 6 = .ok (.putfield 9, 3) := by decide +kernel
theorem dX5_init_9 : decode cX5_init 9 = .ok (.aload_n 0, 1) := by decide +kernel
theorem dX5_init_10 : decode cX5_init 10 = .ok (.aload_n 2, 1) := by decide +kernel
theorem dX5_init_11 : decode cX5_init 11 = .ok (.putfield 15, 3) := by decide +kernel
theorem dX5_init_14 : decode cX5_init 14 = .ok (.return_, 1) := by decide +kernel
theorem dX5_begin_0 : decode cX5_begin 0 = .ok (.aload_n 0, 1) := by decide +kernel
theorem dX5_begin_1 : decode cX5_begin 1 = .ok (.iload_n 1, 1) := by decide +kernel
theorem dX5_begin_2 : decode cX5_begin 2 = .ok (.iconst 0, 1) := by decide +kernel
theorem dX5_begin_3 : decode cX5_begin 3 = .ok (.aload_n 0, 1) := by decide +kernel
theorem dX5_begin_4 : decode cX5_begin 4 = .ok (.getfield 9, 3) := by decide +kernel
theorem dX5_begin_7 : decode cX5_begin 7 = .ok (.arraylength, 1) := by decide +kernel
theorem dX5_begin_8 : decode cX5_begin 8 = .ok (.invokestatic 19, 3) := by decide +kernel
theorem dX5_begin_11 : decode cX5_begin 11 = .ok (.putfield 23, 3) := by decide +kernel
theorem dX5_begin_14 : decode cX5_begin 14 = .ok (.aload_n 0, 1) := by decide +kernel
theorem dX5_begin_15 : decode cX5_begin 15 = .ok (.iload_n 2, 1) := by decide +kernel
theorem dX5_begin_16 : decode cX5_begin 16 = .ok (.putfield 27, 3) := by decide +kernel
theorem dX5_begin_19 : decode cX5_begin 19 = .ok (.aload_n 0, 1) := by decide +kernel
theorem dX5_begin_20 : decode cX5_begin 20 = .ok (.iload_n 3, 1) := by decide +kernel
theorem dX5_begin_21 : decode cX5_begin 21 = .ok (.putfield 30, 3) := by decide +kernel
theorem dX5_begin_24 : decode cX5_begin 24 = .ok (.aload_n 0, 1) := by decide +kernel
theorem dX5_begin_25 : decode cX5_begin 25 = .ok (.ldc 33, 2) := by decide +kernel
theorem dX5_begin_27 : decode cX5_begin 27 = .ok (.putfield 34, 3) := by decide +kernel
theorem dX5_begin_30 : decode cX5_begin 30 = .ok (.aload_n 0, 1) := by decide +kernel
theorem dX5_begin_31 : decode cX5_begin 31 = .ok (.iconst 0, 1) := by decide +kernel
theorem dX5_begin_32 : decode cX5_begin 32 = .ok (.putfield 37, 3) := by decide +kernel
theorem dX5_begin_35 : decode cX5_begin 35 = .ok (.return_, 1) := by decide +kernel
theorem dX5_extend_0 : decode cX5_extend 0 = .ok (.iload_n 3, 1) := by decide +kernel
theorem dX5_extend_1 : decode cX5_extend 1 = .ok (.aload_n 0, 1) := by decide +kernel
theorem dX5_extend_2 : decode cX5_extend 2 = .ok (.getfield 34, 3) := by decide +kernel
theorem dX5_extend_5 : decode cX5_extend 5 = .ok (.if_icmp .lt 4, 3) := by decide +kernel
theorem dX5_extend_8 : decode cX5_extend 8 = .ok (.return_, 1) := by decide +kernel
theorem dX5_extend_9 : decode cX5_extend 9 = .ok (.iload_n 1, 1) := by decide +kernel
theorem dX5_extend_10 : decode cX5_extend 10 = .ok (.aload_n 0, 1) := by decide +kernel
theorem dX5_extend_11 : decode cX5_extend 11 = .ok (.getfield 27, 3) := by decide +kernel
theorem dX5_extend_14 : decode cX5_extend 14 = .ok (.if_icmp .lt 15, 3) := by decide +kernel
theorem dX5_extend_17 : decode cX5_extend 17 = .ok (.aload_n 0, 1) := by decide +kernel
theorem dX5_extend_18 : decode cX5_extend 18 = .ok (.iload_n 3, 1) := by decide +kernel
theorem dX5_extend_19 : decode cX5_extend 19 = .ok (.putfield 34, 3) := by decide +kernel
theorem dX5_extend_22 : decode cX5_extend 22 = .ok (.aload_n 0, 1) := by decide +kernel
theorem dX5_extend_23 : decode cX5_extend 23 = .ok (.iload 4, 2) := by decide +kernel
theorem dX5_extend_25 : decode cX5_extend 25 = .ok (.putfield 37, 3) := by decide +kernel
theorem dX5_extend_28 : decode cX5_extend 28 = .ok (.return_, 1) := by decide +kernel
theorem dX5_extend_29 : decode cX5_extend 29 = .ok (.aload_n 0, 1) := by decide +kernel
theorem dX5_extend_30 : decode cX5_extend 30 = .ok (.getfield 15, 3) := by decide +kernel
theorem dX5_extend_33 : decode cX5_extend 33 = .ok (.getfield 40, 3) := by decide +kernel
theorem dX5_extend_36 : decode cX5_extend 36 = .ok (.istore 5, 2) := by decide +kernel
theorem dX5_extend_38 : decode cX5_extend 38 = .ok (.iconst 0, 1) := by decide +kernel
theorem dX5_extend_39 : decode cX5_extend 39 = .ok (.istore 6, 2) := by decide +kernel
theorem dX5_extend_41 : decode cX5_extend 41 = .ok (.iload 6, 2) := by decide +kernel
theorem dX5_extend_43 : decode cX5_extend 43 = .ok (.aload_n 0, 1) := by decide +kernel
theorem dX5_extend_44 : decode cX5_extend 44 = .ok (.getfield 23, 3) := by decide +kernel
theorem dX5_extend_47 : decode cX5_extend 47 = .ok (.if_icmp .ge 68, 3) := by decide +kernel
theorem dX5_extend_50 : decode cX5_extend 50 = .ok (.iload_n 2, 1) := by decide +kernel
theorem dX5_extend_51 : decode cX5_extend 51 = .ok (.iload 6, 2) := by decide +kernel
theorem dX5_extend_53 : decode cX5_extend 53 = .ok (.ishr, 1) := by decide +kernel
theorem dX5_extend_54 : decode cX5_extend 54 = .ok (.iconst 1, 1) := by decide +kernel
theorem dX5_extend_55 : decode cX5_extend 55 = .ok (.iand, 1) := by decide +kernel
theorem dX5_extend_56 : decode cX5_extend 56 = .ok (.ifCond .ne 53, 3) := by decide +kernel
theorem dX5_extend_59 : decode cX5_extend 59 = .ok (.aload_n 0, 1) := by decide +kernel
theorem dX5_extend_60 : decode cX5_extend 60 = .ok (.getfield 15, 3) := by decide +kernel
theorem dX5_extend_63 : decode cX5_extend 63 = .ok (.iload 5, 2) := by decide +kernel
theorem dX5_extend_65 : decode cX5_extend 65 = .ok (.putfield 40, 3) := by decide +kernel
theorem dX5_extend_68 : decode cX5_extend 68 = .ok (.aload_n 0, 1) := by decide +kernel
theorem dX5_extend_69 : decode cX5_extend 69 = .ok (.aload_n 0, 1) := by decide +kernel
theorem dX5_extend_70 : decode cX5_extend 70 = .ok (.getfield 9, 3) := by decide +kernel
theorem dX5_extend_73 : decode cX5_extend 73 = .ok (.iload 6, 2) := by decide +kernel
theorem dX5_extend_75 : decode cX5_extend 75 = .ok (.aaload, 1) := by decide +kernel
theorem dX5_extend_76 : decode cX5_extend 76 = .ok (.invokevirtual 45, 3) := by decide +kernel
theorem dX5_extend_79 : decode cX5_extend 79 = .ok (.istore 7, 2) := by decide +kernel
theorem dX5_extend_81 : decode cX5_extend 81 = .ok (.aload_n 0, 1) := by decide +kernel
theorem dX5_extend_82 : decode cX5_extend 82 = .ok (.iload_n 1, 1) := by decide +kernel
theorem dX5_extend_83 : decode cX5_extend 83 = .ok (.iconst 1, 1) := by decide +kernel
theorem dX5_extend_84 : decode cX5_extend 84 = .ok (.iadd, 1) := by decide +kernel
theorem dX5_extend_85 : decode cX5_extend 85 = .ok (.iload_n 2, 1) := by decide +kernel
theorem dX5_extend_86 : decode cX5_extend 86 = .ok (.iconst 1, 1) := by decide +kernel
theorem dX5_extend_87 : decode cX5_extend 87 = .ok (.iload 6, 2) := by decide +kernel
theorem dX5_extend_89 : decode cX5_extend 89 = .ok (.ishl, 1) := by decide +kernel
theorem dX5_extend_90 : decode cX5_extend 90 = .ok (.ior, 1) := by decide +kernel
theorem dX5_extend_91 : decode cX5_extend 91 = .ok (.iload_n 3, 1) := by decide +kernel
theorem dX5_extend_92 : decode cX5_extend 92 = .ok (.iload 7, 2) := by decide +kernel
theorem dX5_extend_94 : decode cX5_extend 94 = .ok (.iadd, 1) := by decide +kernel
theorem dX5_extend_95 : decode cX5_extend 95 = .ok (.iload_n 1, 1) := by decide +kernel
theorem dX5_extend_96 : decode cX5_extend 96 = .ok (.ifCond .ne 8, 3) := by decide +kernel
theorem dX5_extend_99 : decode cX5_extend 99 = .ok (.iload 6, 2) := by decide +kernel
theorem dX5_extend_101 : decode cX5_extend 101 = .ok (.goto 5, 3) := by decide +kernel
theorem dX5_extend_104 : decode cX5_extend 104 = .ok (.iload 4, 2) := by decide +kernel
theorem dX5_extend_106 : decode cX5_extend 106 = .ok (.invokevirtual 49, 3) := by decide +kernel
theorem dX5_extend_109 : decode cX5_extend 109 = .ok (.iinc 6 1, 3) := by decide +kernel
theorem dX5_extend_112 : decode cX5_extend 112 = .ok (.goto (-71), 3) := by decide +kernel
theorem dX5_extend_115 : decode cX5_extend 115 = .ok (.return_, 1) := by decide +kernel
theorem dX5_sewOn_0 : decode cX5_sewOn 0 = .ok (.iconst 0, 1) := by decide +kernel
theorem dX5_sewOn_1 : decode cX5_sewOn 1 = .ok (.istore_n 2, 1) := by decide +kernel
theorem dX5_sewOn_2 : decode cX5_sewOn 2 = .ok (.iconst 0, 1) := by decide +kernel
theorem dX5_sewOn_3 : decode cX5_sewOn 3 = .ok (.istore_n 3, 1) := by decide +kernel
theorem dX5_sewOn_4 : decode cX5_sewOn 4 = .ok (.iload_n 3, 1) := by decide +kernel
theorem dX5_sewOn_5 : decode cX5_sewOn 5 = .ok (.aload_n 0, 1) := by decide +kernel
theorem dX5_sewOn_6 : decode cX5_sewOn 6 = .ok (.getfield 30, 3) := by decide +kernel
theorem dX5_sewOn_9 : decode cX5_sewOn 9 = .ok (.if_icmp .ge 37, 3) := by decide +kernel
theorem dX5_sewOn_12 : decode cX5_sewOn 12 = .ok (.aload_n 1, 1) := by decide +kernel
theorem dX5_sewOn_13 : decode cX5_sewOn 13 = .ok (.aload_n 0, 1) := by decide +kernel
theorem dX5_sewOn_14 : decode cX5_sewOn 14 = .ok (.getfield 15, 3) := by decide +kernel
theorem dX5_sewOn_17 : decode cX5_sewOn 17 = .ok (.invokevirtual 53, 3) := by decide +kernel
theorem dX5_sewOn_20 : decode cX5_sewOn 20 = .ok (.ifCond .eq 6, 3) := by decide +kernel
theorem dX5_sewOn_23 : decode cX5_sewOn 23 = .ok (.iinc 2 1, 3) := by decide +kernel
theorem dX5_sewOn_26 : decode cX5_sewOn 26 = .ok (.aload_n 0, 1) := by decide +kernel
theorem dX5_sewOn_27 : decode cX5_sewOn 27 = .ok (.getfield 15, 3) := by decide +kernel
theorem dX5_sewOn_30 : decode cX5_sewOn 30 = .ok (.aload_n 1, 1) := by decide +kernel
theorem dX5_sewOn_31 : decode cX5_sewOn 31 = .ok (.getfield 59, 3) := by decide +kernel
theorem dX5_sewOn_34 : decode cX5_sewOn 34 = .ok (.invokevirtual 63, 3) := by decide +kernel
theorem dX5_sewOn_37 : decode cX5_sewOn 37 = .ok (.invokevirtual 69, 3) := by decide +kernel
theorem dX5_sewOn_40 : decode cX5_sewOn 40 = .ok (.iinc 3 1, 3) := by decide +kernel
theorem dX5_sewOn_43 : decode cX5_sewOn 43 = .ok (.goto (-39), 3) := by decide +kernel
theorem dX5_sewOn_46 : decode cX5_sewOn 46 = .ok (.iload_n 2, 1) := by decide +kernel
theorem dX5_sewOn_47 : decode cX5_sewOn 47 = .ok (.ireturn, 1) := by decide +kernel
theorem dX6_init_0 : decode cX6_init 0 = .ok (.aload_n 0, 1) := by decide +kernel
theorem dX6_init_1 : decode cX6_init 1 = .ok (.invokespecial 3, 3) := by decide +kernel
theorem dX6_init_4 : decode cX6_init 4 = .ok (.aload_n 0, 1) := by decide +kernel
theorem dX6_init_5 : decode cX6_init 5 = .ok (.bipush 40, 2) := by decide +kernel
theorem dX6_init_7 : decode cX6_init 7 = .ok (.newarray .int, 2) := by decide +kernel
theorem dX6_init_9 : decode cX6_init 9 = .ok (.putfield 9, 3) := by decide +kernel
theorem dX6_init_12 : decode cX6_init 12 = .ok (.return_, 1) := by decide +kernel
theorem dX6_isMissing_0 : decode cX6_isMissing 0 = .ok (.aload_n 0, 1) := by decide +kernel
theorem dX6_isMissing_1 : decode cX6_isMissing 1 = .ok (.getfield 15, 3) := by decide +kernel
theorem dX6_isMissing_4 : decode cX6_isMissing 4 = .ok (.ifCond .ne 7, 3) := by decide +kernel
theorem dX6_isMissing_7 : decode cX6_isMissing 7 = .ok (.iconst 1, 1) := by decide +kernel
theorem dX6_isMissing_8 : decode cX6_isMissing 8 = .ok (.goto 4, 3) := by decide +kernel
theorem dX6_isMissing_11 : decode cX6_isMissing 11 = .ok (.iconst 0, 1) := by decide +kernel
theorem dX6_isMissing_12 : decode cX6_isMissing 12 = .ok (.ireturn, 1) := by decide +kernel
theorem dX6_lay_0 : decode cX6_lay 0 = .ok (.aload_n 0, 1) := by decide +kernel
theorem dX6_lay_1 : decode cX6_lay 1 = .ok (.iload_n 1, 1) := by decide +kernel
theorem dX6_lay_2 : decode cX6_lay 2 = .ok (.putfield 15, 3) := by decide +kernel
theorem dX6_lay_5 : decode cX6_lay 5 = .ok (.aload_n 0, 1) := by decide +kernel
theorem dX6_lay_6 : decode cX6_lay 6 = .ok (.iload_n 2, 1) := by decide +kernel
theorem dX6_lay_7 : decode cX6_lay 7 = .ok (.putfield 19, 3) := by decide +kernel
theorem dX6_lay_10 : decode cX6_lay 10 = .ok (.aload_n 0, 1) := by decide +kernel
theorem dX6_lay_11 : decode cX6_lay 11 = .ok (.getfield 9, 3) := by decide +kernel
theorem dX6_lay_14 : decode cX6_lay 14 = .ok (.iconst 0, 1) := by decide +kernel
theorem dX6_lay_15 : decode cX6_lay 15 = .ok (.invokestatic 22, 3) := by decide +kernel
theorem dX6_lay_18 : decode cX6_lay 18 = .ok (.return_, 1) := by decide +kernel
theorem dX6_write_0 : decode cX6_write 0 = .ok (.aload_n 0, 1) := by decide +kernel
theorem dX6_write_1 : decode cX6_write 1 = .ok (.getfield 9, 3) := by decide +kernel
theorem dX6_write_4 : decode cX6_write 4 = .ok (.iload_n 1, 1) := by decide +kernel
theorem dX6_write_5 : decode cX6_write 5 = .ok (.aload_n 0, 1) := by decide +kernel
theorem dX6_write_6 : decode cX6_write 6 = .ok (.getfield 15, 3) := by decide +kernel
theorem dX6_write_9 : decode cX6_write 9 = .ok (.bipush 8, 2) := by decide +kernel
theorem dX6_write_11 : decode cX6_write 11 = .ok (.if_icmp .ne 8, 3) := by decide +kernel
theorem dX6_write_14 : decode cX6_write 14 = .ok (.iload_n 2, 1) := by decide +kernel
theorem dX6_write_15 : decode cX6_write 15 = .ok (.i2b, 1) := by decide +kernel
theorem dX6_write_16 : decode cX6_write 16 = .ok (.goto 18, 3) := by decide +kernel
theorem dX6_write_19 : decode cX6_write 19 = .ok (.aload_n 0, 1) := by decide +kernel
theorem dX6_write_20 : decode cX6_write 20 = .ok (.getfield 15, 3) := by decide +kernel
theorem dX6_write_23 : decode cX6_write 23 = .ok (.bipush 16, 2) := by decide +kernel
theorem dX6_write_25 : decode cX6_write 25 = .ok (.if_icmp .ne 8, 3) := by decide +kernel
theorem dX6_write_28 : decode cX6_write 28 = .ok (.iload_n 2, 1) := by decide +kernel
theorem dX6_write_29 : decode cX6_write 29 = .ok (.i2s, 1) := by decide +kernel
theorem dX6_write_30 : decode cX6_write 30 = .ok (.goto 4, 3) := by decide +kernel
theorem dX6_write_33 : decode cX6_write 33 = .ok (.iload_n 2, 1) := by decide +kernel
theorem dX6_write_34 : decode cX6_write 34 = .ok (.iastore, 1) := by decide +kernel
theorem dX6_write_35 : decode cX6_write 35 = .ok (.return_, 1) := by decide +kernel
theorem dX6_hasRun_0 : decode cX6_hasRun 0 = .ok (.iload_n 1, 1) := by decide +kernel
theorem dX6_hasRun_1 : decode cX6_hasRun 1 = .ok (.ifCond .lt 29, 3) := by decide +kernel
theorem dX6_hasRun_4 : decode cX6_hasRun 4 = .ok (.iload_n 2, 1) := by decide +kernel
theorem dX6_hasRun_5 : decode cX6_hasRun 5 = .ok (.ifCond .lt 25, 3) := by decide +kernel
theorem dX6_hasRun_8 : decode cX6_hasRun 8 = .ok (.iload_n 2, 1) := by decide +kernel
theorem dX6_hasRun_9 : decode cX6_hasRun 9 = .ok (.aload_n 0, 1) := by decide +kernel
theorem dX6_hasRun_10 : decode cX6_hasRun 10 = .ok (.getfield 19, 3) := by decide +kernel
theorem dX6_hasRun_13 : decode cX6_hasRun 13 = .ok (.if_icmp .gt 17, 3) := by decide +kernel
theorem dX6_hasRun_16 : decode cX6_hasRun 16 = .ok (.iload_n 1, 1) := by decide +kernel
theorem dX6_hasRun_17 : decode cX6_hasRun 17 = .ok (.aload_n 0, 1) := by decide +kernel
theorem dX6_hasRun_18 : decode cX6_hasRun 18 = .ok (.getfield 19, 3) := by decide +kernel
theorem dX6_hasRun_21 : decode cX6_hasRun 21 = .ok (.iload_n 2, 1) := by decide +kernel
theorem dX6_hasRun_22 : decode cX6_hasRun 22 = .ok (.isub, 1) := by decide +kernel
theorem dX6_hasRun_23 : decode cX6_hasRun 23 = .ok (.if_icmp .gt 7, 3) := by decide +kernel
theorem dX6_hasRun_26 : decode cX6_hasRun 26 = .ok (.iconst 1, 1) := by decide +kernel
theorem dX6_hasRun_27 : decode cX6_hasRun 27 = .ok (.goto 4, 3) := by decide +kernel
theorem dX6_hasRun_30 : decode cX6_hasRun 30 = .ok (.iconst 0, 1) := by decide +kernel
theorem dX6_hasRun_31 : decode cX6_hasRun 31 = .ok (.ireturn, 1) := by decide +kernel
theorem dX7_init_0 : decode cX7_init 0 = .ok (.aload_n 0, 1) := by decide +kernel
theorem dX7_init_1 : decode cX7_init 1 = .ok (.invokespecial 3, 3) := by decide +kernel
theorem dX7_init_4 : decode cX7_init 4 = .ok (.aload_n 0, 1) := by decide +kernel
theorem dX7_init_5 : decode cX7_init 5 = .ok (.new 9, 3) := by decide +kernel
theorem dX7_init_8 : decode cX7_init 8 = .ok (.dup, 1) := by decide +kernel
theorem dX7_init_9 : decode cX7_init 9 = .ok (.invokespecial 11, 3) := by decide +kernel
theorem dX7_init_12 : decode cX7_init 12 = .ok (.putfield 12, 3) := by decide +kernel
theorem dX7_init_15 : decode cX7_init 15 = .ok (.aload_n 0, 1) := by decide +kernel
theorem dX7_init_16 : decode cX7_init 16 = .ok (.bipush 6, 2) := by decide +kernel
theorem dX7_init_18 : decode cX7_init 18 = .ok (.anewarray 18, 3) := by decide +kernel
theorem dX7_init_21 : decode cX7_init 21 = .ok (.putfield 20, 3) := by decide +kernel
theorem dX7_init_24 : decode cX7_init 24 = .ok (.aload_n 0, 1) := by decide +kernel
theorem dX7_init_25 : decode cX7_init 25 = .ok (.iconst 2, 1) := by decide +kernel
theorem dX7_init_26 : decode cX7_init 26 = .ok (.anewarray 24, 3) := by decide +kernel
theorem dX7_init_29 : decode cX7_init 29 = .ok (.putfield 26, 3) := by decide +kernel
theorem dX7_init_32 : decode cX7_init 32 = .ok (.aload_n 0, 1) := by decide +kernel
theorem dX7_init_33 : decode cX7_init 33 = .ok (.bipush 50, 2) := by decide +kernel
theorem dX7_init_35 : decode cX7_init 35 = .ok (.newarray .byte, 2) := by decide +kernel
theorem dX7_init_37 : decode cX7_init 37 = .ok (.putfield 30, 3) := by decide +kernel
theorem dX7_init_40 : decode cX7_init 40 = .ok (.aload_n 0, 1) := by decide +kernel
theorem dX7_init_41 : decode cX7_init 41 = .ok (.bipush 20, 2) := by decide +kernel
theorem dX7_init_43 : decode cX7_init 43 = .ok (.newarray .int, 2) := by decide +kernel
theorem dX7_init_45 : decode cX7_init 45 = .ok (.putfield 34, 3) := by decide +kernel
theorem dX7_init_48 : decode cX7_init 48 = .ok (.aload_n 0, 1) := by decide +kernel
theorem dX7_init_49 : decode cX7_init 49 = .ok (.iconst 0, 1) := by decide +kernel
theorem dX7_init_50 : decode cX7_init 50 = .ok (.putfield 38, 3) := by decide +kernel
theorem dX7_init_53 : decode cX7_init 53 = .ok (.aload_n 0, 1) := by decide +kernel
theorem dX7_init_54 : decode cX7_init 54 = .ok (.iconst 0, 1) := by decide +kernel
theorem dX7_init_55 : decode cX7_init 55 = .ok (.putfield 42, 3) := by decide +kernel
theorem dX7_init_58 : decode cX7_init 58 = .ok (.aload_n 0, 1) := by decide +kernel
theorem dX7_init_59 : decode cX7_init 59 = .ok (.iconst 0, 1) := by decide +kernel
theorem dX7_init_60 : decode cX7_init 60 = .ok (.putfield 45, 3) := by decide +kernel
theorem dX7_init_63 : decode cX7_init 63 = .ok (.aload_n 0, 1) := by decide +kernel
theorem dX7_init_64 : decode cX7_init 64 = .ok (.iconst 0, 1) := by decide +kernel
theorem dX7_init_65 : decode cX7_init 65 = .ok (.putfield 48, 3) := by decide +kernel
theorem dX7_init_68 : decode cX7_init 68 = .ok (.aload_n 0, 1) := by decide +kernel
theorem dX7_init_69 : decode cX7_init 69 = .ok (.iconst 1, 1) := by decide +kernel
theorem dX7_init_70 : decode cX7_init 70 = .ok (.putfield 51, 3) := by decide +kernel
theorem dX7_init_73 : decode cX7_init 73 = .ok (.iconst 0, 1) := by decide +kernel
theorem dX7_init_74 : decode cX7_init 74 = .ok (.istore_n 1, 1) := by decide +kernel
theorem dX7_init_75 : decode cX7_init 75 = .ok (.iload_n 1, 1) := by decide +kernel
theorem dX7_init_76 : decode cX7_init 76 = .ok (.bipush 6, 2) := by decide +kernel
theorem dX7_init_78 : decode cX7_init 78 = .ok (.if_icmp .ge 22, 3) := by decide +kernel
theorem dX7_init_81 : decode cX7_init 81 = .ok (.aload_n 0, 1) := by decide +kernel
theorem dX7_init_82 : decode cX7_init 82 = .ok (.getfield 20, 3) := by decide +kernel
theorem dX7_init_85 : decode cX7_init 85 = .ok (.iload_n 1, 1) := by decide +kernel
theorem dX7_init_86 : decode cX7_init 86 = .ok (.new 18, 3) := by decide +kernel
theorem dX7_init_89 : decode cX7_init 89 = .ok (.dup, 1) := by decide +kernel
theorem dX7_init_90 : decode cX7_init 90 = .ok (.invokespecial 54, 3) := by decide +kernel
theorem dX7_init_93 : decode cX7_init 93 = .ok (.aastore, 1) := by decide +kernel
theorem dX7_init_94 : decode cX7_init 94 = .ok (.iinc 1 1, 3) := by decide +kernel
theorem dX7_init_97 : decode cX7_init 97 = .ok (.goto (-22), 3) := by decide +kernel
theorem dX7_init_100 : decode cX7_init 100 = .ok (.aload_n 0, 1) := by decide +kernel
theorem dX7_init_101 : decode cX7_init 101 = .ok (.getfield 26, 3) := by decide +kernel
theorem dX7_init_104 : decode cX7_init 104 = .ok (.iconst 0, 1) := by decide +kernel
theorem dX7_init_105 : decode cX7_init 105 = .ok (.new 24, 3) := by decide +kernel
theorem dX7_init_108 : decode cX7_init 108 = .ok (.dup, 1) := by decide +kernel
theorem dX7_init_109 : decode cX7_init 109 = .ok (.invokespecial 55, 3) := by decide +kernel
theorem dX7_init_112 : decode cX7_init 112 = .ok (.aastore, 1) := by decide +kernel
theorem dX7_init_113 : decode cX7_init 113 = .ok (.aload_n 0, 1) := by decide +kernel
theorem dX7_init_114 : decode cX7_init 114 = .ok (.getfield 26, 3) := by decide +kernel
theorem dX7_init_117 : decode cX7_init 117 = .ok (.iconst 1, 1) := by decide +kernel
theorem dX7_init_118 : decode cX7_init 118 = .ok (.new 24, 3) := by decide +kernel
theorem dX7_init_121 : decode cX7_init 121 = .ok (.dup, 1) := by decide +kernel
theorem dX7_init_122 : decode cX7_init 122 = .ok (.invokespecial 55, 3) := by decide +kernel
theorem dX7_init_125 : decode cX7_init 125 = .ok (.aastore, 1) := by decide +kernel
theorem dX7_init_126 : decode cX7_init 126 = .ok (.return_, 1) := by decide +kernel
theorem dX7_copyFrom_0 : decode cX7_copyFrom 0 = .ok (.aload_n 0, 1) := by decide +kernel
theorem dX7_copyFrom_1 : decode cX7_copyFrom 1 = .ok (.getfield 12, 3) := by decide +kernel
theorem dX7_copyFrom_4 : decode cX7_copyFrom 4 = .ok (.aload_n 1, 1) := by decide +kernel
theorem dX7_copyFrom_5 : decode cX7_copyFrom 5 = .ok (.getfield 12, 3) := by decide +kernel
theorem dX7_copyFrom_8 : decode cX7_copyFrom 8 = .ok (.invokevirtual 56, 3) := by decide +kernel
theorem dX7_copyFrom_11 : decode cX7_copyFrom 11 = .ok (.iconst 0, 1) := by decide +kernel
theorem dX7_copyFrom_12 : decode cX7_copyFrom 12 = .ok (.istore_n 2, 1) := by decide +kernel
theorem dX7_copyFrom_13 : decode cX7_copyFrom 13 = .ok (.iload_n 2, 1) := by decide +kernel
theorem dX7_copyFrom_14 : decode cX7_copyFrom 14 = .ok (.bipush 6, 2) := by decide +kernel
theorem dX7_copyFrom_16 : decode cX7_copyFrom 16 = .ok (.if_icmp .ge 24, 3) := by decide +kernel
theorem dX7_copyFrom_19 : decode cX7_copyFrom 19 = .ok (.aload_n 0, 1) := by decide +kernel
theorem dX7_copyFrom_20 : decode cX7_copyFrom 20 = .ok (.getfield 20, 3) := by decide +kernel
theorem dX7_copyFrom_23 : decode cX7_copyFrom 23 = .ok (.iload_n 2, 1) := by decide +kernel
theorem dX7_copyFrom_24 : decode cX7_copyFrom 24 = .ok (.aaload, 1) := by decide +kernel
theorem dX7_copyFrom_25 : decode cX7_copyFrom 25 = .ok (.aload_n 1, 1) := by decide +kernel
theorem dX7_copyFrom_26 : decode cX7_copyFrom 26 = .ok (.getfield 20, 3) := by decide +kernel
theorem dX7_copyFrom_29 : decode cX7_copyFrom 29 = .ok (.iload_n 2, 1) := by decide +kernel
theorem dX7_copyFrom_30 : decode cX7_copyFrom 30 = .ok (.aaload, 1) := by decide +kernel
theorem dX7_copyFrom_31 : decode cX7_copyFrom 31 = .ok (.invokevirtual 60, 3) := by decide +kernel
theorem dX7_copyFrom_34 : decode cX7_copyFrom 34 = .ok (.iinc 2 1, 3) := by decide +kernel
theorem dX7_copyFrom_37 : decode cX7_copyFrom 37 = .ok (.goto (-24), 3) := by decide +kernel
theorem dX7_copyFrom_40 : decode cX7_copyFrom 40 = .ok (.aload_n 0, 1) := by decide +kernel
theorem dX7_copyFrom_41 : decode cX7_copyFrom 41 = .ok (.getfield 26, 3) := by decide +kernel
theorem dX7_copyFrom_44 : decode cX7_copyFrom 44 = .ok (.iconst 0, 1) := by decide +kernel
theorem dX7_copyFrom_45 : decode cX7_copyFrom 45 = .ok (.aaload, 1) := by decide +kernel
theorem dX7_copyFrom_46 : decode cX7_copyFrom 46 = .ok (.aload_n 1, 1) := by decide +kernel
theorem dX7_copyFrom_47 : decode cX7_copyFrom 47 = .ok (.getfield 26, 3) := by decide +kernel
theorem dX7_copyFrom_50 : decode cX7_copyFrom 50 = .ok (.iconst 0, 1) := by decide +kernel
theorem dX7_copyFrom_51 : decode cX7_copyFrom 51 = .ok (.aaload, 1) := by decide +kernel
theorem dX7_copyFrom_52 : decode cX7_copyFrom 52 = .ok (.getfield 63, 3) := by decide +kernel
theorem dX7_copyFrom_55 : decode cX7_copyFrom 55 = .ok (.aload_n 1, 1) := by decide +kernel
theorem dX7_copyFrom_56 : decode cX7_copyFrom 56 = .ok (.getfield 26, 3) := by decide +kernel
theorem dX7_copyFrom_59 : decode cX7_copyFrom 59 = .ok (.iconst 0, 1) := by decide +kernel
theorem dX7_copyFrom_60 : decode cX7_copyFrom 60 = .ok (.aaload, 1) := by decide +kernel
theorem dX7_copyFrom_61 : decode cX7_copyFrom 61 = .ok (.getfield 66, 3) := by decide +kernel
theorem dX7_copyFrom_64 : decode cX7_copyFrom 64 = .ok (.invokevirtual 69, 3) := by decide +kernel
theorem dX7_copyFrom_67 : decode cX7_copyFrom 67 = .ok (.aload_n 0, 1) := by decide +kernel
theorem dX7_copyFrom_68 : decode cX7_copyFrom 68 = .ok (.getfield 26, 3) := by decide +kernel
theorem dX7_copyFrom_71 : decode cX7_copyFrom 71 = .ok (.iconst 1, 1) := by decide +kernel
theorem dX7_copyFrom_72 : decode cX7_copyFrom 72 = .ok (.aaload, 1) := by decide +kernel
theorem dX7_copyFrom_73 : decode cX7_copyFrom 73 = .ok (.aload_n 1, 1) := by decide +kernel
theorem dX7_copyFrom_74 : decode cX7_copyFrom 74 = .ok (.getfield 26, 3) := by decide +kernel
theorem dX7_copyFrom_77 : decode cX7_copyFrom 77 = .ok (.iconst 1, 1) := by decide +kernel
theorem dX7_copyFrom_78 : decode cX7_copyFrom 78 = .ok (.aaload, 1) := by decide +kernel
theorem dX7_copyFrom_79 : decode cX7_copyFrom 79 = .ok (.getfield 63, 3) := by decide +kernel
theorem dX7_copyFrom_82 : decode cX7_copyFrom 82 = .ok (.aload_n 1, 1) := by decide +kernel
theorem dX7_copyFrom_83 : decode cX7_copyFrom 83 = .ok (.getfield 26, 3) := by decide +kernel
theorem dX7_copyFrom_86 : decode cX7_copyFrom 86 = .ok (.iconst 1, 1) := by decide +kernel
theorem dX7_copyFrom_87 : decode cX7_copyFrom 87 = .ok (.aaload, 1) := by decide +kernel
theorem dX7_copyFrom_88 : decode cX7_copyFrom 88 = .ok (.getfield 66, 3) := by decide +kernel
theorem dX7_copyFrom_91 : decode cX7_copyFrom 91 = .ok (.invokevirtual 69, 3) := by decide +kernel
theorem dX7_copyFrom_94 : decode cX7_copyFrom 94 = .ok (.aload_n 1, 1) := by decide +kernel
theorem dX7_copyFrom_95 : decode cX7_copyFrom 95 = .ok (.getfield 30, 3) := by decide +kernel
theorem dX7_copyFrom_98 : decode cX7_copyFrom 98 = .ok (.iconst 0, 1) := by decide +kernel
theorem dX7_copyFrom_99 : decode cX7_copyFrom 99 = .ok (.aload_n 0, 1) := by decide +kernel
theorem dX7_copyFrom_100 : decode cX7_copyFrom 100 = .ok (.getfield 30, 3) := by decide +kernel
theorem dX7_copyFrom_103 : decode cX7_copyFrom 103 = .ok (.iconst 0, 1) := by decide +kernel
theorem dX7_copyFrom_104 : decode cX7_copyFrom 104 = .ok (.bipush 50, 2) := by decide +kernel
theorem dX7_copyFrom_106 : decode cX7_copyFrom 106 = .ok (.invokestatic 73, 3) := by decide +kernel
theorem dX7_copyFrom_109 : decode cX7_copyFrom 109 = .ok (.aload_n 1, 1) := by decide +kernel
theorem dX7_copyFrom_110 : decode cX7_copyFrom 110 = .ok (.getfield 34, 3) := by decide +kernel
theorem dX7_copyFrom_113 : decode cX7_copyFrom 113 = .ok (.iconst 0, 1) := by decide +kernel
theorem dX7_copyFrom_114 : decode cX7_copyFrom 114 = .ok (.aload_n 0, 1) := by decide +kernel
theorem dX7_copyFrom_115 : decode cX7_copyFrom 115 = .ok (.getfield 34, 3) := by decide +kernel
theorem dX7_copyFrom_118 : decode cX7_copyFrom 118 = .ok (.iconst 0, 1) := by decide +kernel
theorem dX7_copyFrom_119 : decode cX7_copyFrom 119 = .ok (.bipush 20, 2) := by decide +kernel
theorem dX7_copyFrom_121 : decode cX7_copyFrom 121 = .ok (.invokestatic 73, 3) := by decide +kernel
theorem dX7_copyFrom_124 : decode cX7_copyFrom 124 = .ok (.aload_n 0, 1) := by decide +kernel
theorem dX7_copyFrom_125 : decode cX7_copyFrom 125 = .ok (.aload_n 1, 1) := by decide +kernel
theorem dX7_copyFrom_126 : decode cX7_copyFrom 126 = .ok (.getfield 38, 3) := by decide +kernel
theorem dX7_copyFrom_129 : decode cX7_copyFrom 129 = .ok (.putfield 38, 3) := by decide +kernel
theorem dX7_copyFrom_132 : decode cX7_copyFrom 132 = .ok (.aload_n 0, 1) := by decide +kernel
theorem dX7_copyFrom_133 : decode cX7_copyFrom 133 = .ok (.aload_n 1, 1) := by decide +kernel
theorem dX7_copyFrom_134 : decode cX7_copyFrom 134 = .ok (.getfield 42, 3) := by decide +kernel
theorem dX7_copyFrom_137 : decode cX7_copyFrom 137 = .ok (.putfield 42, 3) := by decide +kernel
theorem dX7_copyFrom_140 : decode cX7_copyFrom 140 = .ok (.aload_n 0, 1) := by decide +kernel
theorem dX7_copyFrom_141 : decode cX7_copyFrom 141 = .ok (.aload_n 1, 1) := by decide +kernel
theorem dX7_copyFrom_142 : decode cX7_copyFrom 142 = .ok (.getfield 45, 3) := by decide +kernel
theorem dX7_copyFrom_145 : decode cX7_copyFrom 145 = .ok (.putfield 45, 3) := by decide +kernel
theorem dX7_copyFrom_148 : decode cX7_copyFrom 148 = .ok (.aload_n 0, 1) := by decide +kernel
theorem dX7_copyFrom_149 : decode cX7_copyFrom 149 = .ok (.aload_n 1, 1) := by decide +kernel
theorem dX7_copyFrom_150 : decode cX7_copyFrom 150 = .ok (.getfield 48, 3) := by decide +kernel
theorem dX7_copyFrom_153 : decode cX7_copyFrom 153 = .ok (.putfield 48, 3) := by decide +kernel
theorem dX7_copyFrom_156 : decode cX7_copyFrom 156 = .ok (.aload_n 0, 1) := by decide +kernel
theorem dX7_copyFrom_157 : decode cX7_copyFrom 157 = .ok (.aload_n 1, 1) := by decide +kernel
theorem dX7_copyFrom_158 : decode cX7_copyFrom 158 = .ok (.getfield 51, 3) := by decide +kernel
theorem dX7_copyFrom_161 : decode cX7_copyFrom 161 = .ok (.putfield 51, 3) := by decide +kernel
theorem dX7_copyFrom_164 : decode cX7_copyFrom 164 = .ok (.return_, 1) := by decide +kernel
theorem dX7_gives_0 : decode cX7_gives 0 = .ok (.iload_n 1, 1) := by decide +kernel
theorem dX7_gives_1 : decode cX7_gives 1 = .ok (.ifCond .ne 44, 3) := by decide +kernel
theorem dX7_gives_4 : decode cX7_gives 4 = .ok (.aload_n 0, 1) := by decide +kernel
theorem dX7_gives_5 : decode cX7_gives 5 = .ok (.getfield 26, 3) := by decide +kernel
theorem dX7_gives_8 : decode cX7_gives 8 = .ok (.iconst 0, 1) := by decide +kernel
theorem dX7_gives_9 : decode cX7_gives 9 = .ok (.aaload, 1) := by decide +kernel
theorem dX7_gives_10 : decode cX7_gives 10 = .ok (.astore 5, 2) := by decide +kernel
theorem dX7_gives_12 : decode cX7_gives 12 = .ok (.aload 5, 2) := by decide +kernel
theorem dX7_gives_14 : decode cX7_gives 14 = .ok (.getfield 66, 3) := by decide +kernel
theorem dX7_gives_17 : decode cX7_gives 17 = .ok (.ifCond .ne 11, 3) := by decide +kernel
theorem dX7_gives_20 : decode cX7_gives 20 = .ok (.iconst 2, 1) := by decide +kernel
theorem dX7_gives_21 : decode cX7_gives 21 = .ok (.iload_n 2, 1) := by decide +kernel
theorem dX7_gives_22 : decode cX7_gives 22 = .ok (.iconst 2, 1) := by decide +kernel
theorem dX7_gives_23 : decode cX7_gives 23 = .ok (.idiv, 1) := by decide +kernel
theorem dX7_gives_24 : decode cX7_gives 24 = .ok (.iadd, 1) := by decide +kernel
theorem dX7_gives_25 : decode cX7_gives 25 = .ok (.goto 12, 3) := by decide +kernel
theorem dX7_gives_28 : decode cX7_gives 28 = .ok (.aload 5, 2) := by decide +kernel
theorem dX7_gives_30 : decode cX7_gives 30 = .ok (.iload_n 2, 1) := by decide +kernel
theorem dX7_gives_31 : decode cX7_gives 31 = .ok (.iload_n 3, 1) := by decide +kernel
theorem dX7_gives_32 : decode cX7_gives 32 = .ok (.iload 4, 2) := by decide +kernel
theorem dX7_gives_34 : decode cX7_gives 34 = .ok (.invokevirtual 79, 3) := by decide +kernel
theorem dX7_gives_37 : decode cX7_gives 37 = .ok (.bipush (-9), 2) := by decide +kernel
theorem dX7_gives_39 : decode cX7_gives 39 = .ok (.bipush 19, 2) := by decide +kernel
theorem dX7_gives_41 : decode cX7_gives 41 = .ok (.invokestatic 83, 3) := by decide +kernel
theorem dX7_gives_44 : decode cX7_gives 44 = .ok (.ireturn, 1) := by decide +kernel
theorem dX7_gives_45 : decode cX7_gives 45 = .ok (.aload_n 0, 1) := by decide +kernel
theorem dX7_gives_46 : decode cX7_gives 46 = .ok (.getfield 26, 3) := by decide +kernel
theorem dX7_gives_49 : decode cX7_gives 49 = .ok (.iconst 1, 1) := by decide +kernel
theorem dX7_gives_50 : decode cX7_gives 50 = .ok (.aaload, 1) := by decide +kernel
theorem dX7_gives_51 : decode cX7_gives 51 = .ok (.astore 5, 2) := by decide +kernel
theorem dX7_gives_53 : decode cX7_gives 53 = .ok (.aload 5, 2) := by decide +kernel
theorem dX7_gives_55 : decode cX7_gives 55 = .ok (.getfield 66, 3) := by decide +kernel
theorem dX7_gives_58 : decode cX7_gives 58 = .ok (.ifCond .ne 7, 3) := by decide +kernel
theorem dX7_gives_61 : decode cX7_gives 61 = .ok (.iconst 4, 1) := by decide +kernel
theorem dX7_gives_62 : decode cX7_gives 62 = .ok (.goto 12, 3) := by decide +kernel
theorem dX7_gives_65 : decode cX7_gives 65 = .ok (.aload 5, 2) := by decide +kernel
theorem dX7_gives_67 : decode cX7_gives 67 = .ok (.iload_n 2, 1) := by decide +kernel
theorem dX7_gives_68 : decode cX7_gives 68 = .ok (.iload_n 3, 1) := by decide +kernel
theorem dX7_gives_69 : decode cX7_gives 69 = .ok (.iload 4, 2) := by decide +kernel
theorem dX7_gives_71 : decode cX7_gives 71 = .ok (.invokevirtual 79, 3) := by decide +kernel
theorem dX7_gives_74 : decode cX7_gives 74 = .ok (.iconst 0, 1) := by decide +kernel
theorem dX7_gives_75 : decode cX7_gives 75 = .ok (.bipush 9, 2) := by decide +kernel
theorem dX7_gives_77 : decode cX7_gives 77 = .ok (.invokestatic 83, 3) := by decide +kernel
theorem dX7_gives_80 : decode cX7_gives 80 = .ok (.ireturn, 1) := by decide +kernel
theorem dX7_follow_0 : decode cX7_follow 0 = .ok (.aload_n 0, 1) := by decide +kernel
theorem dX7_follow_1 : decode cX7_follow 1 = .ok (.getfield 12, 3) := by decide +kernel
theorem dX7_follow_4 : decode cX7_follow 4 = .ok (.iload_n 1, 1) := by decide +kernel
theorem dX7_follow_5 : decode cX7_follow 5 = .ok (.invokevirtual 86, 3) := by decide +kernel
theorem dX7_follow_8 : decode cX7_follow 8 = .ok (.aload_n 0, 1) := by decide +kernel
theorem dX7_follow_9 : decode cX7_follow 9 = .ok (.dup, 1) := by decide +kernel
theorem dX7_follow_10 : decode cX7_follow 10 = .ok (.getfield 48, 3) := by decide +kernel
theorem dX7_follow_13 : decode cX7_follow 13 = .ok (.getstatic 90, 3) := by decide +kernel
theorem dX7_follow_16 : decode cX7_follow 16 = .ok (.iload_n 1, 1) := by decide +kernel
theorem dX7_follow_17 : decode cX7_follow 17 = .ok (.iaload, 1) := by decide +kernel
theorem dX7_follow_18 : decode cX7_follow 18 = .ok (.iadd, 1) := by decide +kernel
theorem dX7_follow_19 : decode cX7_follow 19 = .ok (.putfield 48, 3) := by decide +kernel
theorem dX7_follow_22 : decode cX7_follow 22 = .ok (.return_, 1) := by decide +kernel
theorem dX7_sewYard_0 : decode cX7_sewYard 0 = .ok (.aload_n 1, 1) := by decide +kernel
theorem dX7_sewYard_1 : decode cX7_sewYard 1 = .ok (.getfield 93, 3) := by decide +kernel
theorem dX7_sewYard_4 : decode cX7_sewYard 4 = .ok (.astore_n 2, 1) := by decide +kernel
theorem dX7_sewYard_5 : decode cX7_sewYard 5 = .ok (.aload_n 1, 1) := by decide +kernel
theorem dX7_sewYard_6 : decode cX7_sewYard 6 = .ok (.aload_n 0, 1) := by decide +kernel
theorem dX7_sewYard_7 : decode cX7_sewYard 7 = .ok (.getfield 12, 3) := by decide +kernel
theorem dX7_sewYard_10 : decode cX7_sewYard 10 = .ok (.invokevirtual 99, 3) := by decide +kernel
theorem dX7_sewYard_13 : decode cX7_sewYard 13 = .ok (.ifCond .ne 7, 3) := by decide +kernel
theorem dX7_sewYard_16 : decode cX7_sewYard 16 = .ok (.iconst 0, 1) := by decide +kernel
theorem dX7_sewYard_17 : decode cX7_sewYard 17 = .ok (.goto 4, 3) := by decide +kernel
theorem dX7_sewYard_20 : decode cX7_sewYard 20 = .ok (.iconst 1, 1) := by decide +kernel
theorem dX7_sewYard_21 : decode cX7_sewYard 21 = .ok (.istore_n 3, 1) := by decide +kernel
theorem dX7_sewYard_22 : decode cX7_sewYard 22 = .ok (.aload_n 2, 1) := by decide +kernel
theorem dX7_sewYard_23 : decode cX7_sewYard 23 = .ok (.sipush 9999, 3) := by decide +kernel
theorem dX7_sewYard_26 : decode cX7_sewYard 26 = .ok (.aload_n 2, 1) := by decide +kernel
theorem dX7_sewYard_27 : decode cX7_sewYard 27 = .ok (.getfield 103, 3) := by decide +kernel
theorem dX7_sewYard_30 : decode cX7_sewYard 30 = .ok (.iload_n 3, 1) := by decide +kernel
theorem dX7_sewYard_31 : decode cX7_sewYard 31 = .ok (.iadd, 1) := by decide +kernel
theorem dX7_sewYard_32 : decode cX7_sewYard 32 = .ok (.invokestatic 106, 3) := by decide +kernel
theorem dX7_sewYard_35 : decode cX7_sewYard 35 = .ok (.putfield 103, 3) := by decide +kernel
theorem dX7_sewYard_38 : decode cX7_sewYard 38 = .ok (.aload_n 2, 1) := by decide +kernel
theorem dX7_sewYard_39 : decode cX7_sewYard 39 = .ok (.sipush 9999, 3) := by decide +kernel
theorem dX7_sewYard_42 : decode cX7_sewYard 42 = .ok (.aload_n 2, 1) := by decide +kernel
theorem dX7_sewYard_43 : decode cX7_sewYard 43 = .ok (.getfield 112, 3) := by decide +kernel
theorem dX7_sewYard_46 : decode cX7_sewYard 46 = .ok (.iconst 1, 1) := by decide +kernel
theorem dX7_sewYard_47 : decode cX7_sewYard 47 = .ok (.iadd, 1) := by decide +kernel
theorem dX7_sewYard_48 : decode cX7_sewYard 48 = .ok (.invokestatic 106, 3) := by decide +kernel
theorem dX7_sewYard_51 : decode cX7_sewYard 51 = .ok (.putfield 112, 3) := by decide +kernel
theorem dX7_sewYard_54 : decode cX7_sewYard 54 = .ok (.aload_n 0, 1) := by decide +kernel
theorem dX7_sewYard_55 : decode cX7_sewYard 55 = .ok (.getfield 12, 3) := by decide +kernel
theorem dX7_sewYard_58 : decode cX7_sewYard 58 = .ok (.aload_n 2, 1) := by decide +kernel
theorem dX7_sewYard_59 : decode cX7_sewYard 59 = .ok (.invokevirtual 115, 3) := by decide +kernel
theorem dX7_sewYard_62 : decode cX7_sewYard 62 = .ok (.invokevirtual 119, 3) := by decide +kernel
theorem dX7_sewYard_65 : decode cX7_sewYard 65 = .ok (.aload_n 0, 1) := by decide +kernel
theorem dX7_sewYard_66 : decode cX7_sewYard 66 = .ok (.dup, 1) := by decide +kernel
theorem dX7_sewYard_67 : decode cX7_sewYard 67 = .ok (.getfield 48, 3) := by decide +kernel
theorem dX7_sewYard_70 : decode cX7_sewYard 70 = .ok (.aload_n 0, 1) := by decide +kernel
theorem dX7_sewYard_71 : decode cX7_sewYard 71 = .ok (.getfield 12, 3) := by decide +kernel
theorem dX7_sewYard_74 : decode cX7_sewYard 74 = .ok (.invokevirtual 122, 3) := by decide +kernel
theorem dX7_sewYard_77 : decode cX7_sewYard 77 = .ok (.iadd, 1) := by decide +kernel
theorem dX7_sewYard_78 : decode cX7_sewYard 78 = .ok (.putfield 48, 3) := by decide +kernel
theorem dX7_sewYard_81 : decode cX7_sewYard 81 = .ok (.iload_n 3, 1) := by decide +kernel
theorem dX7_sewYard_82 : decode cX7_sewYard 82 = .ok (.ireturn, 1) := by decide +kernel
theorem dX7_draw_0 : decode cX7_draw 0 = .ok (.aload_n 0, 1) := by decide +kernel
theorem dX7_draw_1 : decode cX7_draw 1 = .ok (.aload_n 0, 1) := by decide +kernel
theorem dX7_draw_2 : decode cX7_draw 2 = .ok (.getfield 51, 3) := by decide +kernel
theorem dX7_draw_5 : decode cX7_draw 5 = .ok (.ldc 125, 2) := by decide +kernel
theorem dX7_draw_7 : decode cX7_draw 7 = .ok (.imul, 1) := by decide +kernel
theorem dX7_draw_8 : decode cX7_draw 8 = .ok (.sipush 12345, 3) := by decide +kernel
theorem dX7_draw_11 : decode cX7_draw 11 = .ok (.iadd, 1) := by decide +kernel
theorem dX7_draw_12 : decode cX7_draw 12 = .ok (.putfield 51, 3) := by decide +kernel
theorem dX7_draw_15 : decode cX7_draw 15 = .ok (.aload_n 0, 1) := by decide +kernel
theorem dX7_draw_16 : decode cX7_draw 16 = .ok (.getfield 51, 3) := by decide +kernel
theorem dX7_draw_19 : decode cX7_draw 19 = .ok (.bipush 8, 2) := by decide +kernel
theorem dX7_draw_21 : decode cX7_draw 21 = .ok (.iushr, 1) := by decide +kernel
theorem dX7_draw_22 : decode cX7_draw 22 = .ok (.ireturn, 1) := by decide +kernel
theorem dX7_allYards_0 : decode cX7_allYards 0 = .ok (.iconst 0, 1) := by decide +kernel
theorem dX7_allYards_1 : decode cX7_allYards 1 = .ok (.istore_n 1, 1) := by decide +kernel
theorem dX7_allYards_2 : decode cX7_allYards 2 = .ok (.iconst 0, 1) := by decide +kernel
theorem dX7_allYards_3 : decode cX7_allYards 3 = .ok (.istore_n 2, 1) := by decide +kernel
theorem dX7_allYards_4 : decode cX7_allYards 4 = .ok (.iload_n 2, 1) := by decide +kernel
theorem dX7_allYards_5 : decode cX7_allYards 5 = .ok (.aload_n 0, 1) := by decide +kernel
theorem dX7_allYards_6 : decode cX7_allYards 6 = .ok (.getfield 38, 3) := by decide +kernel
theorem dX7_allYards_9 : decode cX7_allYards 9 = .ok (.if_icmp .ge 21, 3) := by decide +kernel
theorem dX7_allYards_12 : decode cX7_allYards 12 = .ok (.iload_n 1, 1) := by decide +kernel
theorem dX7_allYards_13 : decode cX7_allYards 13 = .ok (.aload_n 0, 1) := by decide +kernel
theorem dX7_allYards_14 : decode cX7_allYards 14 = .ok (.getfield 20, 3) := by decide +kernel
theorem dX7_allYards_17 : decode cX7_allYards 17 = .ok (.iload_n 2, 1) := by decide +kernel
theorem dX7_allYards_18 : decode cX7_allYards 18 = .ok (.aaload, 1) := by decide +kernel
theorem dX7_allYards_19 : decode cX7_allYards 19 = .ok (.getfield 112, 3) := by decide +kernel
theorem dX7_allYards_22 : decode cX7_allYards 22 = .ok (.iadd, 1) := by decide +kernel
theorem dX7_allYards_23 : decode cX7_allYards 23 = .ok (.istore_n 1, 1) := by decide +kernel
theorem dX7_allYards_24 : decode cX7_allYards 24 = .ok (.iinc 2 1, 3) := by decide +kernel
theorem dX7_allYards_27 : decode cX7_allYards 27 = .ok (.goto (-23), 3) := by decide +kernel
theorem dX7_allYards_30 : decode cX7_allYards 30 = .ok (.iload_n 1, 1) := by decide +kernel
theorem dX7_allYards_31 : decode cX7_allYards 31 = .ok (.ireturn, 1) := by decide +kernel
theorem dX7_allSpoilt_0 : decode cX7_allSpoilt 0 = .ok (.iconst 0, 1) := by decide +kernel
theorem dX7_allSpoilt_1 : decode cX7_allSpoilt 1 = .ok (.istore_n 1, 1) := by decide +kernel
theorem dX7_allSpoilt_2 : decode cX7_allSpoilt 2 = .ok (.iconst 0, 1) := by decide +kernel
theorem dX7_allSpoilt_3 : decode cX7_allSpoilt 3 = .ok (.istore_n 2, 1) := by decide +kernel
theorem dX7_allSpoilt_4 : decode cX7_allSpoilt 4 = .ok (.iload_n 2, 1) := by decide +kernel
theorem dX7_allSpoilt_5 : decode cX7_allSpoilt 5 = .ok (.aload_n 0, 1) := by decide +kernel
theorem dX7_allSpoilt_6 : decode cX7_allSpoilt 6 = .ok (.getfield 38, 3) := by decide +kernel
theorem dX7_allSpoilt_9 : decode cX7_allSpoilt 9 = .ok (.if_icmp .ge 21, 3) := by decide +kernel
theorem dX7_allSpoilt_12 : decode cX7_allSpoilt 12 = .ok (.iload_n 1, 1) := by decide +kernel
theorem dX7_allSpoilt_13 : decode cX7_allSpoilt 13 = .ok (.aload_n 0, 1) := by decide +kernel
theorem dX7_allSpoilt_14 : decode cX7_allSpoilt 14 = .ok (.getfield 20, 3) := by decide +kernel
theorem dX7_allSpoilt_17 : decode cX7_allSpoilt 17 = .ok (.iload_n 2, 1) := by decide +kernel
theorem dX7_allSpoilt_18 : decode cX7_allSpoilt 18 = .ok (.aaload, 1) := by decide +kernel
theorem dX7_allSpoilt_19 : decode cX7_allSpoilt 19 = .ok (.getfield 103, 3) := by decide +kernel
theorem dX7_allSpoilt_22 : decode cX7_allSpoilt 22 = .ok (.iadd, 1) := by decide +kernel
theorem dX7_allSpoilt_23 : decode cX7_allSpoilt 23 = .ok (.istore_n 1, 1) := by decide +kernel
theorem dX7_allSpoilt_24 : decode cX7_allSpoilt 24 = .ok (.iinc 2 1, 3) := by decide +kernel
theorem dX7_allSpoilt_27 : decode cX7_allSpoilt 27 = .ok (.goto (-23), 3) := by decide +kernel
theorem dX7_allSpoilt_30 : decode cX7_allSpoilt 30 = .ok (.iload_n 1, 1) := by decide +kernel
theorem dX7_allSpoilt_31 : decode cX7_allSpoilt 31 = .ok (.ireturn, 1) := by decide +kernel
theorem dX8_init_0 : decode cX8_init 0 = .ok (.aload_n 0, 1) := by decide +kernel
theorem dX8_init_1 : decode cX8_init 1 = .ok (.invokespecial 3, 3) := by decide +kernel
theorem dX8_init_4 : decode cX8_init 4 = .ok (.aload_n 0, 1) := by decide +kernel
theorem dX8_init_5 : decode cX8_init 5 = .ok (.bipush 50, 2) := by decide +kernel
theorem dX8_init_7 : decode cX8_init 7 = .ok (.newarray .int, 2) := by decide +kernel
theorem dX8_init_9 : decode cX8_init 9 = .ok (.putfield 9, 3) := by decide +kernel
theorem dX8_init_12 : decode cX8_init 12 = .ok (.aload_n 0, 1) := by decide +kernel
theorem dX8_init_13 : decode cX8_init 13 = .ok (.bipush 50, 2) := by decide +kernel
theorem dX8_init_15 : decode cX8_init 15 = .ok (.newarray .int, 2) := by decide +kernel
theorem dX8_init_17 : decode cX8_init 17 = .ok (.putfield 15, 3) := by decide +kernel
theorem dX8_init_20 : decode cX8_init 20 = .ok (.aload_n 0, 1) := by decide +kernel
theorem dX8_init_21 : decode cX8_init 21 = .ok (.ldc 18, 2) := by decide +kernel
theorem dX8_init_23 : decode cX8_init 23 = .ok (.putfield 20, 3) := by decide +kernel
theorem dX8_init_26 : decode cX8_init 26 = .ok (.return_, 1) := by decide +kernel
theorem dX8_reads_0 : decode cX8_reads 0 = .ok (.aload_n 0, 1) := by decide +kernel
theorem dX8_reads_1 : decode cX8_reads 1 = .ok (.iload_n 2, 1) := by decide +kernel
theorem dX8_reads_2 : decode cX8_reads 2 = .ok (.iconst 0, 1) := by decide +kernel
theorem dX8_reads_3 : decode cX8_reads 3 = .ok (.aload_n 1, 1) := by decide +kernel
theorem dX8_reads_4 : decode cX8_reads 4 = .ok (.arraylength, 1) := by decide +kernel
theorem dX8_reads_5 : decode cX8_reads 5 = .ok (.bipush 50, 2) := by decide +kernel
theorem dX8_reads_7 : decode cX8_reads 7 = .ok (.invokestatic 24, 3) := by decide +kernel
theorem dX8_reads_10 : decode cX8_reads 10 = .ok (.invokestatic 30, 3) := by decide +kernel
theorem dX8_reads_13 : decode cX8_reads 13 = .ok (.putfield 34, 3) := by decide +kernel
theorem dX8_reads_16 : decode cX8_reads 16 = .ok (.iconst 0, 1) := by decide +kernel
theorem dX8_reads_17 : decode cX8_reads 17 = .ok (.istore 4, 2) := by decide +kernel
theorem dX8_reads_19 : decode cX8_reads 19 = .ok (.iload 4, 2) := by decide +kernel
theorem dX8_reads_21 : decode cX8_reads 21 = .ok (.aload_n 0, 1) := by decide +kernel
theorem dX8_reads_22 : decode cX8_reads 22 = .ok (.getfield 34, 3) := by decide +kernel
theorem dX8_reads_25 : decode cX8_reads 25 = .ok (.if_icmp .ge 24, 3) := by decide +kernel
theorem dX8_reads_28 : decode cX8_reads 28 = .ok (.aload_n 0, 1) := by decide +kernel
theorem dX8_reads_29 : decode cX8_reads 29 = .ok (.getfield 15, 3) := by decide +kernel
theorem dX8_reads_32 : decode cX8_reads 32 = .ok (.iload 4, 2) := by decide +kernel
theorem dX8_reads_34 : decode cX8_reads 34 = .ok (.aload_n 1, 1) := by decide +kernel
theorem dX8_reads_35 : decode cX8_reads 35 = .ok (.iload 4, 2) := by decide +kernel
theorem dX8_reads_37 : decode cX8_reads 37 = .ok (.baload, 1) := by decide +kernel
theorem dX8_reads_38 : decode cX8_reads 38 = .ok (.sipush 255, 3) := by decide +kernel
theorem dX8_reads_41 : decode cX8_reads 41 = .ok (.iand, 1) := by decide +kernel
theorem dX8_reads_42 : decode cX8_reads 42 = .ok (.iastore, 1) := by decide +kernel
theorem dX8_reads_43 : decode cX8_reads 43 = .ok (.iinc 4 1, 3) := by decide +kernel
theorem dX8_reads_46 : decode cX8_reads 46 = .ok (.goto (-27), 3) := by decide +kernel
theorem dX8_reads_49 : decode cX8_reads 49 = .ok (.aload_n 0, 1) := by decide +kernel
theorem dX8_reads_50 : decode cX8_reads 50 = .ok (.aload_n 3, 1) := by decide +kernel
theorem dX8_reads_51 : decode cX8_reads 51 = .ok (.putfield 20, 3) := by decide +kernel
theorem dX8_reads_54 : decode cX8_reads 54 = .ok (.aload_n 0, 1) := by decide +kernel
theorem dX8_reads_55 : decode cX8_reads 55 = .ok (.iconst 0, 1) := by decide +kernel
theorem dX8_reads_56 : decode cX8_reads 56 = .ok (.putfield 38, 3) := by decide +kernel
theorem dX8_reads_59 : decode cX8_reads 59 = .ok (.aload_n 0, 1) := by decide +kernel
theorem dX8_reads_60 : decode cX8_reads 60 = .ok (.iconst 0, 1) := by decide +kernel
theorem dX8_reads_61 : decode cX8_reads 61 = .ok (.putfield 41, 3) := by decide +kernel
theorem dX8_reads_64 : decode cX8_reads 64 = .ok (.aload_n 0, 1) := by decide +kernel
theorem dX8_reads_65 : decode cX8_reads 65 = .ok (.iconst 0, 1) := by decide +kernel
theorem dX8_reads_66 : decode cX8_reads 66 = .ok (.iconst 0, 1) := by decide +kernel
theorem dX8_reads_67 : decode cX8_reads 67 = .ok (.invokevirtual 44, 3) := by decide +kernel
theorem dX8_reads_70 : decode cX8_reads 70 = .ok (.ifCond .eq 18, 3) := by decide +kernel
theorem dX8_reads_73 : decode cX8_reads 73 = .ok (.aload_n 0, 1) := by decide +kernel
theorem dX8_reads_74 : decode cX8_reads 74 = .ok (.getfield 38, 3) := by decide +kernel
theorem dX8_reads_77 : decode cX8_reads 77 = .ok (.aload_n 0, 1) := by decide +kernel
theorem dX8_reads_78 : decode cX8_reads 78 = .ok (.getfield 34, 3) := by decide +kernel
theorem dX8_reads_81 : decode cX8_reads 81 = .ok (.if_icmp .ne 7, 3) := by decide +kernel
theorem dX8_reads_84 : decode cX8_reads 84 = .ok (.iconst 1, 1) := by decide +kernel
theorem dX8_reads_85 : decode cX8_reads 85 = .ok (.goto 4, 3) := by decide +kernel
theorem dX8_reads_88 : decode cX8_reads 88 = .ok (.iconst 0, 1) := by decide +kernel
theorem dX8_reads_89 : decode cX8_reads 89 = .ok (.ireturn, 1) := by decide +kernel
theorem dX8_readLevel_0 : decode cX8_readLevel 0 = .ok (.iload_n 1, 1) := by decide +kernel
theorem dX8_readLevel_1 : decode cX8_readLevel 1 = .ok (.iconst 5, 1) := by decide +kernel
theorem dX8_readLevel_2 : decode cX8_readLevel 2 = .ok (.if_icmp .lt 9, 3) := by decide +kernel
theorem dX8_readLevel_5 : decode cX8_readLevel 5 = .ok (.aload_n 0, 1) := by decide +kernel
theorem dX8_readLevel_6 : decode cX8_readLevel 6 = .ok (.iload_n 2, 1) := by decide +kernel
theorem dX8_readLevel_7 : decode cX8_readLevel 7 = .ok (.invokevirtual 48, 3) := by decide +kernel
theorem dX8_readLevel_10 : decode cX8_readLevel 10 = .ok (.ireturn, 1) := by decide +kernel
theorem dX8_readLevel_11 : decode cX8_readLevel 11 = .ok (.aload_n 0, 1) := by decide +kernel
theorem dX8_readLevel_12 : decode cX8_readLevel 12 = .ok (.iload_n 1, 1) := by decide +kernel
theorem dX8_readLevel_13 : decode cX8_readLevel 13 = .ok (.iconst 1, 1) := by decide +kernel
theorem dX8_readLevel_14 : decode cX8_readLevel 14 = .ok (.iadd, 1) := by decide +kernel
theorem dX8_readLevel_15 : decode cX8_readLevel 15 = .ok (.iload_n 2, 1) := by decide +kernel
theorem dX8_readLevel_16 : decode cX8_readLevel 16 = .ok (.invokevirtual 44, 3) := by decide +kernel
theorem dX8_readLevel_19 : decode cX8_readLevel 19 = .ok (.ifCond .ne 5, 3) := by decide +kernel
theorem dX8_readLevel_22 : decode cX8_readLevel 22 = .ok (.iconst 0, 1) := by decide +kernel
theorem dX8_readLevel_23 : decode cX8_readLevel 23 = .ok (.ireturn, 1) := by decide +kernel
theorem dX8_readLevel_24 : decode cX8_readLevel 24 = .ok (.aload_n 0, 1) := by decide +kernel
theorem dX8_readLevel_25 : decode cX8_readLevel 25 = .ok (.iload_n 1, 1) := by decide +kernel
theorem dX8_readLevel_26 : decode cX8_readLevel 26 = .ok (.invokevirtual 52, 3) := by decide +kernel
theorem dX8_readLevel_29 : decode cX8_readLevel 29 = .ok (.istore_n 3, 1) := by decide +kernel
theorem dX8_readLevel_30 : decode cX8_readLevel 30 = .ok (.iconst 0, 1) := by decide +kernel
theorem dX8_readLevel_31 : decode cX8_readLevel 31 = .ok (.istore 4, 2) := by decide +kernel
theorem dX8_readLevel_33 : decode cX8_readLevel 33 = .ok (.iload 4, 2) := by decide +kernel
theorem dX8_readLevel_35 : decode cX8_readLevel 35 = .ok (.bipush 50, 2) := by decide +kernel
theorem dX8_readLevel_37 : decode cX8_readLevel 37 = .ok (.if_icmp .ge 68, 3) := by decide +kernel
theorem dX8_readLevel_40 : decode cX8_readLevel 40 = .ok (.iload_n 3, 1) := by decide +kernel
theorem dX8_readLevel_41 : decode cX8_readLevel 41 = .ok (.ifCond .eq 64, 3) := by decide +kernel
theorem dX8_readLevel_44 : decode cX8_readLevel 44 = .ok (.aload_n 0, 1) := by decide +kernel
theorem dX8_readLevel_45 : decode cX8_readLevel 45 = .ok (.invokevirtual 55, 3) := by decide +kernel
theorem dX8_readLevel_48 : decode cX8_readLevel 48 = .ok (.istore 5, 2) := by decide +kernel
theorem dX8_readLevel_50 : decode cX8_readLevel 50 = .ok (.aload_n 0, 1) := by decide +kernel
theorem dX8_readLevel_51 : decode cX8_readLevel 51 = .ok (.dup, 1) := by decide +kernel
theorem dX8_readLevel_52 : decode cX8_readLevel 52 = .ok (.getfield 38, 3) := by decide +kernel
theorem dX8_readLevel_55 : decode cX8_readLevel 55 = .ok (.iconst 1, 1) := by decide +kernel
theorem dX8_readLevel_56 : decode cX8_readLevel 56 = .ok (.iadd, 1) := by decide +kernel
theorem dX8_readLevel_57 : decode cX8_readLevel 57 = .ok (.putfield 38, 3) := by decide +kernel
theorem dX8_readLevel_60 : decode cX8_readLevel 60 = .ok (.aload_n 0, 1) := by decide +kernel
theorem dX8_readLevel_61 : decode cX8_readLevel 61 = .ok (.iload_n 1, 1) := by decide +kernel
theorem dX8_readLevel_62 : decode cX8_readLevel 62 = .ok (.iconst 1, 1) := by decide +kernel
theorem dX8_readLevel_63 : decode cX8_readLevel 63 = .ok (.iadd, 1) := by decide +kernel
theorem dX8_readLevel_64 : decode cX8_readLevel 64 = .ok (.iload_n 2, 1) := by decide +kernel
theorem dX8_readLevel_65 : decode cX8_readLevel 65 = .ok (.invokevirtual 44, 3) := by decide +kernel
theorem dX8_readLevel_68 : decode cX8_readLevel 68 = .ok (.ifCond .ne 5, 3) := by decide +kernel
theorem dX8_readLevel_71 : decode cX8_readLevel 71 = .ok (.iconst 0, 1) := by decide +kernel
theorem dX8_readLevel_72 : decode cX8_readLevel 72 = .ok (.ireturn, 1) := by decide +kernel
theorem dX8_readLevel_73 : decode cX8_readLevel 73 = .ok (.aload_n 0, 1) := by decide +kernel
theorem dX8_readLevel_74 : decode cX8_readLevel 74 = .ok (.iload 5, 2) := by decide +kernel
theorem dX8_readLevel_76 : decode cX8_readLevel 76 = .ok (.ineg, 1) := by decide +kernel
theorem dX8_readLevel_77 : decode cX8_readLevel 77 = .ok (.invokevirtual 59, 3) := by decide +kernel
theorem dX8_readLevel_80 : decode cX8_readLevel 80 = .ok (.iload_n 1, 1) := by decide +kernel
theorem dX8_readLevel_81 : decode cX8_readLevel 81 = .ok (.iconst 2, 1) := by decide +kernel
theorem dX8_readLevel_82 : decode cX8_readLevel 82 = .ok (.if_icmp .eq 15, 3) := by decide +kernel
theorem dX8_readLevel_85 : decode cX8_readLevel 85 = .ok (.aload_n 0, 1) := by decide +kernel
theorem dX8_readLevel_86 : decode cX8_readLevel 86 = .ok (.iload_n 1, 1) := by decide +kernel
theorem dX8_readLevel_87 : decode cX8_readLevel 87 = .ok (.invokevirtual 52, 3) := by decide +kernel
theorem dX8_readLevel_90 : decode cX8_readLevel 90 = .ok (.ifCond .eq 7, 3) := by decide +kernel
theorem dX8_readLevel_93 : decode cX8_readLevel 93 = .ok (.iconst 1, 1) := by decide +kernel
theorem dX8_readLevel_94 : decode cX8_readLevel 94 = .ok (.goto 4, 3) := by decide +kernel
theorem dX8_readLevel_97 : decode cX8_readLevel 97 = .ok (.iconst 0, 1) := by decide +kernel
theorem dX8_readLevel_98 : decode cX8_readLevel 98 = .ok (.istore_n 3, 1) := by decide +kernel
theorem dX8_readLevel_99 : decode cX8_readLevel 99 = .ok (.iinc 4 1, 3) := by decide +kernel
theorem dX8_readLevel_102 : decode cX8_readLevel 102 = .ok (.goto (-69), 3) := by decide +kernel
theorem dX8_readLevel_105 : decode cX8_readLevel 105 = .ok (.iconst 1, 1) := by decide +kernel
theorem dX8_readLevel_106 : decode cX8_readLevel 106 = .ok (.ireturn, 1) := by decide +kernel
theorem dX8_readSingle_0 : decode cX8_readSingle 0 = .ok (.aload_n 0, 1) := by decide +kernel
theorem dX8_readSingle_1 : decode cX8_readSingle 1 = .ok (.invokevirtual 55, 3) := by decide +kernel
theorem dX8_readSingle_4 : decode cX8_readSingle 4 = .ok (.istore_n 2, 1) := by decide +kernel
theorem dX8_readSingle_5 : decode cX8_readSingle 5 = .ok (.iload_n 2, 1) := by decide +kernel
theorem dX8_readSingle_6 : decode cX8_readSingle 6 = .ok (.bipush 48, 2) := by decide +kernel
theorem dX8_readSingle_8 : decode cX8_readSingle 8 = .ok (.if_icmp .lt 15, 3) := by decide +kernel
theorem dX8_readSingle_11 : decode cX8_readSingle 11 = .ok (.iload_n 2, 1) := by decide +kernel
theorem dX8_readSingle_12 : decode cX8_readSingle 12 = .ok (.bipush 57, 2) := by decide +kernel
theorem dX8_readSingle_14 : decode cX8_readSingle 14 = .ok (.if_icmp .gt 9, 3) := by decide +kernel
theorem dX8_readSingle_17 : decode cX8_readSingle 17 = .ok (.aload_n 0, 1) := by decide +kernel
theorem dX8_readSingle_18 : decode cX8_readSingle 18 = .ok (.invokevirtual 63, 3) := by decide +kernel
theorem dX8_readSingle_21 : decode cX8_readSingle 21 = .ok (.iconst 1, 1) := by decide +kernel
theorem dX8_readSingle_22 : decode cX8_readSingle 22 = .ok (.ireturn, 1) := by decide +kernel
theorem dX8_readSingle_23 : decode cX8_readSingle 23 = .ok (.iload_n 2, 1) := by decide +kernel
theorem dX8_readSingle_24 : decode cX8_readSingle 24 = .ok (.ifCond .ge 7, 3) := by decide +kernel
theorem dX8_readSingle_27 : decode cX8_readSingle 27 = .ok (.iconst (-1), 1) := by decide +kernel
theorem dX8_readSingle_28 : decode cX8_readSingle 28 = .ok (.goto 12, 3) := by decide +kernel
theorem dX8_readSingle_31 : decode cX8_readSingle 31 = .ok (.aload_n 0, 1) := by decide +kernel
theorem dX8_readSingle_32 : decode cX8_readSingle 32 = .ok (.getfield 20, 3) := by decide +kernel
theorem dX8_readSingle_35 : decode cX8_readSingle 35 = .ok (.iload_n 2, 1) := by decide +kernel
theorem dX8_readSingle_36 : decode cX8_readSingle 36 = .ok (.i2c, 1) := by decide +kernel
theorem dX8_readSingle_37 : decode cX8_readSingle 37 = .ok (.invokevirtual 66, 3) := by decide +kernel
theorem dX8_readSingle_40 : decode cX8_readSingle 40 = .ok (.istore_n 3, 1) := by decide +kernel
theorem dX8_readSingle_41 : decode cX8_readSingle 41 = .ok (.iload_n 3, 1) := by decide +kernel
theorem dX8_readSingle_42 : decode cX8_readSingle 42 = .ok (.ifCond .lt 22, 3) := by decide +kernel
theorem dX8_readSingle_45 : decode cX8_readSingle 45 = .ok (.aload_n 0, 1) := by decide +kernel
theorem dX8_readSingle_46 : decode cX8_readSingle 46 = .ok (.iconst (-1), 1) := by decide +kernel
theorem dX8_readSingle_47 : decode cX8_readSingle 47 = .ok (.iload_n 3, 1) := by decide +kernel
theorem dX8_readSingle_48 : decode cX8_readSingle 48 = .ok (.isub, 1) := by decide +kernel
theorem dX8_readSingle_49 : decode cX8_readSingle 49 = .ok (.invokevirtual 59, 3) := by decide +kernel
theorem dX8_readSingle_52 : decode cX8_readSingle 52 = .ok (.aload_n 0, 1) := by decide +kernel
theorem dX8_readSingle_53 : decode cX8_readSingle 53 = .ok (.dup, 1) := by decide +kernel
theorem dX8_readSingle_54 : decode cX8_readSingle 54 = .ok (.getfield 38, 3) := by decide +kernel
theorem dX8_readSingle_57 : decode cX8_readSingle 57 = .ok (.iconst 1, 1) := by decide +kernel
theorem dX8_readSingle_58 : decode cX8_readSingle 58 = .ok (.iadd, 1) := by decide +kernel
theorem dX8_readSingle_59 : decode cX8_readSingle 59 = .ok (.putfield 38, 3) := by decide +kernel
theorem dX8_readSingle_62 : decode cX8_readSingle 62 = .ok (.iconst 1, 1) := by decide +kernel
theorem dX8_readSingle_63 : decode cX8_readSingle 63 = .ok (.ireturn, 1) := by decide +kernel
theorem dX8_readSingle_64 : decode cX8_readSingle 64 = .ok (.iload_n 1, 1) := by decide +kernel
theorem dX8_readSingle_65 : decode cX8_readSingle 65 = .ok (.iconst 5, 1) := by decide +kernel
theorem dX8_readSingle_66 : decode cX8_readSingle 66 = .ok (.if_icmp .ge 15, 3) := by decide +kernel
theorem dX8_readSingle_69 : decode cX8_readSingle 69 = .ok (.iload_n 2, 1) := by decide +kernel
theorem dX8_readSingle_70 : decode cX8_readSingle 70 = .ok (.bipush 33, 2) := by decide +kernel
theorem dX8_readSingle_72 : decode cX8_readSingle 72 = .ok (.if_icmp .eq 11, 3) := by decide +kernel
theorem dX8_readSingle_75 : decode cX8_readSingle 75 = .ok (.iload_n 2, 1) := by decide +kernel
theorem dX8_readSingle_76 : decode cX8_readSingle 76 = .ok (.bipush 40, 2) := by decide +kernel
theorem dX8_readSingle_78 : decode cX8_readSingle 78 = .ok (.if_icmp .eq 5, 3) := by decide +kernel
theorem dX8_readSingle_81 : decode cX8_readSingle 81 = .ok (.iconst 0, 1) := by decide +kernel
theorem dX8_readSingle_82 : decode cX8_readSingle 82 = .ok (.ireturn, 1) := by decide +kernel
theorem dX8_readSingle_83 : decode cX8_readSingle 83 = .ok (.aload_n 0, 1) := by decide +kernel
theorem dX8_readSingle_84 : decode cX8_readSingle 84 = .ok (.dup, 1) := by decide +kernel
theorem dX8_readSingle_85 : decode cX8_readSingle 85 = .ok (.getfield 38, 3) := by decide +kernel
theorem dX8_readSingle_88 : decode cX8_readSingle 88 = .ok (.iconst 1, 1) := by decide +kernel
theorem dX8_readSingle_89 : decode cX8_readSingle 89 = .ok (.iadd, 1) := by decide +kernel
theorem dX8_readSingle_90 : decode cX8_readSingle 90 = .ok (.putfield 38, 3) := by decide +kernel
theorem dX8_readSingle_93 : decode cX8_readSingle 93 = .ok (.iload_n 2, 1) := by decide +kernel
theorem dX8_readSingle_94 : decode cX8_readSingle 94 = .ok (.bipush 33, 2) := by decide +kernel
theorem dX8_readSingle_96 : decode cX8_readSingle 96 = .ok (.if_icmp .ne 13, 3) := by decide +kernel
theorem dX8_readSingle_99 : decode cX8_readSingle 99 = .ok (.aload_n 0, 1) := by decide +kernel
theorem dX8_readSingle_100 : decode cX8_readSingle 100 = .ok (.iload_n 1, 1) := by decide +kernel
theorem dX8_readSingle_101 : decode cX8_readSingle 101 = .ok (.iconst 1, 1) := by decide +kernel
theorem dX8_readSingle_102 : decode cX8_readSingle 102 = .ok (.iadd, 1) := by decide +kernel
theorem dX8_readSingle_103 : decode cX8_readSingle 103 = .ok (.invokevirtual 72, 3) := by decide +kernel
theorem dX8_readSingle_106 : decode cX8_readSingle 106 = .ok (.goto 10, 3) := by decide +kernel
theorem dX8_readSingle_109 : decode cX8_readSingle 109 = .ok (.aload_n 0, 1) := by decide +kernel
theorem dX8_readSingle_110 : decode cX8_readSingle 110 = .ok (.iload_n 1, 1) := by decide +kernel
theorem dX8_readSingle_111 : decode cX8_readSingle 111 = .ok (.iconst 1, 1) := by decide +kernel
theorem dX8_readSingle_112 : decode cX8_readSingle 112 = .ok (.iadd, 1) := by decide +kernel
theorem dX8_readSingle_113 : decode cX8_readSingle 113 = .ok (.invokevirtual 75, 3) := by decide +kernel
theorem dX8_readSingle_116 : decode cX8_readSingle 116 = .ok (.ireturn, 1) := by decide +kernel
theorem dX8_readDenied_0 : decode cX8_readDenied 0 = .ok (.aload_n 0, 1) := by decide +kernel
theorem dX8_readDenied_1 : decode cX8_readDenied 1 = .ok (.iload_n 1, 1) := by decide +kernel
theorem dX8_readDenied_2 : decode cX8_readDenied 2 = .ok (.invokevirtual 48, 3) := by decide +kernel
theorem dX8_readDenied_5 : decode cX8_readDenied 5 = .ok (.ifCond .ne 5, 3) := by decide +kernel
theorem dX8_readDenied_8 : decode cX8_readDenied 8 = .ok (.iconst 0, 1) := by decide +kernel
theorem dX8_readDenied_9 : decode cX8_readDenied 9 = .ok (.ireturn, 1) := by decide +kernel
theorem dX8_readDenied_10 : decode cX8_readDenied 10 = .ok (.aload_n 0, 1) := by decide +kernel
theorem dX8_readDenied_11 : decode cX8_readDenied 11 = .ok (.bipush (-33), 2) := by decide +kernel
theorem dX8_readDenied_13 : decode cX8_readDenied 13 = .ok (.invokevirtual 59, 3) := by decide +kernel
theorem dX8_readDenied_16 : decode cX8_readDenied 16 = .ok (.iconst 1, 1) := by decide +kernel
theorem dX8_readDenied_17 : decode cX8_readDenied 17 = .ok (.ireturn, 1) := by decide +kernel
theorem dX8_readEnclosed_0 : decode cX8_readEnclosed 0 = .ok (.aload_n 0, 1) := by decide +kernel
theorem dX8_readEnclosed_1 : decode cX8_readEnclosed 1 = .ok (.iconst 0, 1) := by decide +kernel
theorem dX8_readEnclosed_2 : decode cX8_readEnclosed 2 = .ok (.iload_n 1, 1) := by decide +kernel
theorem dX8_readEnclosed_3 : decode cX8_readEnclosed 3 = .ok (.invokevirtual 44, 3) := by decide +kernel
theorem dX8_readEnclosed_6 : decode cX8_readEnclosed 6 = .ok (.ifCond .eq 12, 3) := by decide +kernel
theorem dX8_readEnclosed_9 : decode cX8_readEnclosed 9 = .ok (.aload_n 0, 1) := by decide +kernel
theorem dX8_readEnclosed_10 : decode cX8_readEnclosed 10 = .ok (.invokevirtual 55, 3) := by decide +kernel
theorem dX8_readEnclosed_13 : decode cX8_readEnclosed 13 = .ok (.bipush 41, 2) := by decide +kernel
theorem dX8_readEnclosed_15 : decode cX8_readEnclosed 15 = .ok (.if_icmp .eq 5, 3) := by decide +kernel
theorem dX8_readEnclosed_18 : decode cX8_readEnclosed 18 = .ok (.iconst 0, 1) := by decide +kernel
theorem dX8_readEnclosed_19 : decode cX8_readEnclosed 19 = .ok (.ireturn, 1) := by decide +kernel
theorem dX8_readEnclosed_20 : decode cX8_readEnclosed 20 = .ok (.aload_n 0, 1) := by decide +kernel
theorem dX8_readEnclosed_21 : decode cX8_readEnclosed 21 = .ok (.dup, 1) := by decide +kernel
theorem dX8_readEnclosed_22 : decode cX8_readEnclosed 22 = .ok (.getfield 38, 3) := by decide +kernel
theorem dX8_readEnclosed_25 : decode cX8_readEnclosed 25 = .ok (.iconst 1, 1) := by decide +kernel
theorem dX8_readEnclosed_26 : decode cX8_readEnclosed 26 = .ok (.iadd, 1) := by decide +kernel
theorem dX8_readEnclosed_27 : decode cX8_readEnclosed 27 = .ok (.putfield 38, 3) := by decide +kernel
theorem dX8_readEnclosed_30 : decode cX8_readEnclosed 30 = .ok (.iconst 1, 1) := by decide +kernel
theorem dX8_readEnclosed_31 : decode cX8_readEnclosed 31 = .ok (.ireturn, 1) := by decide +kernel
theorem dX8_readNumber_0 : decode cX8_readNumber 0 = .ok (.iconst 0, 1) := by decide +kernel
theorem dX8_readNumber_1 : decode cX8_readNumber 1 = .ok (.istore_n 1, 1) := by decide +kernel
theorem dX8_readNumber_2 : decode cX8_readNumber 2 = .ok (.iconst 0, 1) := by decide +kernel
theorem dX8_readNumber_3 : decode cX8_readNumber 3 = .ok (.istore_n 2, 1) := by decide +kernel
theorem dX8_readNumber_4 : decode cX8_readNumber 4 = .ok (.iload_n 2, 1) := by decide +kernel
theorem dX8_readNumber_5 : decode cX8_readNumber 5 = .ok (.iconst 4, 1) := by decide +kernel
theorem dX8_readNumber_6 : decode cX8_readNumber 6 = .ok (.if_icmp .ge 50, 3) := by decide +kernel
theorem dX8_readNumber_9 : decode cX8_readNumber 9 = .ok (.aload_n 0, 1) := by decide +kernel
theorem dX8_readNumber_10 : decode cX8_readNumber 10 = .ok (.invokevirtual 55, 3) := by decide +kernel
theorem dX8_readNumber_13 : decode cX8_readNumber 13 = .ok (.bipush 48, 2) := by decide +kernel
theorem dX8_readNumber_15 : decode cX8_readNumber 15 = .ok (.if_icmp .lt 41, 3) := by decide +kernel
theorem dX8_readNumber_18 : decode cX8_readNumber 18 = .ok (.aload_n 0, 1) := by decide +kernel
theorem dX8_readNumber_19 : decode cX8_readNumber 19 = .ok (.invokevirtual 55, 3) := by decide +kernel
theorem dX8_readNumber_22 : decode cX8_readNumber 22 = .ok (.bipush 57, 2) := by decide +kernel
theorem dX8_readNumber_24 : decode cX8_readNumber 24 = .ok (.if_icmp .gt 32, 3) := by decide +kernel
theorem dX8_readNumber_27 : decode cX8_readNumber 27 = .ok (.iload_n 1, 1) := by decide +kernel
theorem dX8_readNumber_28 : decode cX8_readNumber 28 = .ok (.bipush 10, 2) := by decide +kernel
theorem dX8_readNumber_30 : decode cX8_readNumber 30 = .ok (.imul, 1) := by decide +kernel
theorem dX8_readNumber_31 : decode cX8_readNumber 31 = .ok (.aload_n 0, 1) := by decide +kernel
theorem dX8_readNumber_32 : decode cX8_readNumber 32 = .ok (.invokevirtual 55, 3) := by decide +kernel
theorem dX8_readNumber_35 : decode cX8_readNumber 35 = .ok (.iadd, 1) := by decide +kernel
theorem dX8_readNumber_36 : decode cX8_readNumber 36 = .ok (.bipush 48, 2) := by decide +kernel
theorem dX8_readNumber_38 : decode cX8_readNumber 38 = .ok (.isub, 1) := by decide +kernel
theorem dX8_readNumber_39 : decode cX8_readNumber 39 = .ok (.istore_n 1, 1) := by decide +kernel
theorem dX8_readNumber_40 : decode cX8_readNumber 40 = .ok (.aload_n 0, 1) := by decide +kernel
theorem dX8_readNumber_41 : decode cX8_readNumber 41 = .ok (.dup, 1) := by decide +kernel
theorem dX8_readNumber_42 : decode cX8_readNumber 42 = .ok (.getfield 38, 3) := by decide +kernel
theorem dX8_readNumber_45 : decode cX8_readNumber 45 = .ok (.iconst 1, 1) := by decide +kernel
theorem dX8_readNumber_46 : decode cX8_readNumber 46 = .ok (.iadd, 1) := by decide +kernel
theorem dX8_readNumber_47 : decode cX8_readNumber 47 = .ok (.putfield 38, 3) := by decide +kernel
theorem dX8_readNumber_50 : decode cX8_readNumber 50 = .ok (.iinc 2 1, 3) := by decide +kernel
theorem dX8_readNumber_53 : decode cX8_readNumber 53 = .ok (.goto (-49), 3) := by decide +kernel
theorem dX8_readNumber_56 : decode cX8_readNumber 56 = .ok (.aload_n 0, 1) := by decide +kernel
theorem dX8_readNumber_57 : decode cX8_readNumber 57 = .ok (.iload_n 1, 1) := by decide +kernel
theorem dX8_readNumber_58 : decode cX8_readNumber 58 = .ok (.invokevirtual 59, 3) := by decide +kernel
theorem dX8_readNumber_61 : decode cX8_readNumber 61 = .ok (.return_, 1) := by decide +kernel
theorem dX8_operatorIsOf_0 : decode cX8_operatorIsOf 0 = .ok (.aload_n 0, 1) := by decide +kernel
theorem dX8_operatorIsOf_1 : decode cX8_operatorIsOf 1 = .ok (.invokevirtual 55, 3) := by decide +kernel
theorem dX8_operatorIsOf_4 : decode cX8_operatorIsOf 4 = .ok (.lookupswitch 201 #[(37, 190), (38, 102), (42, 168), (43, 146), (45, 157), (47, 179), (60, 113), (61, 124), (62, 135), (124, 92)], 92) := by decide +kernel
theorem dX8_operatorIsOf_96 : decode cX8_operatorIsOf 96 = .ok (.iload_n 1, 1) := by decide +kernel
theorem dX8_operatorIsOf_97 : decode cX8_operatorIsOf 97 = .ok (.ifCond .ne 7, 3) := by decide +kernel
theorem dX8_operatorIsOf_100 : decode cX8_operatorIsOf 100 = .ok (.iconst 1, 1) := by decide +kernel
theorem dX8_operatorIsOf_101 : decode cX8_operatorIsOf 101 = .ok (.goto 4, 3) := by decide +kernel
theorem dX8_operatorIsOf_104 : decode cX8_operatorIsOf 104 = .ok (.iconst 0, 1) := by decide +kernel
theorem dX8_operatorIsOf_105 : decode cX8_operatorIsOf 105 = .ok (.ireturn, 1) := by decide +kernel
theorem dX8_operatorIsOf_106 : decode cX8_operatorIsOf 106 = .ok (.iload_n 1, 1) := by decide +kernel
theorem dX8_operatorIsOf_107 : decode cX8_operatorIsOf 107 = .ok (.iconst 1, 1) := by decide +kernel
theorem dX8_operatorIsOf_108 : decode cX8_operatorIsOf 108 = .ok (.if_icmp .ne 7, 3) := by decide +kernel
theorem dX8_operatorIsOf_111 : decode cX8_operatorIsOf 111 = .ok (.iconst 1, 1) := by decide +kernel
theorem dX8_operatorIsOf_112 : decode cX8_operatorIsOf 112 = .ok (.goto 4, 3) := by decide +kernel
theorem dX8_operatorIsOf_115 : decode cX8_operatorIsOf 115 = .ok (.iconst 0, 1) := by decide +kernel
theorem dX8_operatorIsOf_116 : decode cX8_operatorIsOf 116 = .ok (.ireturn, 1) := by decide +kernel
theorem dX8_operatorIsOf_117 : decode cX8_operatorIsOf 117 = .ok (.iload_n 1, 1) := by decide +kernel
theorem dX8_operatorIsOf_118 : decode cX8_operatorIsOf 118 = .ok (.iconst 2, 1) := by decide +kernel
theorem dX8_operatorIsOf_119 : decode cX8_operatorIsOf 119 = .ok (.if_icmp .ne 7, 3) := by decide +kernel
theorem dX8_operatorIsOf_122 : decode cX8_operatorIsOf 122 = .ok (.iconst 1, 1) := by decide +kernel
theorem dX8_operatorIsOf_123 : decode cX8_operatorIsOf 123 = .ok (.goto 4, 3) := by decide +kernel
theorem dX8_operatorIsOf_126 : decode cX8_operatorIsOf 126 = .ok (.iconst 0, 1) := by decide +kernel
theorem dX8_operatorIsOf_127 : decode cX8_operatorIsOf 127 = .ok (.ireturn, 1) := by decide +kernel
theorem dX8_operatorIsOf_128 : decode cX8_operatorIsOf 128 = .ok (.iload_n 1, 1) := by decide +kernel
theorem dX8_operatorIsOf_129 : decode cX8_operatorIsOf 129 = .ok (.iconst 2, 1) := by decide +kernel
theorem dX8_operatorIsOf_130 : decode cX8_operatorIsOf 130 = .ok (.if_icmp .ne 7, 3) := by decide +kernel
theorem dX8_operatorIsOf_133 : decode cX8_operatorIsOf 133 = .ok (.iconst 1, 1) := by decide +kernel
theorem dX8_operatorIsOf_134 : decode cX8_operatorIsOf 134 = .ok (.goto 4, 3) := by decide +kernel
theorem dX8_operatorIsOf_137 : decode cX8_operatorIsOf 137 = .ok (.iconst 0, 1) := by decide +kernel
theorem dX8_operatorIsOf_138 : decode cX8_operatorIsOf 138 = .ok (.ireturn, 1) := by decide +kernel
theorem dX8_operatorIsOf_139 : decode cX8_operatorIsOf 139 = .ok (.iload_n 1, 1) := by decide +kernel
theorem dX8_operatorIsOf_140 : decode cX8_operatorIsOf 140 = .ok (.iconst 2, 1) := by decide +kernel
theorem dX8_operatorIsOf_141 : decode cX8_operatorIsOf 141 = .ok (.if_icmp .ne 7, 3) := by decide +kernel
theorem dX8_operatorIsOf_144 : decode cX8_operatorIsOf 144 = .ok (.iconst 1, 1) := by decide +kernel
theorem dX8_operatorIsOf_145 : decode cX8_operatorIsOf 145 = .ok (.goto 4, 3) := by decide +kernel
theorem dX8_operatorIsOf_148 : decode cX8_operatorIsOf 148 = .ok (.iconst 0, 1) := by decide +kernel
theorem dX8_operatorIsOf_149 : decode cX8_operatorIsOf 149 = .ok (.ireturn, 1) := by decide +kernel
theorem dX8_operatorIsOf_150 : decode cX8_operatorIsOf 150 = .ok (.iload_n 1, 1) := by decide +kernel
theorem dX8_operatorIsOf_151 : decode cX8_operatorIsOf 151 = .ok (.iconst 3, 1) := by decide +kernel
theorem dX8_operatorIsOf_152 : decode cX8_operatorIsOf 152 = .ok (.if_icmp .ne 7, 3) := by decide +kernel
theorem dX8_operatorIsOf_155 : decode cX8_operatorIsOf 155 = .ok (.iconst 1, 1) := by decide +kernel
theorem dX8_operatorIsOf_156 : decode cX8_operatorIsOf 156 = .ok (.goto 4, 3) := by decide +kernel
theorem dX8_operatorIsOf_159 : decode cX8_operatorIsOf 159 = .ok (.iconst 0, 1) := by decide +kernel
theorem dX8_operatorIsOf_160 : decode cX8_operatorIsOf 160 = .ok (.ireturn, 1) := by decide +kernel
theorem dX8_operatorIsOf_161 : decode cX8_operatorIsOf 161 = .ok (.iload_n 1, 1) := by decide +kernel
theorem dX8_operatorIsOf_162 : decode cX8_operatorIsOf 162 = .ok (.iconst 3, 1) := by decide +kernel
theorem dX8_operatorIsOf_163 : decode cX8_operatorIsOf 163 = .ok (.if_icmp .ne 7, 3) := by decide +kernel
theorem dX8_operatorIsOf_166 : decode cX8_operatorIsOf 166 = .ok (.iconst 1, 1) := by decide +kernel
theorem dX8_operatorIsOf_167 : decode cX8_operatorIsOf 167 = .ok (.goto 4, 3) := by decide +kernel
theorem dX8_operatorIsOf_170 : decode cX8_operatorIsOf 170 = .ok (.iconst 0, 1) := by decide +kernel
theorem dX8_operatorIsOf_171 : decode cX8_operatorIsOf 171 = .ok (.ireturn, 1) := by decide +kernel
theorem dX8_operatorIsOf_172 : decode cX8_operatorIsOf 172 = .ok (.iload_n 1, 1) := by decide +kernel
theorem dX8_operatorIsOf_173 : decode cX8_operatorIsOf 173 = .ok (.iconst 4, 1) := by decide +kernel
theorem dX8_operatorIsOf_174 : decode cX8_operatorIsOf 174 = .ok (.if_icmp .ne 7, 3) := by decide +kernel
theorem dX8_operatorIsOf_177 : decode cX8_operatorIsOf 177 = .ok (.iconst 1, 1) := by decide +kernel
theorem dX8_operatorIsOf_178 : decode cX8_operatorIsOf 178 = .ok (.goto 4, 3) := by decide +kernel
theorem dX8_operatorIsOf_181 : decode cX8_operatorIsOf 181 = .ok (.iconst 0, 1) := by decide +kernel
theorem dX8_operatorIsOf_182 : decode cX8_operatorIsOf 182 = .ok (.ireturn, 1) := by decide +kernel
theorem dX8_operatorIsOf_183 : decode cX8_operatorIsOf 183 = .ok (.iload_n 1, 1) := by decide +kernel
theorem dX8_operatorIsOf_184 : decode cX8_operatorIsOf 184 = .ok (.iconst 4, 1) := by decide +kernel
theorem dX8_operatorIsOf_185 : decode cX8_operatorIsOf 185 = .ok (.if_icmp .ne 7, 3) := by decide +kernel
theorem dX8_operatorIsOf_188 : decode cX8_operatorIsOf 188 = .ok (.iconst 1, 1) := by decide +kernel
theorem dX8_operatorIsOf_189 : decode cX8_operatorIsOf 189 = .ok (.goto 4, 3) := by decide +kernel
theorem dX8_operatorIsOf_192 : decode cX8_operatorIsOf 192 = .ok (.iconst 0, 1) := by decide +kernel
theorem dX8_operatorIsOf_193 : decode cX8_operatorIsOf 193 = .ok (.ireturn, 1) := by decide +kernel
theorem dX8_operatorIsOf_194 : decode cX8_operatorIsOf 194 = .ok (.iload_n 1, 1) := by decide +kernel
theorem dX8_operatorIsOf_195 : decode cX8_operatorIsOf 195 = .ok (.iconst 4, 1) := by decide +kernel
theorem dX8_operatorIsOf_196 : decode cX8_operatorIsOf 196 = .ok (.if_icmp .ne 7, 3) := by decide +kernel
theorem dX8_operatorIsOf_199 : decode cX8_operatorIsOf 199 = .ok (.iconst 1, 1) := by decide +kernel
theorem dX8_operatorIsOf_200 : decode cX8_operatorIsOf 200 = .ok (.goto 4, 3) := by decide +kernel
theorem dX8_operatorIsOf_203 : decode cX8_operatorIsOf 203 = .ok (.iconst 0, 1) := by decide +kernel
theorem dX8_operatorIsOf_204 : decode cX8_operatorIsOf 204 = .ok (.ireturn, 1) := by decide +kernel
theorem dX8_operatorIsOf_205 : decode cX8_operatorIsOf 205 = .ok (.iconst 0, 1) := by decide +kernel
theorem dX8_operatorIsOf_206 : decode cX8_operatorIsOf 206 = .ok (.ireturn, 1) := by decide +kernel
theorem dX8_here_0 : decode cX8_here 0 = .ok (.aload_n 0, 1) := by decide +kernel
theorem dX8_here_1 : decode cX8_here 1 = .ok (.getfield 38, 3) := by decide +kernel
theorem dX8_here_4 : decode cX8_here 4 = .ok (.ifCond .lt 26, 3) := by decide +kernel
theorem dX8_here_7 : decode cX8_here 7 = .ok (.aload_n 0, 1) := by decide +kernel
theorem dX8_here_8 : decode cX8_here 8 = .ok (.getfield 38, 3) := by decide +kernel
theorem dX8_here_11 : decode cX8_here 11 = .ok (.aload_n 0, 1) := by decide +kernel
theorem dX8_here_12 : decode cX8_here 12 = .ok (.getfield 34, 3) := by decide +kernel
theorem dX8_here_15 : decode cX8_here 15 = .ok (.if_icmp .ge 15, 3) := by decide +kernel
theorem dX8_here_18 : decode cX8_here 18 = .ok (.aload_n 0, 1) := by decide +kernel
theorem dX8_here_19 : decode cX8_here 19 = .ok (.getfield 15, 3) := by decide +kernel
theorem dX8_here_22 : decode cX8_here 22 = .ok (.aload_n 0, 1) := by decide +kernel
theorem dX8_here_23 : decode cX8_here 23 = .ok (.getfield 38, 3) := by decide +kernel
theorem dX8_here_26 : decode cX8_here 26 = .ok (.iaload, 1) := by decide +kernel
theorem dX8_here_27 : decode cX8_here 27 = .ok (.goto 4, 3) := by decide +kernel
theorem dX8_here_30 : decode cX8_here 30 = .ok (.iconst (-1), 1) := by decide +kernel
theorem dX8_here_31 : decode cX8_here 31 = .ok (.ireturn, 1) := by decide +kernel
theorem dX8_add_0 : decode cX8_add 0 = .ok (.aload_n 0, 1) := by decide +kernel
theorem dX8_add_1 : decode cX8_add 1 = .ok (.getfield 41, 3) := by decide +kernel
theorem dX8_add_4 : decode cX8_add 4 = .ok (.bipush 50, 2) := by decide +kernel
theorem dX8_add_6 : decode cX8_add 6 = .ok (.if_icmp .ge 23, 3) := by decide +kernel
theorem dX8_add_9 : decode cX8_add 9 = .ok (.aload_n 0, 1) := by decide +kernel
theorem dX8_add_10 : decode cX8_add 10 = .ok (.getfield 9, 3) := by decide +kernel
theorem dX8_add_13 : decode cX8_add 13 = .ok (.aload_n 0, 1) := by decide +kernel
theorem dX8_add_14 : decode cX8_add 14 = .ok (.getfield 41, 3) := by decide +kernel
theorem dX8_add_17 : decode cX8_add 17 = .ok (.iload_n 1, 1) := by decide +kernel
theorem dX8_add_18 : decode cX8_add 18 = .ok (.iastore, 1) := by decide +kernel
theorem dX8_add_19 : decode cX8_add 19 = .ok (.aload_n 0, 1) := by decide +kernel
theorem dX8_add_20 : decode cX8_add 20 = .ok (.dup, 1) := by decide +kernel
theorem dX8_add_21 : decode cX8_add 21 = .ok (.getfield 41, 3) := by decide +kernel
theorem dX8_add_24 : decode cX8_add 24 = .ok (.iconst 1, 1) := by decide +kernel
theorem dX8_add_25 : decode cX8_add 25 = .ok (.iadd, 1) := by decide +kernel
theorem dX8_add_26 : decode cX8_add 26 = .ok (.putfield 41, 3) := by decide +kernel
theorem dX8_add_29 : decode cX8_add 29 = .ok (.return_, 1) := by decide +kernel
theorem dJ11_isValidCodePoint_9a6ad_0 : decode cJ11_isValidCodePoint_9a6ad 0 = .ok (.iload_n 0, 1) := by decide +kernel
theorem dJ11_isValidCodePoint_9a6ad_1 : decode cJ11_isValidCodePoint_9a6ad 1 = .ok (.bipush 16, 2) := by decide +kernel
theorem dJ11_isValidCodePoint_9a6ad_3 : decode cJ11_isValidCodePoint_9a6ad 3 = .ok (.iushr, 1) := by decide +kernel
theorem dJ11_isValidCodePoint_9a6ad_4 : decode cJ11_isValidCodePoint_9a6ad 4 = .ok (.istore_n 1, 1) := by decide +kernel
theorem dJ11_isValidCodePoint_9a6ad_5 : decode cJ11_isValidCodePoint_9a6ad 5 = .ok (.iload_n 1, 1) := by decide +kernel
theorem dJ11_isValidCodePoint_9a6ad_6 : decode cJ11_isValidCodePoint_9a6ad 6 = .ok (.bipush 17, 2) := by decide +kernel
theorem dJ11_isValidCodePoint_9a6ad_8 : decode cJ11_isValidCodePoint_9a6ad 8 = .ok (.if_icmp .ge 7, 3) := by decide +kernel
theorem dJ11_isValidCodePoint_9a6ad_11 : decode cJ11_isValidCodePoint_9a6ad 11 = .ok (.iconst 1, 1) := by decide +kernel
theorem dJ11_isValidCodePoint_9a6ad_12 : decode cJ11_isValidCodePoint_9a6ad 12 = .ok (.goto 4, 3) := by decide +kernel
theorem dJ11_isValidCodePoint_9a6ad_15 : decode cJ11_isValidCodePoint_9a6ad 15 = .ok (.iconst 0, 1) := by decide +kernel
theorem dJ11_isValidCodePoint_9a6ad_16 : decode cJ11_isValidCodePoint_9a6ad 16 = .ok (.ireturn, 1) := by decide +kernel
theorem dJ11_highSurrogate_5068e_0 : decode cJ11_highSurrogate_5068e 0 = .ok (.iload_n 0, 1) := by decide +kernel
theorem dJ11_highSurrogate_5068e_1 : decode cJ11_highSurrogate_5068e 1 = .ok (.bipush 10, 2) := by decide +kernel
theorem dJ11_highSurrogate_5068e_3 : decode cJ11_highSurrogate_5068e 3 = .ok (.iushr, 1) := by decide +kernel
theorem dJ11_highSurrogate_5068e_4 : decode cJ11_highSurrogate_5068e 4 = .ok (.ldc 110, 2) := by decide +kernel
theorem dJ11_highSurrogate_5068e_6 : decode cJ11_highSurrogate_5068e 6 = .ok (.iadd, 1) := by decide +kernel
theorem dJ11_highSurrogate_5068e_7 : decode cJ11_highSurrogate_5068e 7 = .ok (.i2c, 1) := by decide +kernel
theorem dJ11_highSurrogate_5068e_8 : decode cJ11_highSurrogate_5068e 8 = .ok (.ireturn, 1) := by decide +kernel
theorem dJ11_lowSurrogate_5068e_0 : decode cJ11_lowSurrogate_5068e 0 = .ok (.iload_n 0, 1) := by decide +kernel
theorem dJ11_lowSurrogate_5068e_1 : decode cJ11_lowSurrogate_5068e 1 = .ok (.sipush 1023, 3) := by decide +kernel
theorem dJ11_lowSurrogate_5068e_4 : decode cJ11_lowSurrogate_5068e 4 = .ok (.iand, 1) := by decide +kernel
theorem dJ11_lowSurrogate_5068e_5 : decode cJ11_lowSurrogate_5068e 5 = .ok (.ldc 76, 2) := by decide +kernel
theorem dJ11_lowSurrogate_5068e_7 : decode cJ11_lowSurrogate_5068e 7 = .ok (.iadd, 1) := by decide +kernel
theorem dJ11_lowSurrogate_5068e_8 : decode cJ11_lowSurrogate_5068e 8 = .ok (.i2c, 1) := by decide +kernel
theorem dJ11_lowSurrogate_5068e_9 : decode cJ11_lowSurrogate_5068e 9 = .ok (.ireturn, 1) := by decide +kernel
theorem dJ9_abs_0f7a4_0 : decode cJ9_abs_0f7a4 0 = .ok (.iload_n 0, 1) := by decide +kernel
theorem dJ9_abs_0f7a4_1 : decode cJ9_abs_0f7a4 1 = .ok (.ifCond .ge 8, 3) := by decide +kernel
theorem dJ9_abs_0f7a4_4 : decode cJ9_abs_0f7a4 4 = .ok (.iload_n 0, 1) := by decide +kernel
theorem dJ9_abs_0f7a4_5 : decode cJ9_abs_0f7a4 5 = .ok (.ineg, 1) := by decide +kernel
theorem dJ9_abs_0f7a4_6 : decode cJ9_abs_0f7a4 6 = .ok (.goto 4, 3) := by decide +kernel
theorem dJ9_abs_0f7a4_9 : decode cJ9_abs_0f7a4 9 = .ok (.iload_n 0, 1) := by decide +kernel
theorem dJ9_abs_0f7a4_10 : decode cJ9_abs_0f7a4 10 = .ok (.ireturn, 1) := by decide +kernel
theorem dJ9_max_7cf53_0 : decode cJ9_max_7cf53 0 = .ok (.iload_n 0, 1) := by decide +kernel
theorem dJ9_max_7cf53_1 : decode cJ9_max_7cf53 1 = .ok (.iload_n 1, 1) := by decide +kernel
theorem dJ9_max_7cf53_2 : decode cJ9_max_7cf53 2 = .ok (.if_icmp .lt 7, 3) := by decide +kernel
theorem dJ9_max_7cf53_5 : decode cJ9_max_7cf53 5 = .ok (.iload_n 0, 1) := by decide +kernel
theorem dJ9_max_7cf53_6 : decode cJ9_max_7cf53 6 = .ok (.goto 4, 3) := by decide +kernel
theorem dJ9_max_7cf53_9 : decode cJ9_max_7cf53 9 = .ok (.iload_n 1, 1) := by decide +kernel
theorem dJ9_max_7cf53_10 : decode cJ9_max_7cf53 10 = .ok (.ireturn, 1) := by decide +kernel
theorem dJ9_min_7cf53_0 : decode cJ9_min_7cf53 0 = .ok (.iload_n 0, 1) := by decide +kernel
theorem dJ9_min_7cf53_1 : decode cJ9_min_7cf53 1 = .ok (.iload_n 1, 1) := by decide +kernel
theorem dJ9_min_7cf53_2 : decode cJ9_min_7cf53 2 = .ok (.if_icmp .gt 7, 3) := by decide +kernel
theorem dJ9_min_7cf53_5 : decode cJ9_min_7cf53 5 = .ok (.iload_n 0, 1) := by decide +kernel
theorem dJ9_min_7cf53_6 : decode cJ9_min_7cf53 6 = .ok (.goto 4, 3) := by decide +kernel
theorem dJ9_min_7cf53_9 : decode cJ9_min_7cf53 9 = .ok (.iload_n 1, 1) := by decide +kernel
theorem dJ9_min_7cf53_10 : decode cJ9_min_7cf53 10 = .ok (.ireturn, 1) := by decide +kernel
theorem dJ0_length_8abf5_0 : decode cJ0_length_8abf5 0 = .ok (.aload_n 0, 1) := by decide +kernel
theorem dJ0_length_8abf5_1 : decode cJ0_length_8abf5 1 = .ok (.getfield 9, 3) := by decide +kernel
theorem dJ0_length_8abf5_4 : decode cJ0_length_8abf5 4 = .ok (.arraylength, 1) := by decide +kernel
theorem dJ0_length_8abf5_5 : decode cJ0_length_8abf5 5 = .ok (.aload_n 0, 1) := by decide +kernel
theorem dJ0_length_8abf5_6 : decode cJ0_length_8abf5 6 = .ok (.invokevirtual 335, 3) := by decide +kernel
theorem dJ0_length_8abf5_9 : decode cJ0_length_8abf5 9 = .ok (.ishr, 1) := by decide +kernel
theorem dJ0_length_8abf5_10 : decode cJ0_length_8abf5 10 = .ok (.ireturn, 1) := by decide +kernel
theorem dJ0_indexOf_0f7a4_0 : decode cJ0_indexOf_0f7a4 0 = .ok (.aload_n 0, 1) := by decide +kernel
theorem dJ0_indexOf_0f7a4_1 : decode cJ0_indexOf_0f7a4 1 = .ok (.iload_n 1, 1) := by decide +kernel
theorem dJ0_indexOf_0f7a4_2 : decode cJ0_indexOf_0f7a4 2 = .ok (.iconst 0, 1) := by decide +kernel
theorem dJ0_indexOf_0f7a4_3 : decode cJ0_indexOf_0f7a4 3 = .ok (.invokevirtual 633, 3) := by decide +kernel
theorem dJ0_indexOf_0f7a4_6 : decode cJ0_indexOf_0f7a4 6 = .ok (.ireturn, 1) := by decide +kernel
theorem dJ0_indexOf_7cf53_0 : decode cJ0_indexOf_7cf53 0 = .ok (.aload_n 0, 1) := by decide +kernel
theorem dJ0_indexOf_7cf53_1 : decode cJ0_indexOf_7cf53 1 = .ok (.invokevirtual 492, 3) := by decide +kernel
theorem dJ0_indexOf_7cf53_4 : decode cJ0_indexOf_7cf53 4 = .ok (.ifCond .eq 19, 3) := by decide +kernel
theorem dJ0_indexOf_7cf53_7 : decode cJ0_indexOf_7cf53 7 = .ok (.aload_n 0, 1) := by decide +kernel
theorem dJ0_indexOf_7cf53_8 : decode cJ0_indexOf_7cf53 8 = .ok (.getfield 9, 3) := by decide +kernel
theorem dJ0_indexOf_7cf53_11 : decode cJ0_indexOf_7cf53 11 = .ok (.iload_n 1, 1) := by decide +kernel
theorem dJ0_indexOf_7cf53_12 : decode cJ0_indexOf_7cf53 12 = .ok (.iload_n 2, 1) := by decide +kernel
theorem dJ0_indexOf_7cf53_13 : decode cJ0_indexOf_7cf53 13 = .ok (.aload_n 0, 1) := by decide +kernel
theorem dJ0_indexOf_7cf53_14 : decode cJ0_indexOf_7cf53 14 = .ok (.invokevirtual 505, 3) := by decide +kernel
theorem dJ0_indexOf_7cf53_17 : decode cJ0_indexOf_7cf53 17 = .ok (.invokestatic 637, 3) := by decide +kernel
theorem dJ0_indexOf_7cf53_20 : decode cJ0_indexOf_7cf53 20 = .ok (.goto 16, 3) := by decide +kernel
theorem dJ0_indexOf_7cf53_23 : decode cJ0_indexOf_7cf53 23 = .ok (.aload_n 0, 1) := by decide +kernel
theorem dJ0_indexOf_7cf53_24 : decode cJ0_indexOf_7cf53 24 = .ok (.getfield 9, 3) := by decide +kernel
theorem dJ0_indexOf_7cf53_27 : decode cJ0_indexOf_7cf53 27 = .ok (.iload_n 1, 1) := by decide +kernel
theorem dJ0_indexOf_7cf53_28 : decode cJ0_indexOf_7cf53 28 = .ok (.iload_n 2, 1) := by decide +kernel
theorem dJ0_indexOf_7cf53_29 : decode cJ0_indexOf_7cf53 29 = .ok (.aload_n 0, 1) := by decide +kernel
theorem dJ0_indexOf_7cf53_30 : decode cJ0_indexOf_7cf53 30 = .ok (.invokevirtual 505, 3) := by decide +kernel
theorem dJ0_indexOf_7cf53_33 : decode cJ0_indexOf_7cf53 33 = .ok (.invokestatic 640, 3) := by decide +kernel
theorem dJ0_indexOf_7cf53_36 : decode cJ0_indexOf_7cf53 36 = .ok (.ireturn, 1) := by decide +kernel
theorem dJ0_coder_7d493_0 : decode cJ0_coder_7d493 0 = .ok (.getstatic 38, 3) := by decide +kernel
theorem dJ0_coder_7d493_3 : decode cJ0_coder_7d493 3 = .ok (.ifCond .eq 10, 3) := by decide +kernel
theorem dJ0_coder_7d493_6 : decode cJ0_coder_7d493 6 = .ok (.aload_n 0, 1) := by decide +kernel
theorem dJ0_coder_7d493_7 : decode cJ0_coder_7d493 7 = .ok (.getfield 15, 3) := by decide +kernel
theorem dJ0_coder_7d493_10 : decode cJ0_coder_7d493 10 = .ok (.goto 4, 3) := by decide +kernel
theorem dJ0_coder_7d493_13 : decode cJ0_coder_7d493 13 = .ok (.iconst 1, 1) := by decide +kernel
theorem dJ0_coder_7d493_14 : decode cJ0_coder_7d493 14 = .ok (.ireturn, 1) := by decide +kernel
theorem dJ0_isLatin1_aae02_0 : decode cJ0_isLatin1_aae02 0 = .ok (.getstatic 38, 3) := by decide +kernel
theorem dJ0_isLatin1_aae02_3 : decode cJ0_isLatin1_aae02 3 = .ok (.ifCond .eq 14, 3) := by decide +kernel
theorem dJ0_isLatin1_aae02_6 : decode cJ0_isLatin1_aae02 6 = .ok (.aload_n 0, 1) := by decide +kernel
theorem dJ0_isLatin1_aae02_7 : decode cJ0_isLatin1_aae02 7 = .ok (.getfield 15, 3) := by decide +kernel
theorem dJ0_isLatin1_aae02_10 : decode cJ0_isLatin1_aae02 10 = .ok (.ifCond .ne 7, 3) := by decide +kernel
theorem dJ0_isLatin1_aae02_13 : decode cJ0_isLatin1_aae02 13 = .ok (.iconst 1, 1) := by decide +kernel
theorem dJ0_isLatin1_aae02_14 : decode cJ0_isLatin1_aae02 14 = .ok (.goto 4, 3) := by decide +kernel
theorem dJ0_isLatin1_aae02_17 : decode cJ0_isLatin1_aae02 17 = .ok (.iconst 0, 1) := by decide +kernel
theorem dJ0_isLatin1_aae02_18 : decode cJ0_isLatin1_aae02 18 = .ok (.ireturn, 1) := by decide +kernel
theorem dJ0_checkBoundsBeginEnd_23922_0 : decode cJ0_checkBoundsBeginEnd_23922 0 = .ok (.iload_n 0, 1) := by decide +kernel
theorem dJ0_checkBoundsBeginEnd_23922_1 : decode cJ0_checkBoundsBeginEnd_23922 1 = .ok (.iload_n 1, 1) := by decide +kernel
theorem dJ0_checkBoundsBeginEnd_23922_2 : decode cJ0_checkBoundsBeginEnd_23922 2 = .ok (.iload_n 2, 1) := by decide +kernel
theorem dJ0_checkBoundsBeginEnd_23922_3 : decode cJ0_checkBoundsBeginEnd_23922 3 = .ok (.getstatic 1053, 3) := by decide +kernel
theorem dJ0_checkBoundsBeginEnd_23922_6 : decode cJ0_checkBoundsBeginEnd_23922 6 = .ok (.invokestatic 1062, 3) := by decide +kernel
theorem dJ0_checkBoundsBeginEnd_23922_9 : decode cJ0_checkBoundsBeginEnd_23922 9 = .ok (.pop, 1) := by decide +kernel
theorem dJ0_checkBoundsBeginEnd_23922_10 : decode cJ0_checkBoundsBeginEnd_23922 10 = .ok (.return_, 1) := by decide +kernel
theorem dJ1_canEncode_9a6ad_0 : decode cJ1_canEncode_9a6ad 0 = .ok (.iload_n 0, 1) := by decide +kernel
theorem dJ1_canEncode_9a6ad_1 : decode cJ1_canEncode_9a6ad 1 = .ok (.ifCond .lt 14, 3) := by decide +kernel
theorem dJ1_canEncode_9a6ad_4 : decode cJ1_canEncode_9a6ad 4 = .ok (.iload_n 0, 1) := by decide +kernel
theorem dJ1_canEncode_9a6ad_5 : decode cJ1_canEncode_9a6ad 5 = .ok (.sipush 255, 3) := by decide +kernel
theorem dJ1_canEncode_9a6ad_8 : decode cJ1_canEncode_9a6ad 8 = .ok (.if_icmp .gt 7, 3) := by decide +kernel
theorem dJ1_canEncode_9a6ad_11 : decode cJ1_canEncode_9a6ad 11 = .ok (.iconst 1, 1) := by decide +kernel
theorem dJ1_canEncode_9a6ad_12 : decode cJ1_canEncode_9a6ad 12 = .ok (.goto 4, 3) := by decide +kernel
theorem dJ1_canEncode_9a6ad_15 : decode cJ1_canEncode_9a6ad 15 = .ok (.iconst 0, 1) := by decide +kernel
theorem dJ1_canEncode_9a6ad_16 : decode cJ1_canEncode_9a6ad 16 = .ok (.ireturn, 1) := by decide +kernel
theorem dJ1_indexOf_4cfef_0 : decode cJ1_indexOf_4cfef 0 = .ok (.iload_n 1, 1) := by decide +kernel
theorem dJ1_indexOf_4cfef_1 : decode cJ1_indexOf_4cfef 1 = .ok (.invokestatic 88, 3) := by decide +kernel
theorem dJ1_indexOf_4cfef_4 : decode cJ1_indexOf_4cfef 4 = .ok (.ifCond .ne 5, 3) := by decide +kernel
theorem dJ1_indexOf_4cfef_7 : decode cJ1_indexOf_4cfef 7 = .ok (.iconst (-1), 1) := by decide +kernel
theorem dJ1_indexOf_4cfef_8 : decode cJ1_indexOf_4cfef 8 = .ok (.ireturn, 1) := by decide +kernel
theorem dJ1_indexOf_4cfef_9 : decode cJ1_indexOf_4cfef 9 = .ok (.iload_n 2, 1) := by decide +kernel
theorem dJ1_indexOf_4cfef_10 : decode cJ1_indexOf_4cfef 10 = .ok (.iconst 0, 1) := by decide +kernel
theorem dJ1_indexOf_4cfef_11 : decode cJ1_indexOf_4cfef 11 = .ok (.invokestatic 92, 3) := by decide +kernel
theorem dJ1_indexOf_4cfef_14 : decode cJ1_indexOf_4cfef 14 = .ok (.istore_n 2, 1) := by decide +kernel
theorem dJ1_indexOf_4cfef_15 : decode cJ1_indexOf_4cfef 15 = .ok (.iload_n 3, 1) := by decide +kernel
theorem dJ1_indexOf_4cfef_16 : decode cJ1_indexOf_4cfef 16 = .ok (.aload_n 0, 1) := by decide +kernel
theorem dJ1_indexOf_4cfef_17 : decode cJ1_indexOf_4cfef 17 = .ok (.arraylength, 1) := by decide +kernel
theorem dJ1_indexOf_4cfef_18 : decode cJ1_indexOf_4cfef 18 = .ok (.invokestatic 38, 3) := by decide +kernel
theorem dJ1_indexOf_4cfef_21 : decode cJ1_indexOf_4cfef 21 = .ok (.istore_n 3, 1) := by decide +kernel
theorem dJ1_indexOf_4cfef_22 : decode cJ1_indexOf_4cfef 22 = .ok (.iload_n 2, 1) := by decide +kernel
theorem dJ1_indexOf_4cfef_23 : decode cJ1_indexOf_4cfef 23 = .ok (.iload_n 3, 1) := by decide +kernel
theorem dJ1_indexOf_4cfef_24 : decode cJ1_indexOf_4cfef 24 = .ok (.if_icmp .lt 5, 3) := by decide +kernel
theorem dJ1_indexOf_4cfef_27 : decode cJ1_indexOf_4cfef 27 = .ok (.iconst (-1), 1) := by decide +kernel
theorem dJ1_indexOf_4cfef_28 : decode cJ1_indexOf_4cfef 28 = .ok (.ireturn, 1) := by decide +kernel
theorem dJ1_indexOf_4cfef_29 : decode cJ1_indexOf_4cfef 29 = .ok (.aload_n 0, 1) := by decide +kernel
theorem dJ1_indexOf_4cfef_30 : decode cJ1_indexOf_4cfef 30 = .ok (.iload_n 1, 1) := by decide +kernel
theorem dJ1_indexOf_4cfef_31 : decode cJ1_indexOf_4cfef 31 = .ok (.iload_n 2, 1) := by decide +kernel
theorem dJ1_indexOf_4cfef_32 : decode cJ1_indexOf_4cfef 32 = .ok (.iload_n 3, 1) := by decide +kernel
theorem dJ1_indexOf_4cfef_33 : decode cJ1_indexOf_4cfef 33 = .ok (.invokestatic 95, 3) := by decide +kernel
theorem dJ1_indexOf_4cfef_36 : decode cJ1_indexOf_4cfef 36 = .ok (.ireturn, 1) := by decide +kernel
theorem dJ1_indexOfChar_4cfef_0 : decode cJ1_indexOfChar_4cfef 0 = .ok (.iload_n 1, 1) := by decide +kernel
theorem dJ1_indexOfChar_4cfef_1 : decode cJ1_indexOfChar_4cfef 1 = .ok (.i2b, 1) := by decide +kernel
theorem dJ1_indexOfChar_4cfef_2 : decode cJ1_indexOfChar_4cfef 2 = .ok (.istore 4, 2) := by decide +kernel
theorem dJ1_indexOfChar_4cfef_4 : decode cJ1_indexOfChar_4cfef 4 = .ok (.iload_n 2, 1) := by decide +kernel
theorem dJ1_indexOfChar_4cfef_5 : decode cJ1_indexOfChar_4cfef 5 = .ok (.istore 5, 2) := by decide +kernel
theorem dJ1_indexOfChar_4cfef_7 : decode cJ1_indexOfChar_4cfef 7 = .ok (.iload 5, 2) := by decide +kernel
theorem dJ1_indexOfChar_4cfef_9 : decode cJ1_indexOfChar_4cfef 9 = .ok (.iload_n 3, 1) := by decide +kernel
theorem dJ1_indexOfChar_4cfef_10 : decode cJ1_indexOfChar_4cfef 10 = .ok (.if_icmp .ge 21, 3) := by decide +kernel
theorem dJ1_indexOfChar_4cfef_13 : decode cJ1_indexOfChar_4cfef 13 = .ok (.aload_n 0, 1) := by decide +kernel
theorem dJ1_indexOfChar_4cfef_14 : decode cJ1_indexOfChar_4cfef 14 = .ok (.iload 5, 2) := by decide +kernel
theorem dJ1_indexOfChar_4cfef_16 : decode cJ1_indexOfChar_4cfef 16 = .ok (.baload, 1) := by decide +kernel
theorem dJ1_indexOfChar_4cfef_17 : decode cJ1_indexOfChar_4cfef 17 = .ok (.iload 4, 2) := by decide +kernel
theorem dJ1_indexOfChar_4cfef_19 : decode cJ1_indexOfChar_4cfef 19 = .ok (.if_icmp .ne 6, 3) := by decide +kernel
theorem dJ1_indexOfChar_4cfef_22 : decode cJ1_indexOfChar_4cfef 22 = .ok (.iload 5, 2) := by decide +kernel
theorem dJ1_indexOfChar_4cfef_24 : decode cJ1_indexOfChar_4cfef 24 = .ok (.ireturn, 1) := by decide +kernel
theorem dJ1_indexOfChar_4cfef_25 : decode cJ1_indexOfChar_4cfef 25 = .ok (.iinc 5 1, 3) := by decide +kernel
theorem dJ1_indexOfChar_4cfef_28 : decode cJ1_indexOfChar_4cfef 28 = .ok (.goto (-21), 3) := by decide +kernel
theorem dJ1_indexOfChar_4cfef_31 : decode cJ1_indexOfChar_4cfef 31 = .ok (.iconst (-1), 1) := by decide +kernel
theorem dJ1_indexOfChar_4cfef_32 : decode cJ1_indexOfChar_4cfef 32 = .ok (.ireturn, 1) := by decide +kernel
theorem dJ2_getChar_3b067_0 : decode cJ2_getChar_3b067 0 = .ok (.getstatic 44, 3) := by decide +kernel
theorem dJ2_getChar_3b067_3 : decode cJ2_getChar_3b067 3 = .ok (.ifCond .ne 25, 3) := by decide +kernel
theorem dJ2_getChar_3b067_6 : decode cJ2_getChar_3b067 6 = .ok (.iload_n 1, 1) := by decide +kernel
theorem dJ2_getChar_3b067_7 : decode cJ2_getChar_3b067 7 = .ok (.ifCond .lt 11, 3) := by decide +kernel
theorem dJ2_getChar_3b067_10 : decode cJ2_getChar_3b067 10 = .ok (.iload_n 1, 1) := by decide +kernel
theorem dJ2_getChar_3b067_11 : decode cJ2_getChar_3b067 11 = .ok (.aload_n 0, 1) := by decide +kernel
theorem dJ2_getChar_3b067_12 : decode cJ2_getChar_3b067 12 = .ok (.invokestatic 48, 3) := by decide +kernel
theorem dJ2_getChar_3b067_15 : decode cJ2_getChar_3b067 15 = .ok (.if_icmp .lt 13, 3) := by decide +kernel
theorem dJ2_getChar_3b067_18 : decode cJ2_getChar_3b067 18 = .ok (.new 52, 3) := by decide +kernel
theorem dJ2_getChar_3b067_21 : decode cJ2_getChar_3b067 21 = .ok (.dup, 1) := by decide +kernel
theorem dJ2_getChar_3b067_22 : decode cJ2_getChar_3b067 22 = .ok (.ldc 54, 2) := by decide +kernel
theorem dJ2_getChar_3b067_24 : decode cJ2_getChar_3b067 24 = .ok (.invokespecial 56, 3) := by decide +kernel
theorem dJ2_getChar_3b067_27 : decode cJ2_getChar_3b067 27 = .ok (.athrow, 1) := by decide +kernel
theorem dJ2_getChar_3b067_28 : decode cJ2_getChar_3b067 28 = .ok (.iload_n 1, 1) := by decide +kernel
theorem dJ2_getChar_3b067_29 : decode cJ2_getChar_3b067 29 = .ok (.iconst 1, 1) := by decide +kernel
theorem dJ2_getChar_3b067_30 : decode cJ2_getChar_3b067 30 = .ok (.ishl, 1) := by decide +kernel
theorem dJ2_getChar_3b067_31 : decode cJ2_getChar_3b067 31 = .ok (.istore_n 1, 1) := by decide +kernel
theorem dJ2_getChar_3b067_32 : decode cJ2_getChar_3b067 32 = .ok (.aload_n 0, 1) := by decide +kernel
theorem dJ2_getChar_3b067_33 : decode cJ2_getChar_3b067 33 = .ok (.iload_n 1, 1) := by decide +kernel
theorem dJ2_getChar_3b067_34 : decode cJ2_getChar_3b067 34 = .ok (.iinc 1 1, 3) := by decide +kernel
theorem dJ2_getChar_3b067_37 : decode cJ2_getChar_3b067 37 = .ok (.baload, 1) := by decide +kernel
theorem dJ2_getChar_3b067_38 : decode cJ2_getChar_3b067 38 = .ok (.sipush 255, 3) := by decide +kernel
theorem dJ2_getChar_3b067_41 : decode cJ2_getChar_3b067 41 = .ok (.iand, 1) := by decide +kernel
theorem dJ2_getChar_3b067_42 : decode cJ2_getChar_3b067 42 = .ok (.getstatic 59, 3) := by decide +kernel
theorem dJ2_getChar_3b067_45 : decode cJ2_getChar_3b067 45 = .ok (.ishl, 1) := by decide +kernel
theorem dJ2_getChar_3b067_46 : decode cJ2_getChar_3b067 46 = .ok (.aload_n 0, 1) := by decide +kernel
theorem dJ2_getChar_3b067_47 : decode cJ2_getChar_3b067 47 = .ok (.iload_n 1, 1) := by decide +kernel
theorem dJ2_getChar_3b067_48 : decode cJ2_getChar_3b067 48 = .ok (.baload, 1) := by decide +kernel
theorem dJ2_getChar_3b067_49 : decode cJ2_getChar_3b067 49 = .ok (.sipush 255, 3) := by decide +kernel
theorem dJ2_getChar_3b067_52 : decode cJ2_getChar_3b067 52 = .ok (.iand, 1) := by decide +kernel
theorem dJ2_getChar_3b067_53 : decode cJ2_getChar_3b067 53 = .ok (.getstatic 63, 3) := by decide +kernel
theorem dJ2_getChar_3b067_56 : decode cJ2_getChar_3b067 56 = .ok (.ishl, 1) := by decide +kernel
theorem dJ2_getChar_3b067_57 : decode cJ2_getChar_3b067 57 = .ok (.ior, 1) := by decide +kernel
theorem dJ2_getChar_3b067_58 : decode cJ2_getChar_3b067 58 = .ok (.i2c, 1) := by decide +kernel
theorem dJ2_getChar_3b067_59 : decode cJ2_getChar_3b067 59 = .ok (.ireturn, 1) := by decide +kernel
theorem dJ2_length_9d52b_0 : decode cJ2_length_9d52b 0 = .ok (.aload_n 0, 1) := by decide +kernel
theorem dJ2_length_9d52b_1 : decode cJ2_length_9d52b 1 = .ok (.arraylength, 1) := by decide +kernel
theorem dJ2_length_9d52b_2 : decode cJ2_length_9d52b 2 = .ok (.iconst 1, 1) := by decide +kernel
theorem dJ2_length_9d52b_3 : decode cJ2_length_9d52b 3 = .ok (.ishr, 1) := by decide +kernel
theorem dJ2_length_9d52b_4 : decode cJ2_length_9d52b 4 = .ok (.ireturn, 1) := by decide +kernel
theorem dJ2_indexOf_4cfef_0 : decode cJ2_indexOf_4cfef 0 = .ok (.iload_n 2, 1) := by decide +kernel
theorem dJ2_indexOf_4cfef_1 : decode cJ2_indexOf_4cfef 1 = .ok (.iconst 0, 1) := by decide +kernel
theorem dJ2_indexOf_4cfef_2 : decode cJ2_indexOf_4cfef 2 = .ok (.invokestatic 224, 3) := by decide +kernel
theorem dJ2_indexOf_4cfef_5 : decode cJ2_indexOf_4cfef 5 = .ok (.istore_n 2, 1) := by decide +kernel
theorem dJ2_indexOf_4cfef_6 : decode cJ2_indexOf_4cfef 6 = .ok (.iload_n 3, 1) := by decide +kernel
theorem dJ2_indexOf_4cfef_7 : decode cJ2_indexOf_4cfef 7 = .ok (.aload_n 0, 1) := by decide +kernel
theorem dJ2_indexOf_4cfef_8 : decode cJ2_indexOf_4cfef 8 = .ok (.arraylength, 1) := by decide +kernel
theorem dJ2_indexOf_4cfef_9 : decode cJ2_indexOf_4cfef 9 = .ok (.iconst 1, 1) := by decide +kernel
theorem dJ2_indexOf_4cfef_10 : decode cJ2_indexOf_4cfef 10 = .ok (.ishr, 1) := by decide +kernel
theorem dJ2_indexOf_4cfef_11 : decode cJ2_indexOf_4cfef 11 = .ok (.invokestatic 183, 3) := by decide +kernel
theorem dJ2_indexOf_4cfef_14 : decode cJ2_indexOf_4cfef 14 = .ok (.istore_n 3, 1) := by decide +kernel
theorem dJ2_indexOf_4cfef_15 : decode cJ2_indexOf_4cfef 15 = .ok (.iload_n 2, 1) := by decide +kernel
theorem dJ2_indexOf_4cfef_16 : decode cJ2_indexOf_4cfef 16 = .ok (.iload_n 3, 1) := by decide +kernel
theorem dJ2_indexOf_4cfef_17 : decode cJ2_indexOf_4cfef 17 = .ok (.if_icmp .lt 5, 3) := by decide +kernel
theorem dJ2_indexOf_4cfef_20 : decode cJ2_indexOf_4cfef 20 = .ok (.iconst (-1), 1) := by decide +kernel
theorem dJ2_indexOf_4cfef_21 : decode cJ2_indexOf_4cfef 21 = .ok (.ireturn, 1) := by decide +kernel
theorem dJ2_indexOf_4cfef_22 : decode cJ2_indexOf_4cfef 22 = .ok (.iload_n 1, 1) := by decide +kernel
theorem dJ2_indexOf_4cfef_23 : decode cJ2_indexOf_4cfef 23 = .ok (.ldc 227, 2) := by decide +kernel
theorem dJ2_indexOf_4cfef_25 : decode cJ2_indexOf_4cfef 25 = .ok (.if_icmp .ge 11, 3) := by decide +kernel
theorem dJ2_indexOf_4cfef_28 : decode cJ2_indexOf_4cfef 28 = .ok (.aload_n 0, 1) := by decide +kernel
theorem dJ2_indexOf_4cfef_29 : decode cJ2_indexOf_4cfef 29 = .ok (.iload_n 1, 1) := by decide +kernel
theorem dJ2_indexOf_4cfef_30 : decode cJ2_indexOf_4cfef 30 = .ok (.iload_n 2, 1) := by decide +kernel
theorem dJ2_indexOf_4cfef_31 : decode cJ2_indexOf_4cfef 31 = .ok (.iload_n 3, 1) := by decide +kernel
theorem dJ2_indexOf_4cfef_32 : decode cJ2_indexOf_4cfef 32 = .ok (.invokestatic 228, 3) := by decide +kernel
theorem dJ2_indexOf_4cfef_35 : decode cJ2_indexOf_4cfef 35 = .ok (.ireturn, 1) := by decide +kernel
theorem dJ2_indexOf_4cfef_36 : decode cJ2_indexOf_4cfef 36 = .ok (.aload_n 0, 1) := by decide +kernel
theorem dJ2_indexOf_4cfef_37 : decode cJ2_indexOf_4cfef 37 = .ok (.iload_n 1, 1) := by decide +kernel
theorem dJ2_indexOf_4cfef_38 : decode cJ2_indexOf_4cfef 38 = .ok (.iload_n 2, 1) := by decide +kernel
theorem dJ2_indexOf_4cfef_39 : decode cJ2_indexOf_4cfef 39 = .ok (.iload_n 3, 1) := by decide +kernel
theorem dJ2_indexOf_4cfef_40 : decode cJ2_indexOf_4cfef 40 = .ok (.invokestatic 232, 3) := by decide +kernel
theorem dJ2_indexOf_4cfef_43 : decode cJ2_indexOf_4cfef 43 = .ok (.ireturn, 1) := by decide +kernel
theorem dJ2_indexOfChar_4cfef_0 : decode cJ2_indexOfChar_4cfef 0 = .ok (.iload_n 2, 1) := by decide +kernel
theorem dJ2_indexOfChar_4cfef_1 : decode cJ2_indexOfChar_4cfef 1 = .ok (.iload_n 3, 1) := by decide +kernel
theorem dJ2_indexOfChar_4cfef_2 : decode cJ2_indexOfChar_4cfef 2 = .ok (.aload_n 0, 1) := by decide +kernel
theorem dJ2_indexOfChar_4cfef_3 : decode cJ2_indexOfChar_4cfef 3 = .ok (.invokestatic 96, 3) := by decide +kernel
theorem dJ2_indexOfChar_4cfef_6 : decode cJ2_indexOfChar_4cfef 6 = .ok (.aload_n 0, 1) := by decide +kernel
theorem dJ2_indexOfChar_4cfef_7 : decode cJ2_indexOfChar_4cfef 7 = .ok (.iload_n 1, 1) := by decide +kernel
theorem dJ2_indexOfChar_4cfef_8 : decode cJ2_indexOfChar_4cfef 8 = .ok (.iload_n 2, 1) := by decide +kernel
theorem dJ2_indexOfChar_4cfef_9 : decode cJ2_indexOfChar_4cfef 9 = .ok (.iload_n 3, 1) := by decide +kernel
theorem dJ2_indexOfChar_4cfef_10 : decode cJ2_indexOfChar_4cfef 10 = .ok (.invokestatic 244, 3) := by decide +kernel
theorem dJ2_indexOfChar_4cfef_13 : decode cJ2_indexOfChar_4cfef 13 = .ok (.ireturn, 1) := by decide +kernel
theorem dJ2_indexOfCharUnsafe_4cfef_0 : decode cJ2_indexOfCharUnsafe_4cfef 0 = .ok (.iload_n 2, 1) := by decide +kernel
theorem dJ2_indexOfCharUnsafe_4cfef_1 : decode cJ2_indexOfCharUnsafe_4cfef 1 = .ok (.istore 4, 2) := by decide +kernel
theorem dJ2_indexOfCharUnsafe_4cfef_3 : decode cJ2_indexOfCharUnsafe_4cfef 3 = .ok (.iload 4, 2) := by decide +kernel
theorem dJ2_indexOfCharUnsafe_4cfef_5 : decode cJ2_indexOfCharUnsafe_4cfef 5 = .ok (.iload_n 3, 1) := by decide +kernel
theorem dJ2_indexOfCharUnsafe_4cfef_6 : decode cJ2_indexOfCharUnsafe_4cfef 6 = .ok (.if_icmp .ge 22, 3) := by decide +kernel
theorem dJ2_indexOfCharUnsafe_4cfef_9 : decode cJ2_indexOfCharUnsafe_4cfef 9 = .ok (.aload_n 0, 1) := by decide +kernel
theorem dJ2_indexOfCharUnsafe_4cfef_10 : decode cJ2_indexOfCharUnsafe_4cfef 10 = .ok (.iload 4, 2) := by decide +kernel
theorem dJ2_indexOfCharUnsafe_4cfef_12 : decode cJ2_indexOfCharUnsafe_4cfef 12 = .ok (.invokestatic 71, 3) := by decide +kernel
theorem dJ2_indexOfCharUnsafe_4cfef_15 : decode cJ2_indexOfCharUnsafe_4cfef 15 = .ok (.iload_n 1, 1) := by decide +kernel
theorem dJ2_indexOfCharUnsafe_4cfef_16 : decode cJ2_indexOfCharUnsafe_4cfef 16 = .ok (.if_icmp .ne 6, 3) := by decide +kernel
theorem dJ2_indexOfCharUnsafe_4cfef_19 : decode cJ2_indexOfCharUnsafe_4cfef 19 = .ok (.iload 4, 2) := by decide +kernel
theorem dJ2_indexOfCharUnsafe_4cfef_21 : decode cJ2_indexOfCharUnsafe_4cfef 21 = .ok (.ireturn, 1) := by decide +kernel
theorem dJ2_indexOfCharUnsafe_4cfef_22 : decode cJ2_indexOfCharUnsafe_4cfef 22 = .ok (.iinc 4 1, 3) := by decide +kernel
theorem dJ2_indexOfCharUnsafe_4cfef_25 : decode cJ2_indexOfCharUnsafe_4cfef 25 = .ok (.goto (-22), 3) := by decide +kernel
theorem dJ2_indexOfCharUnsafe_4cfef_28 : decode cJ2_indexOfCharUnsafe_4cfef 28 = .ok (.iconst (-1), 1) := by decide +kernel
theorem dJ2_indexOfCharUnsafe_4cfef_29 : decode cJ2_indexOfCharUnsafe_4cfef 29 = .ok (.ireturn, 1) := by decide +kernel
theorem dJ2_indexOfSupplementary_4cfef_0 : decode cJ2_indexOfSupplementary_4cfef 0 = .ok (.iload_n 1, 1) := by decide +kernel
theorem dJ2_indexOfSupplementary_4cfef_1 : decode cJ2_indexOfSupplementary_4cfef 1 = .ok (.invokestatic 164, 3) := by decide +kernel
theorem dJ2_indexOfSupplementary_4cfef_4 : decode cJ2_indexOfSupplementary_4cfef 4 = .ok (.ifCond .eq 65, 3) := by decide +kernel
theorem dJ2_indexOfSupplementary_4cfef_7 : decode cJ2_indexOfSupplementary_4cfef 7 = .ok (.iload_n 1, 1) := by decide +kernel
theorem dJ2_indexOfSupplementary_4cfef_8 : decode cJ2_indexOfSupplementary_4cfef 8 = .ok (.invokestatic 157, 3) := by decide +kernel
theorem dJ2_indexOfSupplementary_4cfef_11 : decode cJ2_indexOfSupplementary_4cfef 11 = .ok (.istore 4, 2) := by decide +kernel
theorem dJ2_indexOfSupplementary_4cfef_13 : decode cJ2_indexOfSupplementary_4cfef 13 = .ok (.iload_n 1, 1) := by decide +kernel
theorem dJ2_indexOfSupplementary_4cfef_14 : decode cJ2_indexOfSupplementary_4cfef 14 = .ok (.invokestatic 161, 3) := by decide +kernel
theorem dJ2_indexOfSupplementary_4cfef_17 : decode cJ2_indexOfSupplementary_4cfef 17 = .ok (.istore 5, 2) := by decide +kernel
theorem dJ2_indexOfSupplementary_4cfef_19 : decode cJ2_indexOfSupplementary_4cfef 19 = .ok (.iload_n 2, 1) := by decide +kernel
theorem dJ2_indexOfSupplementary_4cfef_20 : decode cJ2_indexOfSupplementary_4cfef 20 = .ok (.iload_n 3, 1) := by decide +kernel
theorem dJ2_indexOfSupplementary_4cfef_21 : decode cJ2_indexOfSupplementary_4cfef 21 = .ok (.aload_n 0, 1) := by decide +kernel
theorem dJ2_indexOfSupplementary_4cfef_22 : decode cJ2_indexOfSupplementary_4cfef 22 = .ok (.invokestatic 96, 3) := by decide +kernel
theorem dJ2_indexOfSupplementary_4cfef_25 : decode cJ2_indexOfSupplementary_4cfef 25 = .ok (.iload_n 2, 1) := by decide +kernel
theorem dJ2_indexOfSupplementary_4cfef_26 : decode cJ2_indexOfSupplementary_4cfef 26 = .ok (.istore 6, 2) := by decide +kernel
theorem dJ2_indexOfSupplementary_4cfef_28 : decode cJ2_indexOfSupplementary_4cfef 28 = .ok (.iload 6, 2) := by decide +kernel
theorem dJ2_indexOfSupplementary_4cfef_30 : decode cJ2_indexOfSupplementary_4cfef 30 = .ok (.iload_n 3, 1) := by decide +kernel
theorem dJ2_indexOfSupplementary_4cfef_31 : decode cJ2_indexOfSupplementary_4cfef 31 = .ok (.iconst 1, 1) := by decide +kernel
theorem dJ2_indexOfSupplementary_4cfef_32 : decode cJ2_indexOfSupplementary_4cfef 32 = .ok (.isub, 1) := by decide +kernel
theorem dJ2_indexOfSupplementary_4cfef_33 : decode cJ2_indexOfSupplementary_4cfef 33 = .ok (.if_icmp .ge 36, 3) := by decide +kernel
theorem dJ2_indexOfSupplementary_4cfef_36 : decode cJ2_indexOfSupplementary_4cfef 36 = .ok (.aload_n 0, 1) := by decide +kernel
theorem dJ2_indexOfSupplementary_4cfef_37 : decode cJ2_indexOfSupplementary_4cfef 37 = .ok (.iload 6, 2) := by decide +kernel
theorem dJ2_indexOfSupplementary_4cfef_39 : decode cJ2_indexOfSupplementary_4cfef 39 = .ok (.invokestatic 71, 3) := by decide +kernel
theorem dJ2_indexOfSupplementary_4cfef_42 : decode cJ2_indexOfSupplementary_4cfef 42 = .ok (.iload 4, 2) := by decide +kernel
theorem dJ2_indexOfSupplementary_4cfef_44 : decode cJ2_indexOfSupplementary_4cfef 44 = .ok (.if_icmp .ne 19, 3) := by decide +kernel
theorem dJ2_indexOfSupplementary_4cfef_47 : decode cJ2_indexOfSupplementary_4cfef 47 = .ok (.aload_n 0, 1) := by decide +kernel
theorem dJ2_indexOfSupplementary_4cfef_48 : decode cJ2_indexOfSupplementary_4cfef 48 = .ok (.iload 6, 2) := by decide +kernel
theorem dJ2_indexOfSupplementary_4cfef_50 : decode cJ2_indexOfSupplementary_4cfef 50 = .ok (.iconst 1, 1) := by decide +kernel
theorem dJ2_indexOfSupplementary_4cfef_51 : decode cJ2_indexOfSupplementary_4cfef 51 = .ok (.iadd, 1) := by decide +kernel
theorem dJ2_indexOfSupplementary_4cfef_52 : decode cJ2_indexOfSupplementary_4cfef 52 = .ok (.invokestatic 71, 3) := by decide +kernel
theorem dJ2_indexOfSupplementary_4cfef_55 : decode cJ2_indexOfSupplementary_4cfef 55 = .ok (.iload 5, 2) := by decide +kernel
theorem dJ2_indexOfSupplementary_4cfef_57 : decode cJ2_indexOfSupplementary_4cfef 57 = .ok (.if_icmp .ne 6, 3) := by decide +kernel
theorem dJ2_indexOfSupplementary_4cfef_60 : decode cJ2_indexOfSupplementary_4cfef 60 = .ok (.iload 6, 2) := by decide +kernel
theorem dJ2_indexOfSupplementary_4cfef_62 : decode cJ2_indexOfSupplementary_4cfef 62 = .ok (.ireturn, 1) := by decide +kernel
theorem dJ2_indexOfSupplementary_4cfef_63 : decode cJ2_indexOfSupplementary_4cfef 63 = .ok (.iinc 6 1, 3) := by decide +kernel
theorem dJ2_indexOfSupplementary_4cfef_66 : decode cJ2_indexOfSupplementary_4cfef 66 = .ok (.goto (-38), 3) := by decide +kernel
theorem dJ2_indexOfSupplementary_4cfef_69 : decode cJ2_indexOfSupplementary_4cfef 69 = .ok (.iconst (-1), 1) := by decide +kernel
theorem dJ2_indexOfSupplementary_4cfef_70 : decode cJ2_indexOfSupplementary_4cfef 70 = .ok (.ireturn, 1) := by decide +kernel
theorem dJ2_checkBoundsBeginEnd_d044e_0 : decode cJ2_checkBoundsBeginEnd_d044e 0 = .ok (.iload_n 0, 1) := by decide +kernel
theorem dJ2_checkBoundsBeginEnd_d044e_1 : decode cJ2_checkBoundsBeginEnd_d044e 1 = .ok (.iload_n 1, 1) := by decide +kernel
theorem dJ2_checkBoundsBeginEnd_d044e_2 : decode cJ2_checkBoundsBeginEnd_d044e 2 = .ok (.aload_n 2, 1) := by decide +kernel
theorem dJ2_checkBoundsBeginEnd_d044e_3 : decode cJ2_checkBoundsBeginEnd_d044e 3 = .ok (.invokestatic 48, 3) := by decide +kernel
theorem dJ2_checkBoundsBeginEnd_d044e_6 : decode cJ2_checkBoundsBeginEnd_d044e 6 = .ok (.invokestatic 241, 3) := by decide +kernel
theorem dJ2_checkBoundsBeginEnd_d044e_9 : decode cJ2_checkBoundsBeginEnd_d044e 9 = .ok (.return_, 1) := by decide +kernel
theorem dJ7_fill_53178_0 : decode cJ7_fill_53178 0 = .ok (.iconst 0, 1) := by decide +kernel
theorem dJ7_fill_53178_1 : decode cJ7_fill_53178 1 = .ok (.istore_n 2, 1) := by decide +kernel
theorem dJ7_fill_53178_2 : decode cJ7_fill_53178 2 = .ok (.aload_n 0, 1) := by decide +kernel
theorem dJ7_fill_53178_3 : decode cJ7_fill_53178 3 = .ok (.arraylength, 1) := by decide +kernel
theorem dJ7_fill_53178_4 : decode cJ7_fill_53178 4 = .ok (.istore_n 3, 1) := by decide +kernel
theorem dJ7_fill_53178_5 : decode cJ7_fill_53178 5 = .ok (.iload_n 2, 1) := by decide +kernel
theorem dJ7_fill_53178_6 : decode cJ7_fill_53178 6 = .ok (.iload_n 3, 1) := by decide +kernel
theorem dJ7_fill_53178_7 : decode cJ7_fill_53178 7 = .ok (.if_icmp .ge 13, 3) := by decide +kernel
theorem dJ7_fill_53178_10 : decode cJ7_fill_53178 10 = .ok (.aload_n 0, 1) := by decide +kernel
theorem dJ7_fill_53178_11 : decode cJ7_fill_53178 11 = .ok (.iload_n 2, 1) := by decide +kernel
theorem dJ7_fill_53178_12 : decode cJ7_fill_53178 12 = .ok (.iload_n 1, 1) := by decide +kernel
theorem dJ7_fill_53178_13 : decode cJ7_fill_53178 13 = .ok (.iastore, 1) := by decide +kernel
theorem dJ7_fill_53178_14 : decode cJ7_fill_53178 14 = .ok (.iinc 2 1, 3) := by decide +kernel
theorem dJ7_fill_53178_17 : decode cJ7_fill_53178 17 = .ok (.goto (-12), 3) := by decide +kernel
theorem dJ7_fill_53178_20 : decode cJ7_fill_53178 20 = .ok (.return_, 1) := by decide +kernel
theorem dJ3_checkFromToIndex_8c36e_0 : decode cJ3_checkFromToIndex_8c36e 0 = .ok (.iload_n 0, 1) := by decide +kernel
theorem dJ3_checkFromToIndex_8c36e_1 : decode cJ3_checkFromToIndex_8c36e 1 = .ok (.ifCond .lt 13, 3) := by decide +kernel
theorem dJ3_checkFromToIndex_8c36e_4 : decode cJ3_checkFromToIndex_8c36e 4 = .ok (.iload_n 0, 1) := by decide +kernel
theorem dJ3_checkFromToIndex_8c36e_5 : decode cJ3_checkFromToIndex_8c36e 5 = .ok (.iload_n 1, 1) := by decide +kernel
theorem dJ3_checkFromToIndex_8c36e_6 : decode cJ3_checkFromToIndex_8c36e 6 = .ok (.if_icmp .gt 8, 3) := by decide +kernel
theorem dJ3_checkFromToIndex_8c36e_9 : decode cJ3_checkFromToIndex_8c36e 9 = .ok (.iload_n 1, 1) := by decide +kernel
theorem dJ3_checkFromToIndex_8c36e_10 : decode cJ3_checkFromToIndex_8c36e 10 = .ok (.iload_n 2, 1) := by decide +kernel
theorem dJ3_checkFromToIndex_8c36e_11 : decode cJ3_checkFromToIndex_8c36e 11 = .ok (.if_icmp .le 11, 3) := by decide +kernel
theorem dJ3_checkFromToIndex_8c36e_14 : decode cJ3_checkFromToIndex_8c36e 14 = .ok (.aload_n 3, 1) := by decide +kernel
theorem dJ3_checkFromToIndex_8c36e_15 : decode cJ3_checkFromToIndex_8c36e 15 = .ok (.iload_n 0, 1) := by decide +kernel
theorem dJ3_checkFromToIndex_8c36e_16 : decode cJ3_checkFromToIndex_8c36e 16 = .ok (.iload_n 1, 1) := by decide +kernel
theorem dJ3_checkFromToIndex_8c36e_17 : decode cJ3_checkFromToIndex_8c36e 17 = .ok (.iload_n 2, 1) := by decide +kernel
theorem dJ3_checkFromToIndex_8c36e_18 : decode cJ3_checkFromToIndex_8c36e 18 = .ok (.invokestatic 99, 3) := by decide +kernel
theorem dJ3_checkFromToIndex_8c36e_21 : decode cJ3_checkFromToIndex_8c36e 21 = .ok (.athrow, 1) := by decide +kernel
theorem dJ3_checkFromToIndex_8c36e_22 : decode cJ3_checkFromToIndex_8c36e 22 = .ok (.iload_n 0, 1) := by decide +kernel
theorem dJ3_checkFromToIndex_8c36e_23 : decode cJ3_checkFromToIndex_8c36e 23 = .ok (.ireturn, 1) := by decide +kernel
end
section
theorem dX9_init_0 : decode cX9_init 0 = .ok (.aload_n 0, 1) := by decide +kernel
theorem dX9_init_1 : decode cX9_init 1 = .ok (.invokespecial 1, 3) := by decide +kernel
theorem dX9_init_4 : decode cX9_init 4 = .ok (.aload_n 0, 1) := by decide +kernel
theorem dX9_init_5 : decode cX9_init 5 = .ok (.new 7, 3) := by decide +kernel
theorem dX9_init_8 : decode cX9_init 8 = .ok (.dup, 1) := by decide +kernel
theorem dX9_init_9 : decode cX9_init 9 = .ok (.invokespecial 9, 3) := by decide +kernel
theorem dX9_init_12 : decode cX9_init 12 = .ok (.putfield 10, 3) := by decide +kernel
theorem dX9_init_15 : decode cX9_init 15 = .ok (.aload_n 0, 1) := by decide +kernel
theorem dX9_init_16 : decode cX9_init 16 = .ok (.new 7, 3) := by decide +kernel
theorem dX9_init_19 : decode cX9_init 19 = .ok (.dup, 1) := by decide +kernel
theorem dX9_init_20 : decode cX9_init 20 = .ok (.invokespecial 9, 3) := by decide +kernel
theorem dX9_init_23 : decode cX9_init 23 = .ok (.putfield 16, 3) := by decide +kernel
theorem dX9_init_26 : decode cX9_init 26 = .ok (.aload_n 0, 1) := by decide +kernel
theorem dX9_init_27 : decode cX9_init 27 = .ok (.iconst 0, 1) := by decide +kernel
theorem dX9_init_28 : decode cX9_init 28 = .ok (.putfield 19, 3) := by decide +kernel
theorem dX9_init_31 : decode cX9_init 31 = .ok (.aload_n 0, 1) := by decide +kernel
theorem dX9_init_32 : decode cX9_init 32 = .ok (.new 23, 3) := by decide +kernel
theorem dX9_init_35 : decode cX9_init 35 = .ok (.dup, 1) := by decide +kernel
theorem dX9_init_36 : decode cX9_init 36 = .ok (.invokespecial 25, 3) := by decide +kernel
theorem dX9_init_39 : decode cX9_init 39 = .ok (.putfield 26, 3) := by decide +kernel
theorem dX9_init_42 : decode cX9_init 42 = .ok (.aload_n 0, 1) := by decide +kernel
theorem dX9_init_43 : decode cX9_init 43 = .ok (.bipush 6, 2) := by decide +kernel
theorem dX9_init_45 : decode cX9_init 45 = .ok (.anewarray 30, 3) := by decide +kernel
theorem dX9_init_48 : decode cX9_init 48 = .ok (.putfield 32, 3) := by decide +kernel
theorem dX9_init_51 : decode cX9_init 51 = .ok (.iconst 0, 1) := by decide +kernel
theorem dX9_init_52 : decode cX9_init 52 = .ok (.istore_n 1, 1) := by decide +kernel
theorem dX9_init_53 : decode cX9_init 53 = .ok (.iload_n 1, 1) := by decide +kernel
theorem dX9_init_54 : decode cX9_init 54 = .ok (.bipush 6, 2) := by decide +kernel
theorem dX9_init_56 : decode cX9_init 56 = .ok (.if_icmp .ge 35, 3) := by decide +kernel
theorem dX9_init_59 : decode cX9_init 59 = .ok (.aload_n 0, 1) := by decide +kernel
theorem dX9_init_60 : decode cX9_init 60 = .ok (.getfield 32, 3) := by decide +kernel
theorem dX9_init_63 : decode cX9_init 63 = .ok (.iload_n 1, 1) := by decide +kernel
theorem dX9_init_64 : decode cX9_init 64 = .ok (.new 30, 3) := by decide +kernel
theorem dX9_init_67 : decode cX9_init 67 = .ok (.dup, 1) := by decide +kernel
theorem dX9_init_68 : decode cX9_init 68 = .ok (.aload_n 0, 1) := by decide +kernel
theorem dX9_init_69 : decode cX9_init 69 = .ok (.getfield 10, 3) := by decide +kernel
theorem dX9_init_72 : decode cX9_init 72 = .ok (.aload_n 0, 1) := by decide +kernel
theorem dX9_init_73 : decode cX9_init 73 = .ok (.getfield 10, 3) := by decide +kernel
theorem dX9_init_76 : decode cX9_init 76 = .ok (.getfield 36, 3) := by decide +kernel
theorem dX9_init_79 : decode cX9_init 79 = .ok (.iload_n 1, 1) := by decide +kernel
theorem dX9_init_80 : decode cX9_init 80 = .ok (.aaload, 1) := by decide +kernel
theorem dX9_init_81 : decode cX9_init 81 = .ok (.invokespecial 40, 3) := by decide +kernel
theorem dX9_init_84 : decode cX9_init 84 = .ok (.aastore, 1) := by decide +kernel
theorem dX9_init_85 : decode cX9_init 85 = .ok (.iinc 1 1, 3) := by decide +kernel
theorem dX9_init_88 : decode cX9_init 88 = .ok (.goto (-35), 3) := by decide +kernel
theorem dX9_init_91 : decode cX9_init 91 = .ok (.aload_n 0, 1) := by decide +kernel
theorem dX9_init_92 : decode cX9_init 92 = .ok (.bipush 30, 2) := by decide +kernel
theorem dX9_init_94 : decode cX9_init 94 = .ok (.newarray .int, 2) := by decide +kernel
theorem dX9_init_96 : decode cX9_init 96 = .ok (.putfield 43, 3) := by decide +kernel
theorem dX9_init_99 : decode cX9_init 99 = .ok (.aload_n 0, 1) := by decide +kernel
theorem dX9_init_100 : decode cX9_init 100 = .ok (.new 47, 3) := by decide +kernel
theorem dX9_init_103 : decode cX9_init 103 = .ok (.dup, 1) := by decide +kernel
theorem dX9_init_104 : decode cX9_init 104 = .ok (.aload_n 0, 1) := by decide +kernel
theorem dX9_init_105 : decode cX9_init 105 = .ok (.getfield 32, 3) := by decide +kernel
theorem dX9_init_108 : decode cX9_init 108 = .ok (.aload_n 0, 1) := by decide +kernel
theorem dX9_init_109 : decode cX9_init 109 = .ok (.getfield 26, 3) := by decide +kernel
theorem dX9_init_112 : decode cX9_init 112 = .ok (.invokespecial 49, 3) := by decide +kernel
theorem dX9_init_115 : decode cX9_init 115 = .ok (.putfield 52, 3) := by decide +kernel
theorem dX9_init_118 : decode cX9_init 118 = .ok (.aload_n 0, 1) := by decide +kernel
theorem dX9_init_119 : decode cX9_init 119 = .ok (.new 56, 3) := by decide +kernel
theorem dX9_init_122 : decode cX9_init 122 = .ok (.dup, 1) := by decide +kernel
theorem dX9_init_123 : decode cX9_init 123 = .ok (.invokespecial 58, 3) := by decide +kernel
theorem dX9_init_126 : decode cX9_init 126 = .ok (.putfield 59, 3) := by decide +kernel
theorem dX9_init_129 : decode cX9_init 129 = .ok (.aload_n 0, 1) := by decide +kernel
theorem dX9_init_130 : decode cX9_init 130 = .ok (.new 63, 3) := by decide +kernel
theorem dX9_init_133 : decode cX9_init 133 = .ok (.dup, 1) := by decide +kernel
theorem dX9_init_134 : decode cX9_init 134 = .ok (.invokespecial 65, 3) := by decide +kernel
theorem dX9_init_137 : decode cX9_init 137 = .ok (.putfield 66, 3) := by decide +kernel
theorem dX9_init_140 : decode cX9_init 140 = .ok (.aload_n 0, 1) := by decide +kernel
theorem dX9_init_141 : decode cX9_init 141 = .ok (.iconst 4, 1) := by decide +kernel
theorem dX9_init_142 : decode cX9_init 142 = .ok (.anewarray 70, 3) := by decide +kernel
theorem dX9_init_145 : decode cX9_init 145 = .ok (.putfield 72, 3) := by decide +kernel
theorem dX9_init_148 : decode cX9_init 148 = .ok (.iconst 0, 1) := by decide +kernel
theorem dX9_init_149 : decode cX9_init 149 = .ok (.istore_n 1, 1) := by decide +kernel
theorem dX9_init_150 : decode cX9_init 150 = .ok (.iload_n 1, 1) := by decide +kernel
theorem dX9_init_151 : decode cX9_init 151 = .ok (.iconst 4, 1) := by decide +kernel
theorem dX9_init_152 : decode cX9_init 152 = .ok (.if_icmp .ge 22, 3) := by decide +kernel
theorem dX9_init_155 : decode cX9_init 155 = .ok (.aload_n 0, 1) := by decide +kernel
theorem dX9_init_156 : decode cX9_init 156 = .ok (.getfield 72, 3) := by decide +kernel
theorem dX9_init_159 : decode cX9_init 159 = .ok (.iload_n 1, 1) := by decide +kernel
theorem dX9_init_160 : decode cX9_init 160 = .ok (.new 70, 3) := by decide +kernel
theorem dX9_init_163 : decode cX9_init 163 = .ok (.dup, 1) := by decide +kernel
theorem dX9_init_164 : decode cX9_init 164 = .ok (.invokespecial 76, 3) := by decide +kernel
theorem dX9_init_167 : decode cX9_init 167 = .ok (.aastore, 1) := by decide +kernel
theorem dX9_init_168 : decode cX9_init 168 = .ok (.iinc 1 1, 3) := by decide +kernel
theorem dX9_init_171 : decode cX9_init 171 = .ok (.goto (-21), 3) := by decide +kernel
theorem dX9_init_174 : decode cX9_init 174 = .ok (.aload_n 0, 1) := by decide +kernel
theorem dX9_init_175 : decode cX9_init 175 = .ok (.bipush 6, 2) := by decide +kernel
theorem dX9_init_177 : decode cX9_init 177 = .ok (.newarray .int, 2) := by decide +kernel
theorem dX9_init_179 : decode cX9_init 179 = .ok (.putfield 77, 3) := by decide +kernel
theorem dX9_init_182 : decode cX9_init 182 = .ok (.return_, 1) := by decide +kernel
theorem dX9_set_0 : decode cX9_set 0 = .ok (.iload_n 2, 1) := by decide +kernel
theorem dX9_set_1 : decode cX9_set 1 = .ok (.ifCond .lt 11, 3) := by decide +kernel
theorem dX9_set_4 : decode cX9_set 4 = .ok (.iload_n 2, 1) := by decide +kernel
theorem dX9_set_5 : decode cX9_set 5 = .ok (.iload_n 1, 1) := by decide +kernel
theorem dX9_set_6 : decode cX9_set 6 = .ok (.invokestatic 80, 3) := by decide +kernel
theorem dX9_set_9 : decode cX9_set 9 = .ok (.if_icmp .le 9, 3) := by decide +kernel
theorem dX9_set_12 : decode cX9_set 12 = .ok (.aload_n 0, 1) := by decide +kernel
theorem dX9_set_13 : decode cX9_set 13 = .ok (.iconst 1, 1) := by decide +kernel
theorem dX9_set_14 : decode cX9_set 14 = .ok (.invokevirtual 84, 3) := by decide +kernel
theorem dX9_set_17 : decode cX9_set 17 = .ok (.ireturn, 1) := by decide +kernel
theorem dX9_set_18 : decode cX9_set 18 = .ok (.aload_n 0, 1) := by decide +kernel
theorem dX9_set_19 : decode cX9_set 19 = .ok (.getfield 10, 3) := by decide +kernel
theorem dX9_set_22 : decode cX9_set 22 = .ok (.getfield 87, 3) := by decide +kernel
theorem dX9_set_25 : decode cX9_set 25 = .ok (.iload_n 1, 1) := by decide +kernel
theorem dX9_set_26 : decode cX9_set 26 = .ok (.invokevirtual 90, 3) := by decide +kernel
theorem dX9_set_29 : decode cX9_set 29 = .ok (.istore_n 3, 1) := by decide +kernel
theorem dX9_set_30 : decode cX9_set 30 = .ok (.aload_n 0, 1) := by decide +kernel
theorem dX9_set_31 : decode cX9_set 31 = .ok (.getfield 10, 3) := by decide +kernel
theorem dX9_set_34 : decode cX9_set 34 = .ok (.getfield 87, 3) := by decide +kernel
theorem dX9_set_37 : decode cX9_set 37 = .ok (.iload_n 1, 1) := by decide +kernel
theorem dX9_set_38 : decode cX9_set 38 = .ok (.iload_n 2, 1) := by decide +kernel
theorem dX9_set_39 : decode cX9_set 39 = .ok (.invokevirtual 93, 3) := by decide +kernel
theorem dX9_set_42 : decode cX9_set 42 = .ok (.iload_n 3, 1) := by decide +kernel
theorem dX9_set_43 : decode cX9_set 43 = .ok (.ireturn, 1) := by decide +kernel
theorem dX9_machine_0 : decode cX9_machine 0 = .ok (.iload_n 1, 1) := by decide +kernel
theorem dX9_machine_1 : decode cX9_machine 1 = .ok (.ifCond .lt 8, 3) := by decide +kernel
theorem dX9_machine_4 : decode cX9_machine 4 = .ok (.iload_n 1, 1) := by decide +kernel
theorem dX9_machine_5 : decode cX9_machine 5 = .ok (.iconst 5, 1) := by decide +kernel
theorem dX9_machine_6 : decode cX9_machine 6 = .ok (.if_icmp .le 9, 3) := by decide +kernel
theorem dX9_machine_9 : decode cX9_machine 9 = .ok (.aload_n 0, 1) := by decide +kernel
theorem dX9_machine_10 : decode cX9_machine 10 = .ok (.iconst 1, 1) := by decide +kernel
theorem dX9_machine_11 : decode cX9_machine 11 = .ok (.invokevirtual 84, 3) := by decide +kernel
theorem dX9_machine_14 : decode cX9_machine 14 = .ok (.ireturn, 1) := by decide +kernel
theorem dX9_machine_15 : decode cX9_machine 15 = .ok (.aload_n 0, 1) := by decide +kernel
theorem dX9_machine_16 : decode cX9_machine 16 = .ok (.getfield 10, 3) := by decide +kernel
theorem dX9_machine_19 : decode cX9_machine 19 = .ok (.getfield 87, 3) := by decide +kernel
theorem dX9_machine_22 : decode cX9_machine 22 = .ok (.iload_n 1, 1) := by decide +kernel
theorem dX9_machine_23 : decode cX9_machine 23 = .ok (.invokevirtual 90, 3) := by decide +kernel
theorem dX9_machine_26 : decode cX9_machine 26 = .ok (.ireturn, 1) := by decide +kernel
theorem dX9_cloth_0 : decode cX9_cloth 0 = .ok (.iload_n 1, 1) := by decide +kernel
theorem dX9_cloth_1 : decode cX9_cloth 1 = .ok (.invokestatic 97, 3) := by decide +kernel
theorem dX9_cloth_4 : decode cX9_cloth 4 = .ok (.ifCond .eq 10, 3) := by decide +kernel
theorem dX9_cloth_7 : decode cX9_cloth 7 = .ok (.iload_n 2, 1) := by decide +kernel
theorem dX9_cloth_8 : decode cX9_cloth 8 = .ok (.invokestatic 101, 3) := by decide +kernel
theorem dX9_cloth_11 : decode cX9_cloth 11 = .ok (.ifCond .ne 9, 3) := by decide +kernel
theorem dX9_cloth_14 : decode cX9_cloth 14 = .ok (.aload_n 0, 1) := by decide +kernel
theorem dX9_cloth_15 : decode cX9_cloth 15 = .ok (.iconst 1, 1) := by decide +kernel
theorem dX9_cloth_16 : decode cX9_cloth 16 = .ok (.invokevirtual 84, 3) := by decide +kernel
theorem dX9_cloth_19 : decode cX9_cloth 19 = .ok (.ireturn, 1) := by decide +kernel
theorem dX9_cloth_20 : decode cX9_cloth 20 = .ok (.aload_n 0, 1) := by decide +kernel
theorem dX9_cloth_21 : decode cX9_cloth 21 = .ok (.getfield 10, 3) := by decide +kernel
theorem dX9_cloth_24 : decode cX9_cloth 24 = .ok (.getfield 104, 3) := by decide +kernel
theorem dX9_cloth_27 : decode cX9_cloth 27 = .ok (.bipush 6, 2) := by decide +kernel
theorem dX9_cloth_29 : decode cX9_cloth 29 = .ok (.if_icmp .lt 9, 3) := by decide +kernel
theorem dX9_cloth_32 : decode cX9_cloth 32 = .ok (.aload_n 0, 1) := by decide +kernel
theorem dX9_cloth_33 : decode cX9_cloth 33 = .ok (.iconst 4, 1) := by decide +kernel
theorem dX9_cloth_34 : decode cX9_cloth 34 = .ok (.invokevirtual 84, 3) := by decide +kernel
theorem dX9_cloth_37 : decode cX9_cloth 37 = .ok (.ireturn, 1) := by decide +kernel
theorem dX9_cloth_38 : decode cX9_cloth 38 = .ok (.aload_n 0, 1) := by decide +kernel
theorem dX9_cloth_39 : decode cX9_cloth 39 = .ok (.getfield 10, 3) := by decide +kernel
theorem dX9_cloth_42 : decode cX9_cloth 42 = .ok (.getfield 104, 3) := by decide +kernel
theorem dX9_cloth_45 : decode cX9_cloth 45 = .ok (.istore_n 3, 1) := by decide +kernel
theorem dX9_cloth_46 : decode cX9_cloth 46 = .ok (.aload_n 0, 1) := by decide +kernel
theorem dX9_cloth_47 : decode cX9_cloth 47 = .ok (.getfield 10, 3) := by decide +kernel
theorem dX9_cloth_50 : decode cX9_cloth 50 = .ok (.getfield 36, 3) := by decide +kernel
theorem dX9_cloth_53 : decode cX9_cloth 53 = .ok (.iload_n 3, 1) := by decide +kernel
theorem dX9_cloth_54 : decode cX9_cloth 54 = .ok (.aaload, 1) := by decide +kernel
theorem dX9_cloth_55 : decode cX9_cloth 55 = .ok (.iload_n 1, 1) := by decide +kernel
theorem dX9_cloth_56 : decode cX9_cloth 56 = .ok (.iload_n 2, 1) := by decide +kernel
theorem dX9_cloth_57 : decode cX9_cloth 57 = .ok (.invokevirtual 107, 3) := by decide +kernel
theorem dX9_cloth_60 : decode cX9_cloth 60 = .ok (.aload_n 0, 1) := by decide +kernel
theorem dX9_cloth_61 : decode cX9_cloth 61 = .ok (.getfield 10, 3) := by decide +kernel
theorem dX9_cloth_64 : decode cX9_cloth 64 = .ok (.iload_n 3, 1) := by decide +kernel
theorem dX9_cloth_65 : decode cX9_cloth 65 = .ok (.iconst 1, 1) := by decide +kernel
theorem dX9_cloth_66 : decode cX9_cloth 66 = .ok (.iadd, 1) := by decide +kernel
theorem dX9_cloth_67 : decode cX9_cloth 67 = .ok (.putfield 104, 3) := by decide +kernel
theorem dX9_cloth_70 : decode cX9_cloth 70 = .ok (.iload_n 3, 1) := by decide +kernel
theorem dX9_cloth_71 : decode cX9_cloth 71 = .ok (.ireturn, 1) := by decide +kernel
theorem dX9_ofCloth_0 : decode cX9_ofCloth 0 = .ok (.aload_n 0, 1) := by decide +kernel
theorem dX9_ofCloth_1 : decode cX9_ofCloth 1 = .ok (.iload_n 1, 1) := by decide +kernel
theorem dX9_ofCloth_2 : decode cX9_ofCloth 2 = .ok (.invokevirtual 112, 3) := by decide +kernel
theorem dX9_ofCloth_5 : decode cX9_ofCloth 5 = .ok (.ifCond .eq 13, 3) := by decide +kernel
theorem dX9_ofCloth_8 : decode cX9_ofCloth 8 = .ok (.iload_n 2, 1) := by decide +kernel
theorem dX9_ofCloth_9 : decode cX9_ofCloth 9 = .ok (.ifCond .lt 9, 3) := by decide +kernel
theorem dX9_ofCloth_12 : decode cX9_ofCloth 12 = .ok (.iload_n 2, 1) := by decide +kernel
theorem dX9_ofCloth_13 : decode cX9_ofCloth 13 = .ok (.bipush 8, 2) := by decide +kernel
theorem dX9_ofCloth_15 : decode cX9_ofCloth 15 = .ok (.if_icmp .le 9, 3) := by decide +kernel
theorem dX9_ofCloth_18 : decode cX9_ofCloth 18 = .ok (.aload_n 0, 1) := by decide +kernel
theorem dX9_ofCloth_19 : decode cX9_ofCloth 19 = .ok (.iconst 1, 1) := by decide +kernel
theorem dX9_ofCloth_20 : decode cX9_ofCloth 20 = .ok (.invokevirtual 84, 3) := by decide +kernel
theorem dX9_ofCloth_23 : decode cX9_ofCloth 23 = .ok (.ireturn, 1) := by decide +kernel
theorem dX9_ofCloth_24 : decode cX9_ofCloth 24 = .ok (.aload_n 0, 1) := by decide +kernel
theorem dX9_ofCloth_25 : decode cX9_ofCloth 25 = .ok (.getfield 10, 3) := by decide +kernel
theorem dX9_ofCloth_28 : decode cX9_ofCloth 28 = .ok (.getfield 36, 3) := by decide +kernel
theorem dX9_ofCloth_31 : decode cX9_ofCloth 31 = .ok (.iload_n 1, 1) := by decide +kernel
theorem dX9_ofCloth_32 : decode cX9_ofCloth 32 = .ok (.aaload, 1) := by decide +kernel
theorem dX9_ofCloth_33 : decode cX9_ofCloth 33 = .ok (.astore_n 3, 1) := by decide +kernel
theorem dX9_ofCloth_34 : decode cX9_ofCloth 34 = .ok (.iload_n 2, 1) := by decide +kernel
theorem dX9_ofCloth_35 : decode cX9_ofCloth 35 = .ok (.tableswitch 104 0 7 #[45, 50, 55, 60, 65, 70, 79, 88], 45) := by decide +kernel
theorem dX9_ofCloth_80 : decode cX9_ofCloth 80 = .ok (.aload_n 3, 1) := by decide +kernel
theorem dX9_ofCloth_81 : decode cX9_ofCloth 81 = .ok (.getfield 115, 3) := by decide +kernel
theorem dX9_ofCloth_84 : decode cX9_ofCloth 84 = .ok (.ireturn, 1) := by decide +kernel
theorem dX9_ofCloth_85 : decode cX9_ofCloth 85 = .ok (.aload_n 3, 1) := by decide +kernel
theorem dX9_ofCloth_86 : decode cX9_ofCloth 86 = .ok (.getfield 118, 3) := by decide +kernel
theorem dX9_ofCloth_89 : decode cX9_ofCloth 89 = .ok (.ireturn, 1) := by decide +kernel
theorem dX9_ofCloth_90 : decode cX9_ofCloth 90 = .ok (.aload_n 3, 1) := by decide +kernel
theorem dX9_ofCloth_91 : decode cX9_ofCloth 91 = .ok (.getfield 121, 3) := by decide +kernel
theorem dX9_ofCloth_94 : decode cX9_ofCloth 94 = .ok (.ireturn, 1) := by decide +kernel
theorem dX9_ofCloth_95 : decode cX9_ofCloth 95 = .ok (.aload_n 3, 1) := by decide +kernel
theorem dX9_ofCloth_96 : decode cX9_ofCloth 96 = .ok (.getfield 124, 3) := by decide +kernel
theorem dX9_ofCloth_99 : decode cX9_ofCloth 99 = .ok (.ireturn, 1) := by decide +kernel
theorem dX9_ofCloth_100 : decode cX9_ofCloth 100 = .ok (.aload_n 3, 1) := by decide +kernel
theorem dX9_ofCloth_101 : decode cX9_ofCloth 101 = .ok (.getfield 127, 3) := by decide +kernel
theorem dX9_ofCloth_104 : decode cX9_ofCloth 104 = .ok (.ireturn, 1) := by decide +kernel
theorem dX9_ofCloth_105 : decode cX9_ofCloth 105 = .ok (.aload_n 0, 1) := by decide +kernel
theorem dX9_ofCloth_106 : decode cX9_ofCloth 106 = .ok (.iload_n 1, 1) := by decide +kernel
theorem dX9_ofCloth_107 : decode cX9_ofCloth 107 = .ok (.invokevirtual 130, 3) := by decide +kernel
theorem dX9_ofCloth_110 : decode cX9_ofCloth 110 = .ok (.getfield 134, 3) := by decide +kernel
theorem dX9_ofCloth_113 : decode cX9_ofCloth 113 = .ok (.ireturn, 1) := by decide +kernel
theorem dX9_ofCloth_114 : decode cX9_ofCloth 114 = .ok (.aload_n 0, 1) := by decide +kernel
theorem dX9_ofCloth_115 : decode cX9_ofCloth 115 = .ok (.iload_n 1, 1) := by decide +kernel
theorem dX9_ofCloth_116 : decode cX9_ofCloth 116 = .ok (.invokevirtual 130, 3) := by decide +kernel
theorem dX9_ofCloth_119 : decode cX9_ofCloth 119 = .ok (.getfield 137, 3) := by decide +kernel
theorem dX9_ofCloth_122 : decode cX9_ofCloth 122 = .ok (.ireturn, 1) := by decide +kernel
theorem dX9_ofCloth_123 : decode cX9_ofCloth 123 = .ok (.aload_n 0, 1) := by decide +kernel
theorem dX9_ofCloth_124 : decode cX9_ofCloth 124 = .ok (.iload_n 1, 1) := by decide +kernel
theorem dX9_ofCloth_125 : decode cX9_ofCloth 125 = .ok (.invokevirtual 130, 3) := by decide +kernel
theorem dX9_ofCloth_128 : decode cX9_ofCloth 128 = .ok (.aload_n 0, 1) := by decide +kernel
theorem dX9_ofCloth_129 : decode cX9_ofCloth 129 = .ok (.getfield 10, 3) := by decide +kernel
theorem dX9_ofCloth_132 : decode cX9_ofCloth 132 = .ok (.getfield 87, 3) := by decide +kernel
theorem dX9_ofCloth_135 : decode cX9_ofCloth 135 = .ok (.invokevirtual 140, 3) := by decide +kernel
theorem dX9_ofCloth_138 : decode cX9_ofCloth 138 = .ok (.ireturn, 1) := by decide +kernel
theorem dX9_ofCloth_139 : decode cX9_ofCloth 139 = .ok (.aload_n 0, 1) := by decide +kernel
theorem dX9_ofCloth_140 : decode cX9_ofCloth 140 = .ok (.iload_n 1, 1) := by decide +kernel
theorem dX9_ofCloth_141 : decode cX9_ofCloth 141 = .ok (.invokevirtual 130, 3) := by decide +kernel
theorem dX9_ofCloth_144 : decode cX9_ofCloth 144 = .ok (.aload_n 0, 1) := by decide +kernel
theorem dX9_ofCloth_145 : decode cX9_ofCloth 145 = .ok (.getfield 10, 3) := by decide +kernel
theorem dX9_ofCloth_148 : decode cX9_ofCloth 148 = .ok (.getfield 87, 3) := by decide +kernel
theorem dX9_ofCloth_151 : decode cX9_ofCloth 151 = .ok (.invokevirtual 144, 3) := by decide +kernel
theorem dX9_ofCloth_154 : decode cX9_ofCloth 154 = .ok (.ireturn, 1) := by decide +kernel
theorem dX9_change_0 : decode cX9_change 0 = .ok (.aload_n 0, 1) := by decide +kernel
theorem dX9_change_1 : decode cX9_change 1 = .ok (.iload_n 1, 1) := by decide +kernel
theorem dX9_change_2 : decode cX9_change 2 = .ok (.invokevirtual 112, 3) := by decide +kernel
theorem dX9_change_5 : decode cX9_change 5 = .ok (.ifCond .eq 32, 3) := by decide +kernel
theorem dX9_change_8 : decode cX9_change 8 = .ok (.iload_n 2, 1) := by decide +kernel
theorem dX9_change_9 : decode cX9_change 9 = .ok (.ifCond .lt 28, 3) := by decide +kernel
theorem dX9_change_12 : decode cX9_change 12 = .ok (.iload_n 2, 1) := by decide +kernel
theorem dX9_change_13 : decode cX9_change 13 = .ok (.iconst 2, 1) := by decide +kernel
theorem dX9_change_14 : decode cX9_change 14 = .ok (.if_icmp .gt 23, 3) := by decide +kernel
theorem dX9_change_17 : decode cX9_change 17 = .ok (.iload_n 3, 1) := by decide +kernel
theorem dX9_change_18 : decode cX9_change 18 = .ok (.ifCond .lt 19, 3) := by decide +kernel
theorem dX9_change_21 : decode cX9_change 21 = .ok (.iload_n 3, 1) := by decide +kernel
theorem dX9_change_22 : decode cX9_change 22 = .ok (.iload_n 2, 1) := by decide +kernel
theorem dX9_change_23 : decode cX9_change 23 = .ok (.ifCond .ne 8, 3) := by decide +kernel
theorem dX9_change_26 : decode cX9_change 26 = .ok (.bipush 9, 2) := by decide +kernel
theorem dX9_change_28 : decode cX9_change 28 = .ok (.goto 6, 3) := by decide +kernel
theorem dX9_change_31 : decode cX9_change 31 = .ok (.sipush 9999, 3) := by decide +kernel
theorem dX9_change_34 : decode cX9_change 34 = .ok (.if_icmp .le 9, 3) := by decide +kernel
theorem dX9_change_37 : decode cX9_change 37 = .ok (.aload_n 0, 1) := by decide +kernel
theorem dX9_change_38 : decode cX9_change 38 = .ok (.iconst 1, 1) := by decide +kernel
theorem dX9_change_39 : decode cX9_change 39 = .ok (.invokevirtual 84, 3) := by decide +kernel
theorem dX9_change_42 : decode cX9_change 42 = .ok (.ireturn, 1) := by decide +kernel
theorem dX9_change_43 : decode cX9_change 43 = .ok (.aload_n 0, 1) := by decide +kernel
theorem dX9_change_44 : decode cX9_change 44 = .ok (.getfield 10, 3) := by decide +kernel
theorem dX9_change_47 : decode cX9_change 47 = .ok (.getfield 36, 3) := by decide +kernel
theorem dX9_change_50 : decode cX9_change 50 = .ok (.iload_n 1, 1) := by decide +kernel
theorem dX9_change_51 : decode cX9_change 51 = .ok (.aaload, 1) := by decide +kernel
theorem dX9_change_52 : decode cX9_change 52 = .ok (.astore 4, 2) := by decide +kernel
theorem dX9_change_54 : decode cX9_change 54 = .ok (.iload_n 2, 1) := by decide +kernel
theorem dX9_change_55 : decode cX9_change 55 = .ok (.ifCond .ne 19, 3) := by decide +kernel
theorem dX9_change_58 : decode cX9_change 58 = .ok (.aload 4, 2) := by decide +kernel
theorem dX9_change_60 : decode cX9_change 60 = .ok (.getfield 121, 3) := by decide +kernel
theorem dX9_change_63 : decode cX9_change 63 = .ok (.istore 5, 2) := by decide +kernel
theorem dX9_change_65 : decode cX9_change 65 = .ok (.aload 4, 2) := by decide +kernel
theorem dX9_change_67 : decode cX9_change 67 = .ok (.iload_n 3, 1) := by decide +kernel
theorem dX9_change_68 : decode cX9_change 68 = .ok (.putfield 121, 3) := by decide +kernel
theorem dX9_change_71 : decode cX9_change 71 = .ok (.goto 37, 3) := by decide +kernel
theorem dX9_change_74 : decode cX9_change 74 = .ok (.iload_n 2, 1) := by decide +kernel
theorem dX9_change_75 : decode cX9_change 75 = .ok (.iconst 1, 1) := by decide +kernel
theorem dX9_change_76 : decode cX9_change 76 = .ok (.if_icmp .ne 19, 3) := by decide +kernel
theorem dX9_change_79 : decode cX9_change 79 = .ok (.aload 4, 2) := by decide +kernel
theorem dX9_change_81 : decode cX9_change 81 = .ok (.getfield 124, 3) := by decide +kernel
theorem dX9_change_84 : decode cX9_change 84 = .ok (.istore 5, 2) := by decide +kernel
theorem dX9_change_86 : decode cX9_change 86 = .ok (.aload 4, 2) := by decide +kernel
theorem dX9_change_88 : decode cX9_change 88 = .ok (.iload_n 3, 1) := by decide +kernel
theorem dX9_change_89 : decode cX9_change 89 = .ok (.putfield 124, 3) := by decide +kernel
theorem dX9_change_92 : decode cX9_change 92 = .ok (.goto 16, 3) := by decide +kernel
theorem dX9_change_95 : decode cX9_change 95 = .ok (.aload 4, 2) := by decide +kernel
theorem dX9_change_97 : decode cX9_change 97 = .ok (.getfield 127, 3) := by decide +kernel
theorem dX9_change_100 : decode cX9_change 100 = .ok (.istore 5, 2) := by decide +kernel
theorem dX9_change_102 : decode cX9_change 102 = .ok (.aload 4, 2) := by decide +kernel
theorem dX9_change_104 : decode cX9_change 104 = .ok (.iload_n 3, 1) := by decide +kernel
theorem dX9_change_105 : decode cX9_change 105 = .ok (.putfield 127, 3) := by decide +kernel
theorem dX9_change_108 : decode cX9_change 108 = .ok (.iload 5, 2) := by decide +kernel
theorem dX9_change_110 : decode cX9_change 110 = .ok (.ireturn, 1) := by decide +kernel
theorem dX9_become_0 : decode cX9_become 0 = .ok (.aload_n 0, 1) := by decide +kernel
theorem dX9_become_1 : decode cX9_become 1 = .ok (.iload_n 1, 1) := by decide +kernel
theorem dX9_become_2 : decode cX9_become 2 = .ok (.invokevirtual 112, 3) := by decide +kernel
theorem dX9_become_5 : decode cX9_become 5 = .ok (.ifCond .eq 10, 3) := by decide +kernel
theorem dX9_become_8 : decode cX9_become 8 = .ok (.iload_n 2, 1) := by decide +kernel
theorem dX9_become_9 : decode cX9_become 9 = .ok (.invokestatic 97, 3) := by decide +kernel
theorem dX9_become_12 : decode cX9_become 12 = .ok (.ifCond .ne 9, 3) := by decide +kernel
theorem dX9_become_15 : decode cX9_become 15 = .ok (.aload_n 0, 1) := by decide +kernel
theorem dX9_become_16 : decode cX9_become 16 = .ok (.iconst 1, 1) := by decide +kernel
theorem dX9_become_17 : decode cX9_become 17 = .ok (.invokevirtual 84, 3) := by decide +kernel
theorem dX9_become_20 : decode cX9_become 20 = .ok (.ireturn, 1) := by decide +kernel
theorem dX9_become_21 : decode cX9_become 21 = .ok (.aload_n 0, 1) := by decide +kernel
theorem dX9_become_22 : decode cX9_become 22 = .ok (.getfield 10, 3) := by decide +kernel
theorem dX9_become_25 : decode cX9_become 25 = .ok (.getfield 36, 3) := by decide +kernel
theorem dX9_become_28 : decode cX9_become 28 = .ok (.iload_n 1, 1) := by decide +kernel
theorem dX9_become_29 : decode cX9_become 29 = .ok (.aaload, 1) := by decide +kernel
theorem dX9_become_30 : decode cX9_become 30 = .ok (.getfield 115, 3) := by decide +kernel
theorem dX9_become_33 : decode cX9_become 33 = .ok (.istore_n 3, 1) := by decide +kernel
theorem dX9_become_34 : decode cX9_become 34 = .ok (.aload_n 0, 1) := by decide +kernel
theorem dX9_become_35 : decode cX9_become 35 = .ok (.getfield 10, 3) := by decide +kernel
theorem dX9_become_38 : decode cX9_become 38 = .ok (.getfield 36, 3) := by decide +kernel
theorem dX9_become_41 : decode cX9_become 41 = .ok (.iload_n 1, 1) := by decide +kernel
theorem dX9_become_42 : decode cX9_become 42 = .ok (.aaload, 1) := by decide +kernel
theorem dX9_become_43 : decode cX9_become 43 = .ok (.iload_n 2, 1) := by decide +kernel
theorem dX9_become_44 : decode cX9_become 44 = .ok (.invokevirtual 147, 3) := by decide +kernel
theorem dX9_become_47 : decode cX9_become 47 = .ok (.iload_n 3, 1) := by decide +kernel
theorem dX9_become_48 : decode cX9_become 48 = .ok (.ireturn, 1) := by decide +kernel
theorem dX9_as_0 : decode cX9_as 0 = .ok (.aload_n 0, 1) := by decide +kernel
theorem dX9_as_1 : decode cX9_as 1 = .ok (.iload_n 1, 1) := by decide +kernel
theorem dX9_as_2 : decode cX9_as 2 = .ok (.invokevirtual 112, 3) := by decide +kernel
theorem dX9_as_5 : decode cX9_as 5 = .ok (.ifCond .eq 13, 3) := by decide +kernel
theorem dX9_as_8 : decode cX9_as 8 = .ok (.iload_n 2, 1) := by decide +kernel
theorem dX9_as_9 : decode cX9_as 9 = .ok (.ifCond .lt 9, 3) := by decide +kernel
theorem dX9_as_12 : decode cX9_as 12 = .ok (.iload_n 2, 1) := by decide +kernel
theorem dX9_as_13 : decode cX9_as 13 = .ok (.bipush 7, 2) := by decide +kernel
theorem dX9_as_15 : decode cX9_as 15 = .ok (.if_icmp .lt 9, 3) := by decide +kernel
theorem dX9_as_18 : decode cX9_as 18 = .ok (.aload_n 0, 1) := by decide +kernel
theorem dX9_as_19 : decode cX9_as 19 = .ok (.iconst 1, 1) := by decide +kernel
theorem dX9_as_20 : decode cX9_as 20 = .ok (.invokevirtual 84, 3) := by decide +kernel
theorem dX9_as_23 : decode cX9_as 23 = .ok (.ireturn, 1) := by decide +kernel
theorem dX9_as_24 : decode cX9_as 24 = .ok (.aload_n 0, 1) := by decide +kernel
theorem dX9_as_25 : decode cX9_as 25 = .ok (.getfield 10, 3) := by decide +kernel
theorem dX9_as_28 : decode cX9_as 28 = .ok (.getfield 36, 3) := by decide +kernel
theorem dX9_as_31 : decode cX9_as 31 = .ok (.iload_n 1, 1) := by decide +kernel
theorem dX9_as_32 : decode cX9_as 32 = .ok (.aaload, 1) := by decide +kernel
theorem dX9_as_33 : decode cX9_as 33 = .ok (.iload_n 2, 1) := by decide +kernel
theorem dX9_as_34 : decode cX9_as 34 = .ok (.invokevirtual 151, 3) := by decide +kernel
theorem dX9_as_37 : decode cX9_as 37 = .ok (.ifCond .ne 9, 3) := by decide +kernel
theorem dX9_as_40 : decode cX9_as 40 = .ok (.aload_n 0, 1) := by decide +kernel
theorem dX9_as_41 : decode cX9_as 41 = .ok (.iconst 5, 1) := by decide +kernel
theorem dX9_as_42 : decode cX9_as 42 = .ok (.invokevirtual 84, 3) := by decide +kernel
theorem dX9_as_45 : decode cX9_as 45 = .ok (.ireturn, 1) := by decide +kernel
theorem dX9_as_46 : decode cX9_as 46 = .ok (.aload_n 0, 1) := by decide +kernel
theorem dX9_as_47 : decode cX9_as 47 = .ok (.getfield 10, 3) := by decide +kernel
theorem dX9_as_50 : decode cX9_as 50 = .ok (.getfield 36, 3) := by decide +kernel
theorem dX9_as_53 : decode cX9_as 53 = .ok (.iload_n 1, 1) := by decide +kernel
theorem dX9_as_54 : decode cX9_as 54 = .ok (.aaload, 1) := by decide +kernel
theorem dX9_as_55 : decode cX9_as 55 = .ok (.getfield 118, 3) := by decide +kernel
theorem dX9_as_58 : decode cX9_as 58 = .ok (.ireturn, 1) := by decide +kernel
theorem dX9_feed_0 : decode cX9_feed 0 = .ok (.iload_n 3, 1) := by decide +kernel
theorem dX9_feed_1 : decode cX9_feed 1 = .ok (.iconst 1, 1) := by decide +kernel
theorem dX9_feed_2 : decode cX9_feed 2 = .ok (.if_icmp .lt 9, 3) := by decide +kernel
theorem dX9_feed_5 : decode cX9_feed 5 = .ok (.iload_n 3, 1) := by decide +kernel
theorem dX9_feed_6 : decode cX9_feed 6 = .ok (.bipush 8, 2) := by decide +kernel
theorem dX9_feed_8 : decode cX9_feed 8 = .ok (.if_icmp .le 9, 3) := by decide +kernel
theorem dX9_feed_11 : decode cX9_feed 11 = .ok (.aload_n 0, 1) := by decide +kernel
theorem dX9_feed_12 : decode cX9_feed 12 = .ok (.iconst 1, 1) := by decide +kernel
theorem dX9_feed_13 : decode cX9_feed 13 = .ok (.invokevirtual 84, 3) := by decide +kernel
theorem dX9_feed_16 : decode cX9_feed 16 = .ok (.ireturn, 1) := by decide +kernel
theorem dX9_feed_17 : decode cX9_feed 17 = .ok (.aload_n 0, 1) := by decide +kernel
theorem dX9_feed_18 : decode cX9_feed 18 = .ok (.getfield 10, 3) := by decide +kernel
theorem dX9_feed_21 : decode cX9_feed 21 = .ok (.getfield 154, 3) := by decide +kernel
theorem dX9_feed_24 : decode cX9_feed 24 = .ok (.iload_n 3, 1) := by decide +kernel
theorem dX9_feed_25 : decode cX9_feed 25 = .ok (.iadd, 1) := by decide +kernel
theorem dX9_feed_26 : decode cX9_feed 26 = .ok (.bipush 50, 2) := by decide +kernel
theorem dX9_feed_28 : decode cX9_feed 28 = .ok (.if_icmp .le 9, 3) := by decide +kernel
theorem dX9_feed_31 : decode cX9_feed 31 = .ok (.aload_n 0, 1) := by decide +kernel
theorem dX9_feed_32 : decode cX9_feed 32 = .ok (.iconst 4, 1) := by decide +kernel
theorem dX9_feed_33 : decode cX9_feed 33 = .ok (.invokevirtual 84, 3) := by decide +kernel
theorem dX9_feed_36 : decode cX9_feed 36 = .ok (.ireturn, 1) := by decide +kernel
theorem dX9_feed_37 : decode cX9_feed 37 = .ok (.iconst 0, 1) := by decide +kernel
theorem dX9_feed_38 : decode cX9_feed 38 = .ok (.istore 4, 2) := by decide +kernel
theorem dX9_feed_40 : decode cX9_feed 40 = .ok (.iload 4, 2) := by decide +kernel
theorem dX9_feed_42 : decode cX9_feed 42 = .ok (.iload_n 3, 1) := by decide +kernel
theorem dX9_feed_43 : decode cX9_feed 43 = .ok (.if_icmp .ge 36, 3) := by decide +kernel
theorem dX9_feed_46 : decode cX9_feed 46 = .ok (.aload_n 0, 1) := by decide +kernel
theorem dX9_feed_47 : decode cX9_feed 47 = .ok (.getfield 10, 3) := by decide +kernel
theorem dX9_feed_50 : decode cX9_feed 50 = .ok (.getfield 157, 3) := by decide +kernel
theorem dX9_feed_53 : decode cX9_feed 53 = .ok (.aload_n 0, 1) := by decide +kernel
theorem dX9_feed_54 : decode cX9_feed 54 = .ok (.getfield 10, 3) := by decide +kernel
theorem dX9_feed_57 : decode cX9_feed 57 = .ok (.getfield 154, 3) := by decide +kernel
theorem dX9_feed_60 : decode cX9_feed 60 = .ok (.iload 4, 2) := by decide +kernel
theorem dX9_feed_62 : decode cX9_feed 62 = .ok (.iadd, 1) := by decide +kernel
theorem dX9_feed_63 : decode cX9_feed 63 = .ok (.lload_n 1, 1) := by decide +kernel
theorem dX9_feed_64 : decode cX9_feed 64 = .ok (.bipush 8, 2) := by decide +kernel
theorem dX9_feed_66 : decode cX9_feed 66 = .ok (.iload 4, 2) := by decide +kernel
theorem dX9_feed_68 : decode cX9_feed 68 = .ok (.imul, 1) := by decide +kernel
theorem dX9_feed_69 : decode cX9_feed 69 = .ok (.lushr, 1) := by decide +kernel
theorem dX9_feed_70 : decode cX9_feed 70 = .ok (.l2i, 1) := by decide +kernel
theorem dX9_feed_71 : decode cX9_feed 71 = .ok (.i2b, 1) := by decide +kernel
theorem dX9_feed_72 : decode cX9_feed 72 = .ok (.bastore, 1) := by decide +kernel
theorem dX9_feed_73 : decode cX9_feed 73 = .ok (.iinc 4 1, 3) := by decide +kernel
theorem dX9_feed_76 : decode cX9_feed 76 = .ok (.goto (-36), 3) := by decide +kernel
theorem dX9_feed_79 : decode cX9_feed 79 = .ok (.aload_n 0, 1) := by decide +kernel
theorem dX9_feed_80 : decode cX9_feed 80 = .ok (.getfield 10, 3) := by decide +kernel
theorem dX9_feed_83 : decode cX9_feed 83 = .ok (.dup, 1) := by decide +kernel
theorem dX9_feed_84 : decode cX9_feed 84 = .ok (.getfield 154, 3) := by decide +kernel
theorem dX9_feed_87 : decode cX9_feed 87 = .ok (.iload_n 3, 1) := by decide +kernel
theorem dX9_feed_88 : decode cX9_feed 88 = .ok (.iadd, 1) := by decide +kernel
theorem dX9_feed_89 : decode cX9_feed 89 = .ok (.putfield 154, 3) := by decide +kernel
theorem dX9_feed_92 : decode cX9_feed 92 = .ok (.aload_n 0, 1) := by decide +kernel
theorem dX9_feed_93 : decode cX9_feed 93 = .ok (.getfield 10, 3) := by decide +kernel
theorem dX9_feed_96 : decode cX9_feed 96 = .ok (.getfield 154, 3) := by decide +kernel
theorem dX9_feed_99 : decode cX9_feed 99 = .ok (.ireturn, 1) := by decide +kernel
theorem dX9_text_0 : decode cX9_text 0 = .ok (.iload_n 1, 1) := by decide +kernel
theorem dX9_text_1 : decode cX9_text 1 = .ok (.invokestatic 161, 3) := by decide +kernel
theorem dX9_text_4 : decode cX9_text 4 = .ok (.ifCond .ne 9, 3) := by decide +kernel
theorem dX9_text_7 : decode cX9_text 7 = .ok (.aload_n 0, 1) := by decide +kernel
theorem dX9_text_8 : decode cX9_text 8 = .ok (.iconst 1, 1) := by decide +kernel
theorem dX9_text_9 : decode cX9_text 9 = .ok (.invokevirtual 84, 3) := by decide +kernel
theorem dX9_text_12 : decode cX9_text 12 = .ok (.ireturn, 1) := by decide +kernel
theorem dX9_text_13 : decode cX9_text 13 = .ok (.aload_n 0, 1) := by decide +kernel
theorem dX9_text_14 : decode cX9_text 14 = .ok (.getfield 59, 3) := by decide +kernel
theorem dX9_text_17 : decode cX9_text 17 = .ok (.aload_n 0, 1) := by decide +kernel
theorem dX9_text_18 : decode cX9_text 18 = .ok (.getfield 10, 3) := by decide +kernel
theorem dX9_text_21 : decode cX9_text 21 = .ok (.getfield 157, 3) := by decide +kernel
theorem dX9_text_24 : decode cX9_text 24 = .ok (.aload_n 0, 1) := by decide +kernel
theorem dX9_text_25 : decode cX9_text 25 = .ok (.getfield 10, 3) := by decide +kernel
theorem dX9_text_28 : decode cX9_text 28 = .ok (.getfield 154, 3) := by decide +kernel
theorem dX9_text_31 : decode cX9_text 31 = .ok (.iload_n 1, 1) := by decide +kernel
theorem dX9_text_32 : decode cX9_text 32 = .ok (.ifCond .ne 8, 3) := by decide +kernel
theorem dX9_text_35 : decode cX9_text 35 = .ok (.ldc 164, 2) := by decide +kernel
theorem dX9_text_37 : decode cX9_text 37 = .ok (.goto 5, 3) := by decide +kernel
theorem dX9_text_40 : decode cX9_text 40 = .ok (.ldc 166, 2) := by decide +kernel
theorem dX9_text_42 : decode cX9_text 42 = .ok (.invokevirtual 168, 3) := by decide +kernel
theorem dX9_text_45 : decode cX9_text 45 = .ok (.istore_n 2, 1) := by decide +kernel
theorem dX9_text_46 : decode cX9_text 46 = .ok (.aload_n 0, 1) := by decide +kernel
theorem dX9_text_47 : decode cX9_text 47 = .ok (.getfield 10, 3) := by decide +kernel
theorem dX9_text_50 : decode cX9_text 50 = .ok (.iconst 0, 1) := by decide +kernel
theorem dX9_text_51 : decode cX9_text 51 = .ok (.putfield 154, 3) := by decide +kernel
theorem dX9_text_54 : decode cX9_text 54 = .ok (.iload_n 2, 1) := by decide +kernel
theorem dX9_text_55 : decode cX9_text 55 = .ok (.ifCond .ne 14, 3) := by decide +kernel
theorem dX9_text_58 : decode cX9_text 58 = .ok (.bipush (-10), 2) := by decide +kernel
theorem dX9_text_60 : decode cX9_text 60 = .ok (.aload_n 0, 1) := by decide +kernel
theorem dX9_text_61 : decode cX9_text 61 = .ok (.getfield 59, 3) := by decide +kernel
theorem dX9_text_64 : decode cX9_text 64 = .ok (.getfield 172, 3) := by decide +kernel
theorem dX9_text_67 : decode cX9_text 67 = .ok (.isub, 1) := by decide +kernel
theorem dX9_text_68 : decode cX9_text 68 = .ok (.ireturn, 1) := by decide +kernel
theorem dX9_text_69 : decode cX9_text 69 = .ok (.aload_n 0, 1) := by decide +kernel
theorem dX9_text_70 : decode cX9_text 70 = .ok (.getfield 10, 3) := by decide +kernel
theorem dX9_text_73 : decode cX9_text 73 = .ok (.getfield 175, 3) := by decide +kernel
theorem dX9_text_76 : decode cX9_text 76 = .ok (.iload_n 1, 1) := by decide +kernel
theorem dX9_text_77 : decode cX9_text 77 = .ok (.aaload, 1) := by decide +kernel
theorem dX9_text_78 : decode cX9_text 78 = .ok (.aload_n 0, 1) := by decide +kernel
theorem dX9_text_79 : decode cX9_text 79 = .ok (.getfield 59, 3) := by decide +kernel
theorem dX9_text_82 : decode cX9_text 82 = .ok (.getfield 179, 3) := by decide +kernel
theorem dX9_text_85 : decode cX9_text 85 = .ok (.aload_n 0, 1) := by decide +kernel
theorem dX9_text_86 : decode cX9_text 86 = .ok (.getfield 59, 3) := by decide +kernel
theorem dX9_text_89 : decode cX9_text 89 = .ok (.getfield 182, 3) := by decide +kernel
theorem dX9_text_92 : decode cX9_text 92 = .ok (.invokevirtual 185, 3) := by decide +kernel
theorem dX9_text_95 : decode cX9_text 95 = .ok (.iconst 1, 1) := by decide +kernel
theorem dX9_text_96 : decode cX9_text 96 = .ok (.ireturn, 1) := by decide +kernel
theorem dX9_law_0 : decode cX9_law 0 = .ok (.iload_n 1, 1) := by decide +kernel
theorem dX9_law_1 : decode cX9_law 1 = .ok (.invokestatic 161, 3) := by decide +kernel
theorem dX9_law_4 : decode cX9_law 4 = .ok (.ifCond .ne 9, 3) := by decide +kernel
theorem dX9_law_7 : decode cX9_law 7 = .ok (.aload_n 0, 1) := by decide +kernel
theorem dX9_law_8 : decode cX9_law 8 = .ok (.iconst 1, 1) := by decide +kernel
theorem dX9_law_9 : decode cX9_law 9 = .ok (.invokevirtual 84, 3) := by decide +kernel
theorem dX9_law_12 : decode cX9_law 12 = .ok (.ireturn, 1) := by decide +kernel
theorem dX9_law_13 : decode cX9_law 13 = .ok (.aload_n 0, 1) := by decide +kernel
theorem dX9_law_14 : decode cX9_law 14 = .ok (.getfield 10, 3) := by decide +kernel
theorem dX9_law_17 : decode cX9_law 17 = .ok (.iload_n 1, 1) := by decide +kernel
theorem dX9_law_18 : decode cX9_law 18 = .ok (.iload_n 2, 1) := by decide +kernel
theorem dX9_law_19 : decode cX9_law 19 = .ok (.iload_n 3, 1) := by decide +kernel
theorem dX9_law_20 : decode cX9_law 20 = .ok (.iload 4, 2) := by decide +kernel
theorem dX9_law_22 : decode cX9_law 22 = .ok (.invokevirtual 191, 3) := by decide +kernel
theorem dX9_law_25 : decode cX9_law 25 = .ok (.ireturn, 1) := by decide +kernel
theorem dX9_sew_0 : decode cX9_sew 0 = .ok (.aload_n 0, 1) := by decide +kernel
theorem dX9_sew_1 : decode cX9_sew 1 = .ok (.iload_n 1, 1) := by decide +kernel
theorem dX9_sew_2 : decode cX9_sew 2 = .ok (.invokevirtual 112, 3) := by decide +kernel
theorem dX9_sew_5 : decode cX9_sew 5 = .ok (.ifCond .eq 15, 3) := by decide +kernel
theorem dX9_sew_8 : decode cX9_sew 8 = .ok (.iload_n 2, 1) := by decide +kernel
theorem dX9_sew_9 : decode cX9_sew 9 = .ok (.iconst 1, 1) := by decide +kernel
theorem dX9_sew_10 : decode cX9_sew 10 = .ok (.if_icmp .lt 10, 3) := by decide +kernel
theorem dX9_sew_13 : decode cX9_sew 13 = .ok (.iload_n 2, 1) := by decide +kernel
theorem dX9_sew_14 : decode cX9_sew 14 = .ok (.sipush 200, 3) := by decide +kernel
theorem dX9_sew_17 : decode cX9_sew 17 = .ok (.if_icmp .le 9, 3) := by decide +kernel
theorem dX9_sew_20 : decode cX9_sew 20 = .ok (.aload_n 0, 1) := by decide +kernel
theorem dX9_sew_21 : decode cX9_sew 21 = .ok (.iconst 1, 1) := by decide +kernel
theorem dX9_sew_22 : decode cX9_sew 22 = .ok (.invokevirtual 84, 3) := by decide +kernel
theorem dX9_sew_25 : decode cX9_sew 25 = .ok (.ireturn, 1) := by decide +kernel
theorem dX9_sew_26 : decode cX9_sew 26 = .ok (.aload_n 0, 1) := by decide +kernel
theorem dX9_sew_27 : decode cX9_sew 27 = .ok (.getfield 10, 3) := by decide +kernel
theorem dX9_sew_30 : decode cX9_sew 30 = .ok (.getfield 195, 3) := by decide +kernel
theorem dX9_sew_33 : decode cX9_sew 33 = .ok (.iload_n 2, 1) := by decide +kernel
theorem dX9_sew_34 : decode cX9_sew 34 = .ok (.aload_n 0, 1) := by decide +kernel
theorem dX9_sew_35 : decode cX9_sew 35 = .ok (.getfield 10, 3) := by decide +kernel
theorem dX9_sew_38 : decode cX9_sew 38 = .ok (.getfield 87, 3) := by decide +kernel
theorem dX9_sew_41 : decode cX9_sew 41 = .ok (.invokevirtual 198, 3) := by decide +kernel
theorem dX9_sew_44 : decode cX9_sew 44 = .ok (.imul, 1) := by decide +kernel
theorem dX9_sew_45 : decode cX9_sew 45 = .ok (.iadd, 1) := by decide +kernel
theorem dX9_sew_46 : decode cX9_sew 46 = .ok (.ldc 202, 2) := by decide +kernel
theorem dX9_sew_48 : decode cX9_sew 48 = .ok (.if_icmp .le 9, 3) := by decide +kernel
theorem dX9_sew_51 : decode cX9_sew 51 = .ok (.aload_n 0, 1) := by decide +kernel
theorem dX9_sew_52 : decode cX9_sew 52 = .ok (.iconst 3, 1) := by decide +kernel
theorem dX9_sew_53 : decode cX9_sew 53 = .ok (.invokevirtual 84, 3) := by decide +kernel
theorem dX9_sew_56 : decode cX9_sew 56 = .ok (.ireturn, 1) := by decide +kernel
theorem dX9_sew_57 : decode cX9_sew 57 = .ok (.aload_n 0, 1) := by decide +kernel
theorem dX9_sew_58 : decode cX9_sew 58 = .ok (.iload_n 1, 1) := by decide +kernel
theorem dX9_sew_59 : decode cX9_sew 59 = .ok (.invokevirtual 130, 3) := by decide +kernel
theorem dX9_sew_62 : decode cX9_sew 62 = .ok (.astore_n 3, 1) := by decide +kernel
theorem dX9_sew_63 : decode cX9_sew 63 = .ok (.iconst 0, 1) := by decide +kernel
theorem dX9_sew_64 : decode cX9_sew 64 = .ok (.istore 4, 2) := by decide +kernel
theorem dX9_sew_66 : decode cX9_sew 66 = .ok (.iconst 0, 1) := by decide +kernel
theorem dX9_sew_67 : decode cX9_sew 67 = .ok (.istore 5, 2) := by decide +kernel
theorem dX9_sew_69 : decode cX9_sew 69 = .ok (.iload 5, 2) := by decide +kernel
theorem dX9_sew_71 : decode cX9_sew 71 = .ok (.iload_n 2, 1) := by decide +kernel
theorem dX9_sew_72 : decode cX9_sew 72 = .ok (.if_icmp .ge 22, 3) := by decide +kernel
theorem dX9_sew_75 : decode cX9_sew 75 = .ok (.iload 4, 2) := by decide +kernel
theorem dX9_sew_77 : decode cX9_sew 77 = .ok (.aload_n 0, 1) := by decide +kernel
theorem dX9_sew_78 : decode cX9_sew 78 = .ok (.getfield 10, 3) := by decide +kernel
theorem dX9_sew_81 : decode cX9_sew 81 = .ok (.aload_n 3, 1) := by decide +kernel
theorem dX9_sew_82 : decode cX9_sew 82 = .ok (.invokevirtual 203, 3) := by decide +kernel
theorem dX9_sew_85 : decode cX9_sew 85 = .ok (.iadd, 1) := by decide +kernel
theorem dX9_sew_86 : decode cX9_sew 86 = .ok (.istore 4, 2) := by decide +kernel
theorem dX9_sew_88 : decode cX9_sew 88 = .ok (.iinc 5 1, 3) := by decide +kernel
theorem dX9_sew_91 : decode cX9_sew 91 = .ok (.goto (-22), 3) := by decide +kernel
theorem dX9_sew_94 : decode cX9_sew 94 = .ok (.iload 4, 2) := by decide +kernel
theorem dX9_sew_96 : decode cX9_sew 96 = .ok (.ireturn, 1) := by decide +kernel
theorem dX9_deed_0 : decode cX9_deed 0 = .ok (.iload_n 1, 1) := by decide +kernel
theorem dX9_deed_1 : decode cX9_deed 1 = .ok (.ifCond .lt 9, 3) := by decide +kernel
theorem dX9_deed_4 : decode cX9_deed 4 = .ok (.iload_n 1, 1) := by decide +kernel
theorem dX9_deed_5 : decode cX9_deed 5 = .ok (.bipush 7, 2) := by decide +kernel
theorem dX9_deed_7 : decode cX9_deed 7 = .ok (.if_icmp .lt 9, 3) := by decide +kernel
theorem dX9_deed_10 : decode cX9_deed 10 = .ok (.aload_n 0, 1) := by decide +kernel
theorem dX9_deed_11 : decode cX9_deed 11 = .ok (.iconst 1, 1) := by decide +kernel
theorem dX9_deed_12 : decode cX9_deed 12 = .ok (.invokevirtual 84, 3) := by decide +kernel
theorem dX9_deed_15 : decode cX9_deed 15 = .ok (.ireturn, 1) := by decide +kernel
theorem dX9_deed_16 : decode cX9_deed 16 = .ok (.aload_n 0, 1) := by decide +kernel
theorem dX9_deed_17 : decode cX9_deed 17 = .ok (.getfield 10, 3) := by decide +kernel
theorem dX9_deed_20 : decode cX9_deed 20 = .ok (.getfield 87, 3) := by decide +kernel
theorem dX9_deed_23 : decode cX9_deed 23 = .ok (.iload_n 1, 1) := by decide +kernel
theorem dX9_deed_24 : decode cX9_deed 24 = .ok (.invokevirtual 207, 3) := by decide +kernel
theorem dX9_deed_27 : decode cX9_deed 27 = .ok (.ifCond .eq 21, 3) := by decide +kernel
theorem dX9_deed_30 : decode cX9_deed 30 = .ok (.aload_n 0, 1) := by decide +kernel
theorem dX9_deed_31 : decode cX9_deed 31 = .ok (.getfield 10, 3) := by decide +kernel
theorem dX9_deed_34 : decode cX9_deed 34 = .ok (.getfield 195, 3) := by decide +kernel
theorem dX9_deed_37 : decode cX9_deed 37 = .ok (.getstatic 210, 3) := by decide +kernel
theorem dX9_deed_40 : decode cX9_deed 40 = .ok (.iload_n 1, 1) := by decide +kernel
theorem dX9_deed_41 : decode cX9_deed 41 = .ok (.iaload, 1) := by decide +kernel
theorem dX9_deed_42 : decode cX9_deed 42 = .ok (.iadd, 1) := by decide +kernel
theorem dX9_deed_43 : decode cX9_deed 43 = .ok (.ldc 202, 2) := by decide +kernel
theorem dX9_deed_45 : decode cX9_deed 45 = .ok (.if_icmp .le 9, 3) := by decide +kernel
theorem dX9_deed_48 : decode cX9_deed 48 = .ok (.aload_n 0, 1) := by decide +kernel
theorem dX9_deed_49 : decode cX9_deed 49 = .ok (.iconst 3, 1) := by decide +kernel
theorem dX9_deed_50 : decode cX9_deed 50 = .ok (.invokevirtual 84, 3) := by decide +kernel
theorem dX9_deed_53 : decode cX9_deed 53 = .ok (.ireturn, 1) := by decide +kernel
theorem dX9_deed_54 : decode cX9_deed 54 = .ok (.aload_n 0, 1) := by decide +kernel
theorem dX9_deed_55 : decode cX9_deed 55 = .ok (.getfield 10, 3) := by decide +kernel
theorem dX9_deed_58 : decode cX9_deed 58 = .ok (.iload_n 1, 1) := by decide +kernel
theorem dX9_deed_59 : decode cX9_deed 59 = .ok (.invokevirtual 213, 3) := by decide +kernel
theorem dX9_deed_62 : decode cX9_deed 62 = .ok (.aload_n 0, 1) := by decide +kernel
theorem dX9_deed_63 : decode cX9_deed 63 = .ok (.getfield 10, 3) := by decide +kernel
theorem dX9_deed_66 : decode cX9_deed 66 = .ok (.getfield 195, 3) := by decide +kernel
theorem dX9_deed_69 : decode cX9_deed 69 = .ok (.ireturn, 1) := by decide +kernel
theorem dX9_loose_0 : decode cX9_loose 0 = .ok (.iload_n 1, 1) := by decide +kernel
theorem dX9_loose_1 : decode cX9_loose 1 = .ok (.iconst 1, 1) := by decide +kernel
theorem dX9_loose_2 : decode cX9_loose 2 = .ok (.if_icmp .lt 9, 3) := by decide +kernel
theorem dX9_loose_5 : decode cX9_loose 5 = .ok (.iload_n 1, 1) := by decide +kernel
theorem dX9_loose_6 : decode cX9_loose 6 = .ok (.bipush 40, 2) := by decide +kernel
theorem dX9_loose_8 : decode cX9_loose 8 = .ok (.if_icmp .le 9, 3) := by decide +kernel
theorem dX9_loose_11 : decode cX9_loose 11 = .ok (.aload_n 0, 1) := by decide +kernel
theorem dX9_loose_12 : decode cX9_loose 12 = .ok (.iconst 1, 1) := by decide +kernel
theorem dX9_loose_13 : decode cX9_loose 13 = .ok (.invokevirtual 84, 3) := by decide +kernel
theorem dX9_loose_16 : decode cX9_loose 16 = .ok (.ireturn, 1) := by decide +kernel
theorem dX9_loose_17 : decode cX9_loose 17 = .ok (.aload_n 0, 1) := by decide +kernel
theorem dX9_loose_18 : decode cX9_loose 18 = .ok (.getfield 10, 3) := by decide +kernel
theorem dX9_loose_21 : decode cX9_loose 21 = .ok (.getfield 195, 3) := by decide +kernel
theorem dX9_loose_24 : decode cX9_loose 24 = .ok (.bipush 30, 2) := by decide +kernel
theorem dX9_loose_26 : decode cX9_loose 26 = .ok (.iload_n 1, 1) := by decide +kernel
theorem dX9_loose_27 : decode cX9_loose 27 = .ok (.imul, 1) := by decide +kernel
theorem dX9_loose_28 : decode cX9_loose 28 = .ok (.iadd, 1) := by decide +kernel
theorem dX9_loose_29 : decode cX9_loose 29 = .ok (.ldc 202, 2) := by decide +kernel
theorem dX9_loose_31 : decode cX9_loose 31 = .ok (.if_icmp .le 9, 3) := by decide +kernel
theorem dX9_loose_34 : decode cX9_loose 34 = .ok (.aload_n 0, 1) := by decide +kernel
theorem dX9_loose_35 : decode cX9_loose 35 = .ok (.iconst 3, 1) := by decide +kernel
theorem dX9_loose_36 : decode cX9_loose 36 = .ok (.invokevirtual 84, 3) := by decide +kernel
theorem dX9_loose_39 : decode cX9_loose 39 = .ok (.ireturn, 1) := by decide +kernel
theorem dX9_loose_40 : decode cX9_loose 40 = .ok (.aload_n 0, 1) := by decide +kernel
theorem dX9_loose_41 : decode cX9_loose 41 = .ok (.invokevirtual 216, 3) := by decide +kernel
theorem dX9_loose_44 : decode cX9_loose 44 = .ok (.iconst 0, 1) := by decide +kernel
theorem dX9_loose_45 : decode cX9_loose 45 = .ok (.istore_n 2, 1) := by decide +kernel
theorem dX9_loose_46 : decode cX9_loose 46 = .ok (.iconst 0, 1) := by decide +kernel
theorem dX9_loose_47 : decode cX9_loose 47 = .ok (.istore_n 3, 1) := by decide +kernel
theorem dX9_loose_48 : decode cX9_loose 48 = .ok (.iload_n 3, 1) := by decide +kernel
theorem dX9_loose_49 : decode cX9_loose 49 = .ok (.iload_n 1, 1) := by decide +kernel
theorem dX9_loose_50 : decode cX9_loose 50 = .ok (.if_icmp .ge 16, 3) := by decide +kernel
theorem dX9_loose_53 : decode cX9_loose 53 = .ok (.iload_n 2, 1) := by decide +kernel
theorem dX9_loose_54 : decode cX9_loose 54 = .ok (.aload_n 0, 1) := by decide +kernel
theorem dX9_loose_55 : decode cX9_loose 55 = .ok (.invokevirtual 219, 3) := by decide +kernel
theorem dX9_loose_58 : decode cX9_loose 58 = .ok (.iadd, 1) := by decide +kernel
theorem dX9_loose_59 : decode cX9_loose 59 = .ok (.istore_n 2, 1) := by decide +kernel
theorem dX9_loose_60 : decode cX9_loose 60 = .ok (.iinc 3 1, 3) := by decide +kernel
theorem dX9_loose_63 : decode cX9_loose 63 = .ok (.goto (-15), 3) := by decide +kernel
theorem dX9_loose_66 : decode cX9_loose 66 = .ok (.iload_n 2, 1) := by decide +kernel
theorem dX9_loose_67 : decode cX9_loose 67 = .ok (.ireturn, 1) := by decide +kernel
theorem dX9_after_0 : decode cX9_after 0 = .ok (.aload_n 0, 1) := by decide +kernel
theorem dX9_after_1 : decode cX9_after 1 = .ok (.iload_n 1, 1) := by decide +kernel
theorem dX9_after_2 : decode cX9_after 2 = .ok (.invokevirtual 112, 3) := by decide +kernel
theorem dX9_after_5 : decode cX9_after 5 = .ok (.ifCond .eq 14, 3) := by decide +kernel
theorem dX9_after_8 : decode cX9_after 8 = .ok (.iload_n 2, 1) := by decide +kernel
theorem dX9_after_9 : decode cX9_after 9 = .ok (.ifCond .lt 10, 3) := by decide +kernel
theorem dX9_after_12 : decode cX9_after 12 = .ok (.iload_n 2, 1) := by decide +kernel
theorem dX9_after_13 : decode cX9_after 13 = .ok (.sipush 200, 3) := by decide +kernel
theorem dX9_after_16 : decode cX9_after 16 = .ok (.if_icmp .le 9, 3) := by decide +kernel
theorem dX9_after_19 : decode cX9_after 19 = .ok (.aload_n 0, 1) := by decide +kernel
theorem dX9_after_20 : decode cX9_after 20 = .ok (.iconst 1, 1) := by decide +kernel
theorem dX9_after_21 : decode cX9_after 21 = .ok (.invokevirtual 84, 3) := by decide +kernel
theorem dX9_after_24 : decode cX9_after 24 = .ok (.ireturn, 1) := by decide +kernel
theorem dX9_after_25 : decode cX9_after 25 = .ok (.aload_n 0, 1) := by decide +kernel
theorem dX9_after_26 : decode cX9_after 26 = .ok (.getfield 26, 3) := by decide +kernel
theorem dX9_after_29 : decode cX9_after 29 = .ok (.aload_n 0, 1) := by decide +kernel
theorem dX9_after_30 : decode cX9_after 30 = .ok (.getfield 10, 3) := by decide +kernel
theorem dX9_after_33 : decode cX9_after 33 = .ok (.getfield 87, 3) := by decide +kernel
theorem dX9_after_36 : decode cX9_after 36 = .ok (.invokevirtual 222, 3) := by decide +kernel
theorem dX9_after_39 : decode cX9_after 39 = .ok (.aload_n 0, 1) := by decide +kernel
theorem dX9_after_40 : decode cX9_after 40 = .ok (.getfield 26, 3) := by decide +kernel
theorem dX9_after_43 : decode cX9_after 43 = .ok (.iload_n 2, 1) := by decide +kernel
theorem dX9_after_44 : decode cX9_after 44 = .ok (.aload_n 0, 1) := by decide +kernel
theorem dX9_after_45 : decode cX9_after 45 = .ok (.getfield 10, 3) := by decide +kernel
theorem dX9_after_48 : decode cX9_after 48 = .ok (.getfield 36, 3) := by decide +kernel
theorem dX9_after_51 : decode cX9_after 51 = .ok (.iload_n 1, 1) := by decide +kernel
theorem dX9_after_52 : decode cX9_after 52 = .ok (.aaload, 1) := by decide +kernel
theorem dX9_after_53 : decode cX9_after 53 = .ok (.invokevirtual 226, 3) := by decide +kernel
theorem dX9_after_56 : decode cX9_after 56 = .ok (.imul, 1) := by decide +kernel
theorem dX9_after_57 : decode cX9_after 57 = .ok (.invokevirtual 229, 3) := by decide +kernel
theorem dX9_after_60 : decode cX9_after 60 = .ok (.aload_n 0, 1) := by decide +kernel
theorem dX9_after_61 : decode cX9_after 61 = .ok (.iload_n 1, 1) := by decide +kernel
theorem dX9_after_62 : decode cX9_after 62 = .ok (.invokevirtual 130, 3) := by decide +kernel
theorem dX9_after_65 : decode cX9_after 65 = .ok (.aload_n 0, 1) := by decide +kernel
theorem dX9_after_66 : decode cX9_after 66 = .ok (.getfield 26, 3) := by decide +kernel
theorem dX9_after_69 : decode cX9_after 69 = .ok (.invokevirtual 144, 3) := by decide +kernel
theorem dX9_after_72 : decode cX9_after 72 = .ok (.ireturn, 1) := by decide +kernel
theorem dX9_until_0 : decode cX9_until 0 = .ok (.aload_n 0, 1) := by decide +kernel
theorem dX9_until_1 : decode cX9_until 1 = .ok (.iload_n 1, 1) := by decide +kernel
theorem dX9_until_2 : decode cX9_until 2 = .ok (.invokevirtual 112, 3) := by decide +kernel
theorem dX9_until_5 : decode cX9_until 5 = .ok (.ifCond .ne 9, 3) := by decide +kernel
theorem dX9_until_8 : decode cX9_until 8 = .ok (.aload_n 0, 1) := by decide +kernel
theorem dX9_until_9 : decode cX9_until 9 = .ok (.iconst 1, 1) := by decide +kernel
theorem dX9_until_10 : decode cX9_until 10 = .ok (.invokevirtual 84, 3) := by decide +kernel
theorem dX9_until_13 : decode cX9_until 13 = .ok (.ireturn, 1) := by decide +kernel
theorem dX9_until_14 : decode cX9_until 14 = .ok (.aload_n 0, 1) := by decide +kernel
theorem dX9_until_15 : decode cX9_until 15 = .ok (.iload_n 1, 1) := by decide +kernel
theorem dX9_until_16 : decode cX9_until 16 = .ok (.invokevirtual 130, 3) := by decide +kernel
theorem dX9_until_19 : decode cX9_until 19 = .ok (.astore_n 2, 1) := by decide +kernel
theorem dX9_until_20 : decode cX9_until 20 = .ok (.aload_n 0, 1) := by decide +kernel
theorem dX9_until_21 : decode cX9_until 21 = .ok (.getfield 10, 3) := by decide +kernel
theorem dX9_until_24 : decode cX9_until 24 = .ok (.getfield 36, 3) := by decide +kernel
theorem dX9_until_27 : decode cX9_until 27 = .ok (.iload_n 1, 1) := by decide +kernel
theorem dX9_until_28 : decode cX9_until 28 = .ok (.aaload, 1) := by decide +kernel
theorem dX9_until_29 : decode cX9_until 29 = .ok (.invokevirtual 226, 3) := by decide +kernel
theorem dX9_until_32 : decode cX9_until 32 = .ok (.istore_n 3, 1) := by decide +kernel
theorem dX9_until_33 : decode cX9_until 33 = .ok (.aload_n 0, 1) := by decide +kernel
theorem dX9_until_34 : decode cX9_until 34 = .ok (.getfield 26, 3) := by decide +kernel
theorem dX9_until_37 : decode cX9_until 37 = .ok (.aload_n 0, 1) := by decide +kernel
theorem dX9_until_38 : decode cX9_until 38 = .ok (.getfield 10, 3) := by decide +kernel
theorem dX9_until_41 : decode cX9_until 41 = .ok (.getfield 87, 3) := by decide +kernel
theorem dX9_until_44 : decode cX9_until 44 = .ok (.invokevirtual 222, 3) := by decide +kernel
theorem dX9_until_47 : decode cX9_until 47 = .ok (.aload_n 2, 1) := by decide +kernel
theorem dX9_until_48 : decode cX9_until 48 = .ok (.aload_n 0, 1) := by decide +kernel
theorem dX9_until_49 : decode cX9_until 49 = .ok (.getfield 26, 3) := by decide +kernel
theorem dX9_until_52 : decode cX9_until 52 = .ok (.invokevirtual 144, 3) := by decide +kernel
theorem dX9_until_55 : decode cX9_until 55 = .ok (.istore 4, 2) := by decide +kernel
theorem dX9_until_57 : decode cX9_until 57 = .ok (.iconst 1, 1) := by decide +kernel
theorem dX9_until_58 : decode cX9_until 58 = .ok (.istore 5, 2) := by decide +kernel
theorem dX9_until_60 : decode cX9_until 60 = .ok (.iload 5, 2) := by decide +kernel
theorem dX9_until_62 : decode cX9_until 62 = .ok (.sipush 200, 3) := by decide +kernel
theorem dX9_until_65 : decode cX9_until 65 = .ok (.if_icmp .gt 33, 3) := by decide +kernel
theorem dX9_until_68 : decode cX9_until 68 = .ok (.aload_n 0, 1) := by decide +kernel
theorem dX9_until_69 : decode cX9_until 69 = .ok (.getfield 26, 3) := by decide +kernel
theorem dX9_until_72 : decode cX9_until 72 = .ok (.iload_n 3, 1) := by decide +kernel
theorem dX9_until_73 : decode cX9_until 73 = .ok (.invokevirtual 229, 3) := by decide +kernel
theorem dX9_until_76 : decode cX9_until 76 = .ok (.aload_n 2, 1) := by decide +kernel
theorem dX9_until_77 : decode cX9_until 77 = .ok (.aload_n 0, 1) := by decide +kernel
theorem dX9_until_78 : decode cX9_until 78 = .ok (.getfield 26, 3) := by decide +kernel
theorem dX9_until_81 : decode cX9_until 81 = .ok (.invokevirtual 144, 3) := by decide +kernel
theorem dX9_until_84 : decode cX9_until 84 = .ok (.iload 4, 2) := by decide +kernel
theorem dX9_until_86 : decode cX9_until 86 = .ok (.if_icmp .eq 6, 3) := by decide +kernel
theorem dX9_until_89 : decode cX9_until 89 = .ok (.iload 5, 2) := by decide +kernel
theorem dX9_until_91 : decode cX9_until 91 = .ok (.ireturn, 1) := by decide +kernel
theorem dX9_until_92 : decode cX9_until 92 = .ok (.iinc 5 1, 3) := by decide +kernel
theorem dX9_until_95 : decode cX9_until 95 = .ok (.goto (-35), 3) := by decide +kernel
theorem dX9_until_98 : decode cX9_until 98 = .ok (.aload_n 0, 1) := by decide +kernel
theorem dX9_until_99 : decode cX9_until 99 = .ok (.iconst 2, 1) := by decide +kernel
theorem dX9_until_100 : decode cX9_until 100 = .ok (.invokevirtual 84, 3) := by decide +kernel
theorem dX9_until_103 : decode cX9_until 103 = .ok (.ireturn, 1) := by decide +kernel
theorem dX9_cure_0 : decode cX9_cure 0 = .ok (.aload_n 0, 1) := by decide +kernel
theorem dX9_cure_1 : decode cX9_cure 1 = .ok (.iload_n 1, 1) := by decide +kernel
theorem dX9_cure_2 : decode cX9_cure 2 = .ok (.invokevirtual 112, 3) := by decide +kernel
theorem dX9_cure_5 : decode cX9_cure 5 = .ok (.ifCond .eq 10, 3) := by decide +kernel
theorem dX9_cure_8 : decode cX9_cure 8 = .ok (.iload_n 2, 1) := by decide +kernel
theorem dX9_cure_9 : decode cX9_cure 9 = .ok (.invokestatic 232, 3) := by decide +kernel
theorem dX9_cure_12 : decode cX9_cure 12 = .ok (.ifCond .ne 9, 3) := by decide +kernel
theorem dX9_cure_15 : decode cX9_cure 15 = .ok (.aload_n 0, 1) := by decide +kernel
theorem dX9_cure_16 : decode cX9_cure 16 = .ok (.iconst 1, 1) := by decide +kernel
theorem dX9_cure_17 : decode cX9_cure 17 = .ok (.invokevirtual 84, 3) := by decide +kernel
theorem dX9_cure_20 : decode cX9_cure 20 = .ok (.ireturn, 1) := by decide +kernel
theorem dX9_cure_21 : decode cX9_cure 21 = .ok (.aload_n 0, 1) := by decide +kernel
theorem dX9_cure_22 : decode cX9_cure 22 = .ok (.aload_n 0, 1) := by decide +kernel
theorem dX9_cure_23 : decode cX9_cure 23 = .ok (.iload_n 1, 1) := by decide +kernel
theorem dX9_cure_24 : decode cX9_cure 24 = .ok (.invokevirtual 130, 3) := by decide +kernel
theorem dX9_cure_27 : decode cX9_cure 27 = .ok (.invokevirtual 235, 3) := by decide +kernel
theorem dX9_cure_30 : decode cX9_cure 30 = .ok (.istore_n 3, 1) := by decide +kernel
theorem dX9_cure_31 : decode cX9_cure 31 = .ok (.iload_n 3, 1) := by decide +kernel
theorem dX9_cure_32 : decode cX9_cure 32 = .ok (.ifCond .ge 9, 3) := by decide +kernel
theorem dX9_cure_35 : decode cX9_cure 35 = .ok (.aload_n 0, 1) := by decide +kernel
theorem dX9_cure_36 : decode cX9_cure 36 = .ok (.iconst 2, 1) := by decide +kernel
theorem dX9_cure_37 : decode cX9_cure 37 = .ok (.invokevirtual 84, 3) := by decide +kernel
theorem dX9_cure_40 : decode cX9_cure 40 = .ok (.ireturn, 1) := by decide +kernel
theorem dX9_cure_41 : decode cX9_cure 41 = .ok (.iload_n 2, 1) := by decide +kernel
theorem dX9_cure_42 : decode cX9_cure 42 = .ok (.iconst 1, 1) := by decide +kernel
theorem dX9_cure_43 : decode cX9_cure 43 = .ok (.if_icmp .ne 7, 3) := by decide +kernel
theorem dX9_cure_46 : decode cX9_cure 46 = .ok (.iload_n 3, 1) := by decide +kernel
theorem dX9_cure_47 : decode cX9_cure 47 = .ok (.goto 23, 3) := by decide +kernel
theorem dX9_cure_50 : decode cX9_cure 50 = .ok (.aload_n 0, 1) := by decide +kernel
theorem dX9_cure_51 : decode cX9_cure 51 = .ok (.iload_n 3, 1) := by decide +kernel
theorem dX9_cure_52 : decode cX9_cure 52 = .ok (.sipush 1000, 3) := by decide +kernel
theorem dX9_cure_55 : decode cX9_cure 55 = .ok (.idiv, 1) := by decide +kernel
theorem dX9_cure_56 : decode cX9_cure 56 = .ok (.iload_n 3, 1) := by decide +kernel
theorem dX9_cure_57 : decode cX9_cure 57 = .ok (.bipush 10, 2) := by decide +kernel
theorem dX9_cure_59 : decode cX9_cure 59 = .ok (.idiv, 1) := by decide +kernel
theorem dX9_cure_60 : decode cX9_cure 60 = .ok (.bipush 10, 2) := by decide +kernel
theorem dX9_cure_62 : decode cX9_cure 62 = .ok (.irem, 1) := by decide +kernel
theorem dX9_cure_63 : decode cX9_cure 63 = .ok (.iload_n 3, 1) := by decide +kernel
theorem dX9_cure_64 : decode cX9_cure 64 = .ok (.bipush 10, 2) := by decide +kernel
theorem dX9_cure_66 : decode cX9_cure 66 = .ok (.irem, 1) := by decide +kernel
theorem dX9_cure_67 : decode cX9_cure 67 = .ok (.invokevirtual 238, 3) := by decide +kernel
theorem dX9_cure_70 : decode cX9_cure 70 = .ok (.ireturn, 1) := by decide +kernel
theorem dX9_alone_0 : decode cX9_alone 0 = .ok (.aload_n 0, 1) := by decide +kernel
theorem dX9_alone_1 : decode cX9_alone 1 = .ok (.iload_n 1, 1) := by decide +kernel
theorem dX9_alone_2 : decode cX9_alone 2 = .ok (.invokevirtual 112, 3) := by decide +kernel
theorem dX9_alone_5 : decode cX9_alone 5 = .ok (.ifCond .ne 9, 3) := by decide +kernel
theorem dX9_alone_8 : decode cX9_alone 8 = .ok (.aload_n 0, 1) := by decide +kernel
theorem dX9_alone_9 : decode cX9_alone 9 = .ok (.iconst 1, 1) := by decide +kernel
theorem dX9_alone_10 : decode cX9_alone 10 = .ok (.invokevirtual 84, 3) := by decide +kernel
theorem dX9_alone_13 : decode cX9_alone 13 = .ok (.ireturn, 1) := by decide +kernel
theorem dX9_alone_14 : decode cX9_alone 14 = .ok (.aload_n 0, 1) := by decide +kernel
theorem dX9_alone_15 : decode cX9_alone 15 = .ok (.iload_n 1, 1) := by decide +kernel
theorem dX9_alone_16 : decode cX9_alone 16 = .ok (.invokevirtual 130, 3) := by decide +kernel
theorem dX9_alone_19 : decode cX9_alone 19 = .ok (.astore_n 2, 1) := by decide +kernel
theorem dX9_alone_20 : decode cX9_alone 20 = .ok (.iconst 0, 1) := by decide +kernel
theorem dX9_alone_21 : decode cX9_alone 21 = .ok (.istore_n 3, 1) := by decide +kernel
theorem dX9_alone_22 : decode cX9_alone 22 = .ok (.iconst 0, 1) := by decide +kernel
theorem dX9_alone_23 : decode cX9_alone 23 = .ok (.istore 4, 2) := by decide +kernel
theorem dX9_alone_25 : decode cX9_alone 25 = .ok (.iload 4, 2) := by decide +kernel
theorem dX9_alone_27 : decode cX9_alone 27 = .ok (.bipush 7, 2) := by decide +kernel
theorem dX9_alone_29 : decode cX9_alone 29 = .ok (.if_icmp .ge 62, 3) := by decide +kernel
theorem dX9_alone_32 : decode cX9_alone 32 = .ok (.aload_n 0, 1) := by decide +kernel
theorem dX9_alone_33 : decode cX9_alone 33 = .ok (.getfield 26, 3) := by decide +kernel
theorem dX9_alone_36 : decode cX9_alone 36 = .ok (.aload_n 0, 1) := by decide +kernel
theorem dX9_alone_37 : decode cX9_alone 37 = .ok (.getfield 10, 3) := by decide +kernel
theorem dX9_alone_40 : decode cX9_alone 40 = .ok (.getfield 87, 3) := by decide +kernel
theorem dX9_alone_43 : decode cX9_alone 43 = .ok (.invokevirtual 222, 3) := by decide +kernel
theorem dX9_alone_46 : decode cX9_alone 46 = .ok (.aload_n 0, 1) := by decide +kernel
theorem dX9_alone_47 : decode cX9_alone 47 = .ok (.getfield 26, 3) := by decide +kernel
theorem dX9_alone_50 : decode cX9_alone 50 = .ok (.iload 4, 2) := by decide +kernel
theorem dX9_alone_52 : decode cX9_alone 52 = .ok (.invokevirtual 207, 3) := by decide +kernel
theorem dX9_alone_55 : decode cX9_alone 55 = .ok (.ifCond .eq 30, 3) := by decide +kernel
theorem dX9_alone_58 : decode cX9_alone 58 = .ok (.aload_n 0, 1) := by decide +kernel
theorem dX9_alone_59 : decode cX9_alone 59 = .ok (.getfield 26, 3) := by decide +kernel
theorem dX9_alone_62 : decode cX9_alone 62 = .ok (.iload 4, 2) := by decide +kernel
theorem dX9_alone_64 : decode cX9_alone 64 = .ok (.invokevirtual 242, 3) := by decide +kernel
theorem dX9_alone_67 : decode cX9_alone 67 = .ok (.aload_n 2, 1) := by decide +kernel
theorem dX9_alone_68 : decode cX9_alone 68 = .ok (.aload_n 0, 1) := by decide +kernel
theorem dX9_alone_69 : decode cX9_alone 69 = .ok (.getfield 26, 3) := by decide +kernel
theorem dX9_alone_72 : decode cX9_alone 72 = .ok (.invokevirtual 144, 3) := by decide +kernel
theorem dX9_alone_75 : decode cX9_alone 75 = .ok (.ifCond .ne 10, 3) := by decide +kernel
theorem dX9_alone_78 : decode cX9_alone 78 = .ok (.iload_n 3, 1) := by decide +kernel
theorem dX9_alone_79 : decode cX9_alone 79 = .ok (.iconst 1, 1) := by decide +kernel
theorem dX9_alone_80 : decode cX9_alone 80 = .ok (.iload 4, 2) := by decide +kernel
theorem dX9_alone_82 : decode cX9_alone 82 = .ok (.ishl, 1) := by decide +kernel
theorem dX9_alone_83 : decode cX9_alone 83 = .ok (.ior, 1) := by decide +kernel
theorem dX9_alone_84 : decode cX9_alone 84 = .ok (.istore_n 3, 1) := by decide +kernel
theorem dX9_alone_85 : decode cX9_alone 85 = .ok (.iinc 4 1, 3) := by decide +kernel
theorem dX9_alone_88 : decode cX9_alone 88 = .ok (.goto (-63), 3) := by decide +kernel
theorem dX9_alone_91 : decode cX9_alone 91 = .ok (.iload_n 3, 1) := by decide +kernel
theorem dX9_alone_92 : decode cX9_alone 92 = .ok (.ireturn, 1) := by decide +kernel
theorem dX9_canBe_0 : decode cX9_canBe 0 = .ok (.iload_n 1, 1) := by decide +kernel
theorem dX9_canBe_1 : decode cX9_canBe 1 = .ok (.invokestatic 243, 3) := by decide +kernel
theorem dX9_canBe_4 : decode cX9_canBe 4 = .ok (.ifCond .eq 10, 3) := by decide +kernel
theorem dX9_canBe_7 : decode cX9_canBe 7 = .ok (.iload_n 2, 1) := by decide +kernel
theorem dX9_canBe_8 : decode cX9_canBe 8 = .ok (.invokestatic 232, 3) := by decide +kernel
theorem dX9_canBe_11 : decode cX9_canBe 11 = .ok (.ifCond .ne 9, 3) := by decide +kernel
theorem dX9_canBe_14 : decode cX9_canBe 14 = .ok (.aload_n 0, 1) := by decide +kernel
theorem dX9_canBe_15 : decode cX9_canBe 15 = .ok (.iconst 1, 1) := by decide +kernel
theorem dX9_canBe_16 : decode cX9_canBe 16 = .ok (.invokevirtual 84, 3) := by decide +kernel
theorem dX9_canBe_19 : decode cX9_canBe 19 = .ok (.ireturn, 1) := by decide +kernel
theorem dX9_canBe_20 : decode cX9_canBe 20 = .ok (.aload_n 0, 1) := by decide +kernel
theorem dX9_canBe_21 : decode cX9_canBe 21 = .ok (.aload_n 0, 1) := by decide +kernel
theorem dX9_canBe_22 : decode cX9_canBe 22 = .ok (.getfield 72, 3) := by decide +kernel
theorem dX9_canBe_25 : decode cX9_canBe 25 = .ok (.iload_n 1, 1) := by decide +kernel
theorem dX9_canBe_26 : decode cX9_canBe 26 = .ok (.aaload, 1) := by decide +kernel
theorem dX9_canBe_27 : decode cX9_canBe 27 = .ok (.invokevirtual 246, 3) := by decide +kernel
theorem dX9_canBe_30 : decode cX9_canBe 30 = .ok (.ifCond .ne 9, 3) := by decide +kernel
theorem dX9_canBe_33 : decode cX9_canBe 33 = .ok (.aload_n 0, 1) := by decide +kernel
theorem dX9_canBe_34 : decode cX9_canBe 34 = .ok (.iconst 2, 1) := by decide +kernel
theorem dX9_canBe_35 : decode cX9_canBe 35 = .ok (.invokevirtual 84, 3) := by decide +kernel
theorem dX9_canBe_38 : decode cX9_canBe 38 = .ok (.ireturn, 1) := by decide +kernel
theorem dX9_canBe_39 : decode cX9_canBe 39 = .ok (.aload_n 0, 1) := by decide +kernel
theorem dX9_canBe_40 : decode cX9_canBe 40 = .ok (.invokevirtual 250, 3) := by decide +kernel
theorem dX9_canBe_43 : decode cX9_canBe 43 = .ok (.iconst 0, 1) := by decide +kernel
theorem dX9_canBe_44 : decode cX9_canBe 44 = .ok (.istore_n 3, 1) := by decide +kernel
theorem dX9_canBe_45 : decode cX9_canBe 45 = .ok (.iconst 0, 1) := by decide +kernel
theorem dX9_canBe_46 : decode cX9_canBe 46 = .ok (.istore 4, 2) := by decide +kernel
theorem dX9_canBe_48 : decode cX9_canBe 48 = .ok (.iload 4, 2) := by decide +kernel
theorem dX9_canBe_50 : decode cX9_canBe 50 = .ok (.sipush 600, 3) := by decide +kernel
theorem dX9_canBe_53 : decode cX9_canBe 53 = .ok (.if_icmp .ge 57, 3) := by decide +kernel
theorem dX9_canBe_56 : decode cX9_canBe 56 = .ok (.aload_n 0, 1) := by decide +kernel
theorem dX9_canBe_57 : decode cX9_canBe 57 = .ok (.getfield 26, 3) := by decide +kernel
theorem dX9_canBe_60 : decode cX9_canBe 60 = .ok (.iload 4, 2) := by decide +kernel
theorem dX9_canBe_62 : decode cX9_canBe 62 = .ok (.invokevirtual 253, 3) := by decide +kernel
theorem dX9_canBe_65 : decode cX9_canBe 65 = .ok (.aload_n 0, 1) := by decide +kernel
theorem dX9_canBe_66 : decode cX9_canBe 66 = .ok (.aload_n 0, 1) := by decide +kernel
theorem dX9_canBe_67 : decode cX9_canBe 67 = .ok (.getfield 72, 3) := by decide +kernel
theorem dX9_canBe_70 : decode cX9_canBe 70 = .ok (.iload_n 1, 1) := by decide +kernel
theorem dX9_canBe_71 : decode cX9_canBe 71 = .ok (.aaload, 1) := by decide +kernel
theorem dX9_canBe_72 : decode cX9_canBe 72 = .ok (.invokevirtual 256, 3) := by decide +kernel
theorem dX9_canBe_75 : decode cX9_canBe 75 = .ok (.ifCond .eq 29, 3) := by decide +kernel
theorem dX9_canBe_78 : decode cX9_canBe 78 = .ok (.iload_n 2, 1) := by decide +kernel
theorem dX9_canBe_79 : decode cX9_canBe 79 = .ok (.iconst 1, 1) := by decide +kernel
theorem dX9_canBe_80 : decode cX9_canBe 80 = .ok (.if_icmp .ne 21, 3) := by decide +kernel
theorem dX9_canBe_83 : decode cX9_canBe 83 = .ok (.sipush 1000, 3) := by decide +kernel
theorem dX9_canBe_86 : decode cX9_canBe 86 = .ok (.iload 4, 2) := by decide +kernel
theorem dX9_canBe_88 : decode cX9_canBe 88 = .ok (.sipush 300, 3) := by decide +kernel
theorem dX9_canBe_91 : decode cX9_canBe 91 = .ok (.idiv, 1) := by decide +kernel
theorem dX9_canBe_92 : decode cX9_canBe 92 = .ok (.imul, 1) := by decide +kernel
theorem dX9_canBe_93 : decode cX9_canBe 93 = .ok (.iload 4, 2) := by decide +kernel
theorem dX9_canBe_95 : decode cX9_canBe 95 = .ok (.sipush 300, 3) := by decide +kernel
theorem dX9_canBe_98 : decode cX9_canBe 98 = .ok (.irem, 1) := by decide +kernel
theorem dX9_canBe_99 : decode cX9_canBe 99 = .ok (.iadd, 1) := by decide +kernel
theorem dX9_canBe_100 : decode cX9_canBe 100 = .ok (.ireturn, 1) := by decide +kernel
theorem dX9_canBe_101 : decode cX9_canBe 101 = .ok (.iinc 3 1, 3) := by decide +kernel
theorem dX9_canBe_104 : decode cX9_canBe 104 = .ok (.iinc 4 1, 3) := by decide +kernel
theorem dX9_canBe_107 : decode cX9_canBe 107 = .ok (.goto (-59), 3) := by decide +kernel
theorem dX9_canBe_110 : decode cX9_canBe 110 = .ok (.iload_n 2, 1) := by decide +kernel
theorem dX9_canBe_111 : decode cX9_canBe 111 = .ok (.iconst 1, 1) := by decide +kernel
theorem dX9_canBe_112 : decode cX9_canBe 112 = .ok (.if_icmp .ne 11, 3) := by decide +kernel
theorem dX9_canBe_115 : decode cX9_canBe 115 = .ok (.aload_n 0, 1) := by decide +kernel
theorem dX9_canBe_116 : decode cX9_canBe 116 = .ok (.iconst 2, 1) := by decide +kernel
theorem dX9_canBe_117 : decode cX9_canBe 117 = .ok (.invokevirtual 84, 3) := by decide +kernel
theorem dX9_canBe_120 : decode cX9_canBe 120 = .ok (.goto 4, 3) := by decide +kernel
theorem dX9_canBe_123 : decode cX9_canBe 123 = .ok (.iload_n 3, 1) := by decide +kernel
theorem dX9_canBe_124 : decode cX9_canBe 124 = .ok (.ireturn, 1) := by decide +kernel
theorem dX9_tellsMost_0 : decode cX9_tellsMost 0 = .ok (.iload_n 1, 1) := by decide +kernel
theorem dX9_tellsMost_1 : decode cX9_tellsMost 1 = .ok (.invokestatic 243, 3) := by decide +kernel
theorem dX9_tellsMost_4 : decode cX9_tellsMost 4 = .ok (.ifCond .ne 9, 3) := by decide +kernel
theorem dX9_tellsMost_7 : decode cX9_tellsMost 7 = .ok (.aload_n 0, 1) := by decide +kernel
theorem dX9_tellsMost_8 : decode cX9_tellsMost 8 = .ok (.iconst 1, 1) := by decide +kernel
theorem dX9_tellsMost_9 : decode cX9_tellsMost 9 = .ok (.invokevirtual 84, 3) := by decide +kernel
theorem dX9_tellsMost_12 : decode cX9_tellsMost 12 = .ok (.ireturn, 1) := by decide +kernel
theorem dX9_tellsMost_13 : decode cX9_tellsMost 13 = .ok (.aload_n 0, 1) := by decide +kernel
theorem dX9_tellsMost_14 : decode cX9_tellsMost 14 = .ok (.aload_n 0, 1) := by decide +kernel
theorem dX9_tellsMost_15 : decode cX9_tellsMost 15 = .ok (.getfield 72, 3) := by decide +kernel
theorem dX9_tellsMost_18 : decode cX9_tellsMost 18 = .ok (.iload_n 1, 1) := by decide +kernel
theorem dX9_tellsMost_19 : decode cX9_tellsMost 19 = .ok (.aaload, 1) := by decide +kernel
theorem dX9_tellsMost_20 : decode cX9_tellsMost 20 = .ok (.invokevirtual 246, 3) := by decide +kernel
theorem dX9_tellsMost_23 : decode cX9_tellsMost 23 = .ok (.ifCond .eq 13, 3) := by decide +kernel
theorem dX9_tellsMost_26 : decode cX9_tellsMost 26 = .ok (.aload_n 0, 1) := by decide +kernel
theorem dX9_tellsMost_27 : decode cX9_tellsMost 27 = .ok (.getfield 10, 3) := by decide +kernel
theorem dX9_tellsMost_30 : decode cX9_tellsMost 30 = .ok (.getfield 104, 3) := by decide +kernel
theorem dX9_tellsMost_33 : decode cX9_tellsMost 33 = .ok (.ifCond .ne 9, 3) := by decide +kernel
theorem dX9_tellsMost_36 : decode cX9_tellsMost 36 = .ok (.aload_n 0, 1) := by decide +kernel
theorem dX9_tellsMost_37 : decode cX9_tellsMost 37 = .ok (.iconst 2, 1) := by decide +kernel
theorem dX9_tellsMost_38 : decode cX9_tellsMost 38 = .ok (.invokevirtual 84, 3) := by decide +kernel
theorem dX9_tellsMost_41 : decode cX9_tellsMost 41 = .ok (.ireturn, 1) := by decide +kernel
theorem dX9_tellsMost_42 : decode cX9_tellsMost 42 = .ok (.aload_n 0, 1) := by decide +kernel
theorem dX9_tellsMost_43 : decode cX9_tellsMost 43 = .ok (.invokevirtual 250, 3) := by decide +kernel
theorem dX9_tellsMost_46 : decode cX9_tellsMost 46 = .ok (.aload_n 0, 1) := by decide +kernel
theorem dX9_tellsMost_47 : decode cX9_tellsMost 47 = .ok (.getfield 43, 3) := by decide +kernel
theorem dX9_tellsMost_50 : decode cX9_tellsMost 50 = .ok (.iconst 0, 1) := by decide +kernel
theorem dX9_tellsMost_51 : decode cX9_tellsMost 51 = .ok (.invokestatic 259, 3) := by decide +kernel
theorem dX9_tellsMost_54 : decode cX9_tellsMost 54 = .ok (.iconst 0, 1) := by decide +kernel
theorem dX9_tellsMost_55 : decode cX9_tellsMost 55 = .ok (.istore_n 2, 1) := by decide +kernel
theorem dX9_tellsMost_56 : decode cX9_tellsMost 56 = .ok (.iload_n 2, 1) := by decide +kernel
theorem dX9_tellsMost_57 : decode cX9_tellsMost 57 = .ok (.sipush 600, 3) := by decide +kernel
theorem dX9_tellsMost_60 : decode cX9_tellsMost 60 = .ok (.if_icmp .ge 34, 3) := by decide +kernel
theorem dX9_tellsMost_63 : decode cX9_tellsMost 63 = .ok (.aload_n 0, 1) := by decide +kernel
theorem dX9_tellsMost_64 : decode cX9_tellsMost 64 = .ok (.getfield 26, 3) := by decide +kernel
theorem dX9_tellsMost_67 : decode cX9_tellsMost 67 = .ok (.iload_n 2, 1) := by decide +kernel
theorem dX9_tellsMost_68 : decode cX9_tellsMost 68 = .ok (.invokevirtual 253, 3) := by decide +kernel
theorem dX9_tellsMost_71 : decode cX9_tellsMost 71 = .ok (.aload_n 0, 1) := by decide +kernel
theorem dX9_tellsMost_72 : decode cX9_tellsMost 72 = .ok (.aload_n 0, 1) := by decide +kernel
theorem dX9_tellsMost_73 : decode cX9_tellsMost 73 = .ok (.getfield 72, 3) := by decide +kernel
theorem dX9_tellsMost_76 : decode cX9_tellsMost 76 = .ok (.iload_n 1, 1) := by decide +kernel
theorem dX9_tellsMost_77 : decode cX9_tellsMost 77 = .ok (.aaload, 1) := by decide +kernel
theorem dX9_tellsMost_78 : decode cX9_tellsMost 78 = .ok (.invokevirtual 256, 3) := by decide +kernel
theorem dX9_tellsMost_81 : decode cX9_tellsMost 81 = .ok (.ifCond .eq 7, 3) := by decide +kernel
theorem dX9_tellsMost_84 : decode cX9_tellsMost 84 = .ok (.aload_n 0, 1) := by decide +kernel
theorem dX9_tellsMost_85 : decode cX9_tellsMost 85 = .ok (.invokevirtual 264, 3) := by decide +kernel
theorem dX9_tellsMost_88 : decode cX9_tellsMost 88 = .ok (.iinc 2 1, 3) := by decide +kernel
theorem dX9_tellsMost_91 : decode cX9_tellsMost 91 = .ok (.goto (-35), 3) := by decide +kernel
theorem dX9_tellsMost_94 : decode cX9_tellsMost 94 = .ok (.iconst 0, 1) := by decide +kernel
theorem dX9_tellsMost_95 : decode cX9_tellsMost 95 = .ok (.istore_n 2, 1) := by decide +kernel
theorem dX9_tellsMost_96 : decode cX9_tellsMost 96 = .ok (.iconst 1, 1) := by decide +kernel
theorem dX9_tellsMost_97 : decode cX9_tellsMost 97 = .ok (.istore_n 3, 1) := by decide +kernel
theorem dX9_tellsMost_98 : decode cX9_tellsMost 98 = .ok (.iload_n 3, 1) := by decide +kernel
theorem dX9_tellsMost_99 : decode cX9_tellsMost 99 = .ok (.aload_n 0, 1) := by decide +kernel
theorem dX9_tellsMost_100 : decode cX9_tellsMost 100 = .ok (.getfield 10, 3) := by decide +kernel
theorem dX9_tellsMost_103 : decode cX9_tellsMost 103 = .ok (.getfield 104, 3) := by decide +kernel
theorem dX9_tellsMost_106 : decode cX9_tellsMost 106 = .ok (.if_icmp .ge 24, 3) := by decide +kernel
theorem dX9_tellsMost_109 : decode cX9_tellsMost 109 = .ok (.aload_n 0, 1) := by decide +kernel
theorem dX9_tellsMost_110 : decode cX9_tellsMost 110 = .ok (.iload_n 3, 1) := by decide +kernel
theorem dX9_tellsMost_111 : decode cX9_tellsMost 111 = .ok (.invokevirtual 267, 3) := by decide +kernel
theorem dX9_tellsMost_114 : decode cX9_tellsMost 114 = .ok (.aload_n 0, 1) := by decide +kernel
theorem dX9_tellsMost_115 : decode cX9_tellsMost 115 = .ok (.iload_n 2, 1) := by decide +kernel
theorem dX9_tellsMost_116 : decode cX9_tellsMost 116 = .ok (.invokevirtual 267, 3) := by decide +kernel
theorem dX9_tellsMost_119 : decode cX9_tellsMost 119 = .ok (.if_icmp .ge 5, 3) := by decide +kernel
theorem dX9_tellsMost_122 : decode cX9_tellsMost 122 = .ok (.iload_n 3, 1) := by decide +kernel
theorem dX9_tellsMost_123 : decode cX9_tellsMost 123 = .ok (.istore_n 2, 1) := by decide +kernel
theorem dX9_tellsMost_124 : decode cX9_tellsMost 124 = .ok (.iinc 3 1, 3) := by decide +kernel
theorem dX9_tellsMost_127 : decode cX9_tellsMost 127 = .ok (.goto (-29), 3) := by decide +kernel
theorem dX9_tellsMost_130 : decode cX9_tellsMost 130 = .ok (.iload_n 2, 1) := by decide +kernel
theorem dX9_tellsMost_131 : decode cX9_tellsMost 131 = .ok (.ireturn, 1) := by decide +kernel
theorem dX9_knobWas_0 : decode cX9_knobWas 0 = .ok (.aload_n 0, 1) := by decide +kernel
theorem dX9_knobWas_1 : decode cX9_knobWas 1 = .ok (.iload_n 1, 1) := by decide +kernel
theorem dX9_knobWas_2 : decode cX9_knobWas 2 = .ok (.invokevirtual 112, 3) := by decide +kernel
theorem dX9_knobWas_5 : decode cX9_knobWas 5 = .ok (.ifCond .eq 16, 3) := by decide +kernel
theorem dX9_knobWas_8 : decode cX9_knobWas 8 = .ok (.aload_n 0, 1) := by decide +kernel
theorem dX9_knobWas_9 : decode cX9_knobWas 9 = .ok (.iload_n 2, 1) := by decide +kernel
theorem dX9_knobWas_10 : decode cX9_knobWas 10 = .ok (.invokevirtual 112, 3) := by decide +kernel
theorem dX9_knobWas_13 : decode cX9_knobWas 13 = .ok (.ifCond .eq 8, 3) := by decide +kernel
theorem dX9_knobWas_16 : decode cX9_knobWas 16 = .ok (.iload_n 1, 1) := by decide +kernel
theorem dX9_knobWas_17 : decode cX9_knobWas 17 = .ok (.iload_n 2, 1) := by decide +kernel
theorem dX9_knobWas_18 : decode cX9_knobWas 18 = .ok (.if_icmp .ne 9, 3) := by decide +kernel
theorem dX9_knobWas_21 : decode cX9_knobWas 21 = .ok (.aload_n 0, 1) := by decide +kernel
theorem dX9_knobWas_22 : decode cX9_knobWas 22 = .ok (.iconst 1, 1) := by decide +kernel
theorem dX9_knobWas_23 : decode cX9_knobWas 23 = .ok (.invokevirtual 84, 3) := by decide +kernel
theorem dX9_knobWas_26 : decode cX9_knobWas 26 = .ok (.ireturn, 1) := by decide +kernel
theorem dX9_knobWas_27 : decode cX9_knobWas 27 = .ok (.iload_n 3, 1) := by decide +kernel
theorem dX9_knobWas_28 : decode cX9_knobWas 28 = .ok (.ifCond .lt 19, 3) := by decide +kernel
theorem dX9_knobWas_31 : decode cX9_knobWas 31 = .ok (.iload_n 3, 1) := by decide +kernel
theorem dX9_knobWas_32 : decode cX9_knobWas 32 = .ok (.bipush 10, 2) := by decide +kernel
theorem dX9_knobWas_34 : decode cX9_knobWas 34 = .ok (.idiv, 1) := by decide +kernel
theorem dX9_knobWas_35 : decode cX9_knobWas 35 = .ok (.iconst 5, 1) := by decide +kernel
theorem dX9_knobWas_36 : decode cX9_knobWas 36 = .ok (.if_icmp .ge 11, 3) := by decide +kernel
theorem dX9_knobWas_39 : decode cX9_knobWas 39 = .ok (.iload_n 3, 1) := by decide +kernel
theorem dX9_knobWas_40 : decode cX9_knobWas 40 = .ok (.bipush 10, 2) := by decide +kernel
theorem dX9_knobWas_42 : decode cX9_knobWas 42 = .ok (.irem, 1) := by decide +kernel
theorem dX9_knobWas_43 : decode cX9_knobWas 43 = .ok (.iconst 5, 1) := by decide +kernel
theorem dX9_knobWas_44 : decode cX9_knobWas 44 = .ok (.if_icmp .lt 9, 3) := by decide +kernel
theorem dX9_knobWas_47 : decode cX9_knobWas 47 = .ok (.aload_n 0, 1) := by decide +kernel
theorem dX9_knobWas_48 : decode cX9_knobWas 48 = .ok (.iconst 1, 1) := by decide +kernel
theorem dX9_knobWas_49 : decode cX9_knobWas 49 = .ok (.invokevirtual 84, 3) := by decide +kernel
theorem dX9_knobWas_52 : decode cX9_knobWas 52 = .ok (.ireturn, 1) := by decide +kernel
theorem dX9_knobWas_53 : decode cX9_knobWas 53 = .ok (.aload_n 0, 1) := by decide +kernel
theorem dX9_knobWas_54 : decode cX9_knobWas 54 = .ok (.iload_n 1, 1) := by decide +kernel
theorem dX9_knobWas_55 : decode cX9_knobWas 55 = .ok (.invokevirtual 130, 3) := by decide +kernel
theorem dX9_knobWas_58 : decode cX9_knobWas 58 = .ok (.astore 4, 2) := by decide +kernel
theorem dX9_knobWas_60 : decode cX9_knobWas 60 = .ok (.aload_n 0, 1) := by decide +kernel
theorem dX9_knobWas_61 : decode cX9_knobWas 61 = .ok (.iload_n 2, 1) := by decide +kernel
theorem dX9_knobWas_62 : decode cX9_knobWas 62 = .ok (.invokevirtual 130, 3) := by decide +kernel
theorem dX9_knobWas_65 : decode cX9_knobWas 65 = .ok (.astore 5, 2) := by decide +kernel
theorem dX9_knobWas_67 : decode cX9_knobWas 67 = .ok (.aload_n 0, 1) := by decide +kernel
theorem dX9_knobWas_68 : decode cX9_knobWas 68 = .ok (.getfield 26, 3) := by decide +kernel
theorem dX9_knobWas_71 : decode cX9_knobWas 71 = .ok (.aload_n 0, 1) := by decide +kernel
theorem dX9_knobWas_72 : decode cX9_knobWas 72 = .ok (.getfield 10, 3) := by decide +kernel
theorem dX9_knobWas_75 : decode cX9_knobWas 75 = .ok (.getfield 87, 3) := by decide +kernel
theorem dX9_knobWas_78 : decode cX9_knobWas 78 = .ok (.invokevirtual 222, 3) := by decide +kernel
theorem dX9_knobWas_81 : decode cX9_knobWas 81 = .ok (.iconst 0, 1) := by decide +kernel
theorem dX9_knobWas_82 : decode cX9_knobWas 82 = .ok (.istore 6, 2) := by decide +kernel
theorem dX9_knobWas_84 : decode cX9_knobWas 84 = .ok (.iconst 0, 1) := by decide +kernel
theorem dX9_knobWas_85 : decode cX9_knobWas 85 = .ok (.istore 7, 2) := by decide +kernel
theorem dX9_knobWas_87 : decode cX9_knobWas 87 = .ok (.iload 7, 2) := by decide +kernel
theorem dX9_knobWas_89 : decode cX9_knobWas 89 = .ok (.bipush 9, 2) := by decide +kernel
theorem dX9_knobWas_91 : decode cX9_knobWas 91 = .ok (.if_icmp .gt 59, 3) := by decide +kernel
theorem dX9_knobWas_94 : decode cX9_knobWas 94 = .ok (.aload_n 0, 1) := by decide +kernel
theorem dX9_knobWas_95 : decode cX9_knobWas 95 = .ok (.getfield 26, 3) := by decide +kernel
theorem dX9_knobWas_98 : decode cX9_knobWas 98 = .ok (.iload 7, 2) := by decide +kernel
theorem dX9_knobWas_100 : decode cX9_knobWas 100 = .ok (.putfield 270, 3) := by decide +kernel
theorem dX9_knobWas_103 : decode cX9_knobWas 103 = .ok (.aload 4, 2) := by decide +kernel
theorem dX9_knobWas_105 : decode cX9_knobWas 105 = .ok (.aload_n 0, 1) := by decide +kernel
theorem dX9_knobWas_106 : decode cX9_knobWas 106 = .ok (.getfield 26, 3) := by decide +kernel
theorem dX9_knobWas_109 : decode cX9_knobWas 109 = .ok (.invokevirtual 144, 3) := by decide +kernel
theorem dX9_knobWas_112 : decode cX9_knobWas 112 = .ok (.iload_n 3, 1) := by decide +kernel
theorem dX9_knobWas_113 : decode cX9_knobWas 113 = .ok (.bipush 10, 2) := by decide +kernel
theorem dX9_knobWas_115 : decode cX9_knobWas 115 = .ok (.idiv, 1) := by decide +kernel
theorem dX9_knobWas_116 : decode cX9_knobWas 116 = .ok (.if_icmp .ne 28, 3) := by decide +kernel
theorem dX9_knobWas_119 : decode cX9_knobWas 119 = .ok (.aload 5, 2) := by decide +kernel
theorem dX9_knobWas_121 : decode cX9_knobWas 121 = .ok (.aload_n 0, 1) := by decide +kernel
theorem dX9_knobWas_122 : decode cX9_knobWas 122 = .ok (.getfield 26, 3) := by decide +kernel
theorem dX9_knobWas_125 : decode cX9_knobWas 125 = .ok (.invokevirtual 144, 3) := by decide +kernel
theorem dX9_knobWas_128 : decode cX9_knobWas 128 = .ok (.iload_n 3, 1) := by decide +kernel
theorem dX9_knobWas_129 : decode cX9_knobWas 129 = .ok (.bipush 10, 2) := by decide +kernel
theorem dX9_knobWas_131 : decode cX9_knobWas 131 = .ok (.irem, 1) := by decide +kernel
theorem dX9_knobWas_132 : decode cX9_knobWas 132 = .ok (.if_icmp .ne 12, 3) := by decide +kernel
theorem dX9_knobWas_135 : decode cX9_knobWas 135 = .ok (.iload 6, 2) := by decide +kernel
theorem dX9_knobWas_137 : decode cX9_knobWas 137 = .ok (.iconst 1, 1) := by decide +kernel
theorem dX9_knobWas_138 : decode cX9_knobWas 138 = .ok (.iload 7, 2) := by decide +kernel
theorem dX9_knobWas_140 : decode cX9_knobWas 140 = .ok (.ishl, 1) := by decide +kernel
theorem dX9_knobWas_141 : decode cX9_knobWas 141 = .ok (.ior, 1) := by decide +kernel
theorem dX9_knobWas_142 : decode cX9_knobWas 142 = .ok (.istore 6, 2) := by decide +kernel
theorem dX9_knobWas_144 : decode cX9_knobWas 144 = .ok (.iinc 7 1, 3) := by decide +kernel
theorem dX9_knobWas_147 : decode cX9_knobWas 147 = .ok (.goto (-60), 3) := by decide +kernel
theorem dX9_knobWas_150 : decode cX9_knobWas 150 = .ok (.iload 6, 2) := by decide +kernel
theorem dX9_knobWas_152 : decode cX9_knobWas 152 = .ok (.ireturn, 1) := by decide +kernel
theorem dX9_row_0 : decode cX9_row 0 = .ok (.iload_n 1, 1) := by decide +kernel
theorem dX9_row_1 : decode cX9_row 1 = .ok (.iconst 1, 1) := by decide +kernel
theorem dX9_row_2 : decode cX9_row 2 = .ok (.if_icmp .lt 37, 3) := by decide +kernel
theorem dX9_row_5 : decode cX9_row 5 = .ok (.iload_n 1, 1) := by decide +kernel
theorem dX9_row_6 : decode cX9_row 6 = .ok (.iconst 4, 1) := by decide +kernel
theorem dX9_row_7 : decode cX9_row 7 = .ok (.if_icmp .gt 32, 3) := by decide +kernel
theorem dX9_row_10 : decode cX9_row 10 = .ok (.iload_n 1, 1) := by decide +kernel
theorem dX9_row_11 : decode cX9_row 11 = .ok (.aload_n 0, 1) := by decide +kernel
theorem dX9_row_12 : decode cX9_row 12 = .ok (.getfield 10, 3) := by decide +kernel
theorem dX9_row_15 : decode cX9_row 15 = .ok (.getfield 104, 3) := by decide +kernel
theorem dX9_row_18 : decode cX9_row 18 = .ok (.if_icmp .gt 21, 3) := by decide +kernel
theorem dX9_row_21 : decode cX9_row 21 = .ok (.iload_n 2, 1) := by decide +kernel
theorem dX9_row_22 : decode cX9_row 22 = .ok (.iconst 1, 1) := by decide +kernel
theorem dX9_row_23 : decode cX9_row 23 = .ok (.if_icmp .lt 16, 3) := by decide +kernel
theorem dX9_row_26 : decode cX9_row 26 = .ok (.iload_n 2, 1) := by decide +kernel
theorem dX9_row_27 : decode cX9_row 27 = .ok (.bipush 20, 2) := by decide +kernel
theorem dX9_row_29 : decode cX9_row 29 = .ok (.if_icmp .gt 10, 3) := by decide +kernel
theorem dX9_row_32 : decode cX9_row 32 = .ok (.iload_n 3, 1) := by decide +kernel
theorem dX9_row_33 : decode cX9_row 33 = .ok (.invokestatic 232, 3) := by decide +kernel
theorem dX9_row_36 : decode cX9_row 36 = .ok (.ifCond .ne 9, 3) := by decide +kernel
theorem dX9_row_39 : decode cX9_row 39 = .ok (.aload_n 0, 1) := by decide +kernel
theorem dX9_row_40 : decode cX9_row 40 = .ok (.iconst 1, 1) := by decide +kernel
theorem dX9_row_41 : decode cX9_row 41 = .ok (.invokevirtual 84, 3) := by decide +kernel
theorem dX9_row_44 : decode cX9_row 44 = .ok (.ireturn, 1) := by decide +kernel
theorem dX9_row_45 : decode cX9_row 45 = .ok (.aload_n 0, 1) := by decide +kernel
theorem dX9_row_46 : decode cX9_row 46 = .ok (.invokevirtual 216, 3) := by decide +kernel
theorem dX9_row_49 : decode cX9_row 49 = .ok (.aload_n 0, 1) := by decide +kernel
theorem dX9_row_50 : decode cX9_row 50 = .ok (.getfield 26, 3) := by decide +kernel
theorem dX9_row_53 : decode cX9_row 53 = .ok (.aload_n 0, 1) := by decide +kernel
theorem dX9_row_54 : decode cX9_row 54 = .ok (.getfield 10, 3) := by decide +kernel
theorem dX9_row_57 : decode cX9_row 57 = .ok (.getfield 87, 3) := by decide +kernel
theorem dX9_row_60 : decode cX9_row 60 = .ok (.invokevirtual 222, 3) := by decide +kernel
theorem dX9_row_63 : decode cX9_row 63 = .ok (.aload_n 0, 1) := by decide +kernel
theorem dX9_row_64 : decode cX9_row 64 = .ok (.getfield 52, 3) := by decide +kernel
theorem dX9_row_67 : decode cX9_row 67 = .ok (.aload_n 0, 1) := by decide +kernel
theorem dX9_row_68 : decode cX9_row 68 = .ok (.getfield 10, 3) := by decide +kernel
theorem dX9_row_71 : decode cX9_row 71 = .ok (.getfield 104, 3) := by decide +kernel
theorem dX9_row_74 : decode cX9_row 74 = .ok (.iload_n 1, 1) := by decide +kernel
theorem dX9_row_75 : decode cX9_row 75 = .ok (.iload_n 2, 1) := by decide +kernel
theorem dX9_row_76 : decode cX9_row 76 = .ok (.invokevirtual 273, 3) := by decide +kernel
theorem dX9_row_79 : decode cX9_row 79 = .ok (.aload_n 0, 1) := by decide +kernel
theorem dX9_row_80 : decode cX9_row 80 = .ok (.getfield 52, 3) := by decide +kernel
theorem dX9_row_83 : decode cX9_row 83 = .ok (.iconst 0, 1) := by decide +kernel
theorem dX9_row_84 : decode cX9_row 84 = .ok (.iconst 0, 1) := by decide +kernel
theorem dX9_row_85 : decode cX9_row 85 = .ok (.iconst 0, 1) := by decide +kernel
theorem dX9_row_86 : decode cX9_row 86 = .ok (.iconst 0, 1) := by decide +kernel
theorem dX9_row_87 : decode cX9_row 87 = .ok (.invokevirtual 276, 3) := by decide +kernel
theorem dX9_row_90 : decode cX9_row 90 = .ok (.iload_n 3, 1) := by decide +kernel
theorem dX9_row_91 : decode cX9_row 91 = .ok (.ifCond .ne 13, 3) := by decide +kernel
theorem dX9_row_94 : decode cX9_row 94 = .ok (.aload_n 0, 1) := by decide +kernel
theorem dX9_row_95 : decode cX9_row 95 = .ok (.getfield 52, 3) := by decide +kernel
theorem dX9_row_98 : decode cX9_row 98 = .ok (.getfield 280, 3) := by decide +kernel
theorem dX9_row_101 : decode cX9_row 101 = .ok (.goto 10, 3) := by decide +kernel
theorem dX9_row_104 : decode cX9_row 104 = .ok (.aload_n 0, 1) := by decide +kernel
theorem dX9_row_105 : decode cX9_row 105 = .ok (.getfield 52, 3) := by decide +kernel
theorem dX9_row_108 : decode cX9_row 108 = .ok (.getfield 283, 3) := by decide +kernel
theorem dX9_row_111 : decode cX9_row 111 = .ok (.ireturn, 1) := by decide +kernel
theorem dX9_odds_0 : decode cX9_odds 0 = .ok (.aload_n 0, 1) := by decide +kernel
theorem dX9_odds_1 : decode cX9_odds 1 = .ok (.iload_n 1, 1) := by decide +kernel
theorem dX9_odds_2 : decode cX9_odds 2 = .ok (.invokevirtual 112, 3) := by decide +kernel
theorem dX9_odds_5 : decode cX9_odds 5 = .ok (.ifCond .eq 10, 3) := by decide +kernel
theorem dX9_odds_8 : decode cX9_odds 8 = .ok (.iload_n 2, 1) := by decide +kernel
theorem dX9_odds_9 : decode cX9_odds 9 = .ok (.invokestatic 232, 3) := by decide +kernel
theorem dX9_odds_12 : decode cX9_odds 12 = .ok (.ifCond .ne 9, 3) := by decide +kernel
theorem dX9_odds_15 : decode cX9_odds 15 = .ok (.aload_n 0, 1) := by decide +kernel
theorem dX9_odds_16 : decode cX9_odds 16 = .ok (.iconst 1, 1) := by decide +kernel
theorem dX9_odds_17 : decode cX9_odds 17 = .ok (.invokevirtual 84, 3) := by decide +kernel
theorem dX9_odds_20 : decode cX9_odds 20 = .ok (.ireturn, 1) := by decide +kernel
theorem dX9_odds_21 : decode cX9_odds 21 = .ok (.aload_n 0, 1) := by decide +kernel
theorem dX9_odds_22 : decode cX9_odds 22 = .ok (.iload_n 1, 1) := by decide +kernel
theorem dX9_odds_23 : decode cX9_odds 23 = .ok (.invokevirtual 130, 3) := by decide +kernel
theorem dX9_odds_26 : decode cX9_odds 26 = .ok (.astore_n 3, 1) := by decide +kernel
theorem dX9_odds_27 : decode cX9_odds 27 = .ok (.aload_n 0, 1) := by decide +kernel
theorem dX9_odds_28 : decode cX9_odds 28 = .ok (.getfield 26, 3) := by decide +kernel
theorem dX9_odds_31 : decode cX9_odds 31 = .ok (.aload_n 0, 1) := by decide +kernel
theorem dX9_odds_32 : decode cX9_odds 32 = .ok (.getfield 10, 3) := by decide +kernel
theorem dX9_odds_35 : decode cX9_odds 35 = .ok (.getfield 87, 3) := by decide +kernel
theorem dX9_odds_38 : decode cX9_odds 38 = .ok (.invokevirtual 222, 3) := by decide +kernel
theorem dX9_odds_41 : decode cX9_odds 41 = .ok (.iconst 0, 1) := by decide +kernel
theorem dX9_odds_42 : decode cX9_odds 42 = .ok (.istore 4, 2) := by decide +kernel
theorem dX9_odds_44 : decode cX9_odds 44 = .ok (.iconst 0, 1) := by decide +kernel
theorem dX9_odds_45 : decode cX9_odds 45 = .ok (.istore 5, 2) := by decide +kernel
theorem dX9_odds_47 : decode cX9_odds 47 = .ok (.iload 5, 2) := by decide +kernel
theorem dX9_odds_49 : decode cX9_odds 49 = .ok (.bipush 9, 2) := by decide +kernel
theorem dX9_odds_51 : decode cX9_odds 51 = .ok (.if_icmp .gt 32, 3) := by decide +kernel
theorem dX9_odds_54 : decode cX9_odds 54 = .ok (.aload_n 0, 1) := by decide +kernel
theorem dX9_odds_55 : decode cX9_odds 55 = .ok (.getfield 26, 3) := by decide +kernel
theorem dX9_odds_58 : decode cX9_odds 58 = .ok (.iload 5, 2) := by decide +kernel
theorem dX9_odds_60 : decode cX9_odds 60 = .ok (.putfield 286, 3) := by decide +kernel
theorem dX9_odds_63 : decode cX9_odds 63 = .ok (.aload_n 3, 1) := by decide +kernel
theorem dX9_odds_64 : decode cX9_odds 64 = .ok (.aload_n 0, 1) := by decide +kernel
theorem dX9_odds_65 : decode cX9_odds 65 = .ok (.getfield 26, 3) := by decide +kernel
theorem dX9_odds_68 : decode cX9_odds 68 = .ok (.invokevirtual 144, 3) := by decide +kernel
theorem dX9_odds_71 : decode cX9_odds 71 = .ok (.ifCond .ne 6, 3) := by decide +kernel
theorem dX9_odds_74 : decode cX9_odds 74 = .ok (.iinc 4 1, 3) := by decide +kernel
theorem dX9_odds_77 : decode cX9_odds 77 = .ok (.iinc 5 1, 3) := by decide +kernel
theorem dX9_odds_80 : decode cX9_odds 80 = .ok (.goto (-33), 3) := by decide +kernel
theorem dX9_odds_83 : decode cX9_odds 83 = .ok (.iload_n 2, 1) := by decide +kernel
theorem dX9_odds_84 : decode cX9_odds 84 = .ok (.ifCond .ne 14, 3) := by decide +kernel
theorem dX9_odds_87 : decode cX9_odds 87 = .ok (.iload 4, 2) := by decide +kernel
theorem dX9_odds_89 : decode cX9_odds 89 = .ok (.iload 4, 2) := by decide +kernel
theorem dX9_odds_91 : decode cX9_odds 91 = .ok (.invokestatic 289, 3) := by decide +kernel
theorem dX9_odds_94 : decode cX9_odds 94 = .ok (.idiv, 1) := by decide +kernel
theorem dX9_odds_95 : decode cX9_odds 95 = .ok (.goto 11, 3) := by decide +kernel
theorem dX9_odds_98 : decode cX9_odds 98 = .ok (.bipush 10, 2) := by decide +kernel
theorem dX9_odds_100 : decode cX9_odds 100 = .ok (.iload 4, 2) := by decide +kernel
theorem dX9_odds_102 : decode cX9_odds 102 = .ok (.invokestatic 289, 3) := by decide +kernel
theorem dX9_odds_105 : decode cX9_odds 105 = .ok (.idiv, 1) := by decide +kernel
theorem dX9_odds_106 : decode cX9_odds 106 = .ok (.ireturn, 1) := by decide +kernel
theorem dX9_seed_0 : decode cX9_seed 0 = .ok (.aload_n 0, 1) := by decide +kernel
theorem dX9_seed_1 : decode cX9_seed 1 = .ok (.getfield 10, 3) := by decide +kernel
theorem dX9_seed_4 : decode cX9_seed 4 = .ok (.getfield 292, 3) := by decide +kernel
theorem dX9_seed_7 : decode cX9_seed 7 = .ok (.istore_n 2, 1) := by decide +kernel
theorem dX9_seed_8 : decode cX9_seed 8 = .ok (.aload_n 0, 1) := by decide +kernel
theorem dX9_seed_9 : decode cX9_seed 9 = .ok (.getfield 10, 3) := by decide +kernel
theorem dX9_seed_12 : decode cX9_seed 12 = .ok (.iload_n 1, 1) := by decide +kernel
theorem dX9_seed_13 : decode cX9_seed 13 = .ok (.putfield 292, 3) := by decide +kernel
theorem dX9_seed_16 : decode cX9_seed 16 = .ok (.iload_n 2, 1) := by decide +kernel
theorem dX9_seed_17 : decode cX9_seed 17 = .ok (.ireturn, 1) := by decide +kernel
theorem dX9_voice_0 : decode cX9_voice 0 = .ok (.aload_n 0, 1) := by decide +kernel
theorem dX9_voice_1 : decode cX9_voice 1 = .ok (.iload_n 1, 1) := by decide +kernel
theorem dX9_voice_2 : decode cX9_voice 2 = .ok (.invokevirtual 112, 3) := by decide +kernel
theorem dX9_voice_5 : decode cX9_voice 5 = .ok (.ifCond .eq 12, 3) := by decide +kernel
theorem dX9_voice_8 : decode cX9_voice 8 = .ok (.iload_n 2, 1) := by decide +kernel
theorem dX9_voice_9 : decode cX9_voice 9 = .ok (.ifCond .lt 8, 3) := by decide +kernel
theorem dX9_voice_12 : decode cX9_voice 12 = .ok (.iload_n 2, 1) := by decide +kernel
theorem dX9_voice_13 : decode cX9_voice 13 = .ok (.iconst 4, 1) := by decide +kernel
theorem dX9_voice_14 : decode cX9_voice 14 = .ok (.if_icmp .lt 9, 3) := by decide +kernel
theorem dX9_voice_17 : decode cX9_voice 17 = .ok (.aload_n 0, 1) := by decide +kernel
theorem dX9_voice_18 : decode cX9_voice 18 = .ok (.iconst 1, 1) := by decide +kernel
theorem dX9_voice_19 : decode cX9_voice 19 = .ok (.invokevirtual 84, 3) := by decide +kernel
theorem dX9_voice_22 : decode cX9_voice 22 = .ok (.ireturn, 1) := by decide +kernel
theorem dX9_voice_23 : decode cX9_voice 23 = .ok (.aload_n 0, 1) := by decide +kernel
theorem dX9_voice_24 : decode cX9_voice 24 = .ok (.getfield 66, 3) := by decide +kernel
theorem dX9_voice_27 : decode cX9_voice 27 = .ok (.aload_n 0, 1) := by decide +kernel
theorem dX9_voice_28 : decode cX9_voice 28 = .ok (.getfield 10, 3) := by decide +kernel
theorem dX9_voice_31 : decode cX9_voice 31 = .ok (.getfield 36, 3) := by decide +kernel
theorem dX9_voice_34 : decode cX9_voice 34 = .ok (.iload_n 1, 1) := by decide +kernel
theorem dX9_voice_35 : decode cX9_voice 35 = .ok (.aaload, 1) := by decide +kernel
theorem dX9_voice_36 : decode cX9_voice 36 = .ok (.iload_n 1, 1) := by decide +kernel
theorem dX9_voice_37 : decode cX9_voice 37 = .ok (.iload_n 2, 1) := by decide +kernel
theorem dX9_voice_38 : decode cX9_voice 38 = .ok (.iload_n 3, 1) := by decide +kernel
theorem dX9_voice_39 : decode cX9_voice 39 = .ok (.invokevirtual 295, 3) := by decide +kernel
theorem dX9_voice_42 : decode cX9_voice 42 = .ok (.ireturn, 1) := by decide +kernel
theorem dX9_trace_0 : decode cX9_trace 0 = .ok (.iload_n 1, 1) := by decide +kernel
theorem dX9_trace_1 : decode cX9_trace 1 = .ok (.ifCond .lt 14, 3) := by decide +kernel
theorem dX9_trace_4 : decode cX9_trace 4 = .ok (.iload_n 1, 1) := by decide +kernel
theorem dX9_trace_5 : decode cX9_trace 5 = .ok (.aload_n 0, 1) := by decide +kernel
theorem dX9_trace_6 : decode cX9_trace 6 = .ok (.getfield 66, 3) := by decide +kernel
theorem dX9_trace_9 : decode cX9_trace 9 = .ok (.getfield 299, 3) := by decide +kernel
theorem dX9_trace_12 : decode cX9_trace 12 = .ok (.if_icmp .lt 9, 3) := by decide +kernel
theorem dX9_trace_15 : decode cX9_trace 15 = .ok (.aload_n 0, 1) := by decide +kernel
theorem dX9_trace_16 : decode cX9_trace 16 = .ok (.iconst 2, 1) := by decide +kernel
theorem dX9_trace_17 : decode cX9_trace 17 = .ok (.invokevirtual 84, 3) := by decide +kernel
theorem dX9_trace_20 : decode cX9_trace 20 = .ok (.ireturn, 1) := by decide +kernel
theorem dX9_trace_21 : decode cX9_trace 21 = .ok (.aload_n 0, 1) := by decide +kernel
theorem dX9_trace_22 : decode cX9_trace 22 = .ok (.getfield 66, 3) := by decide +kernel
theorem dX9_trace_25 : decode cX9_trace 25 = .ok (.getfield 300, 3) := by decide +kernel
theorem dX9_trace_28 : decode cX9_trace 28 = .ok (.iload_n 1, 1) := by decide +kernel
theorem dX9_trace_29 : decode cX9_trace 29 = .ok (.iaload, 1) := by decide +kernel
theorem dX9_trace_30 : decode cX9_trace 30 = .ok (.ireturn, 1) := by decide +kernel
theorem dX9_sheet_0 : decode cX9_sheet 0 = .ok (.iload_n 1, 1) := by decide +kernel
theorem dX9_sheet_1 : decode cX9_sheet 1 = .ok (.invokestatic 243, 3) := by decide +kernel
theorem dX9_sheet_4 : decode cX9_sheet 4 = .ok (.ifCond .eq 10, 3) := by decide +kernel
theorem dX9_sheet_7 : decode cX9_sheet 7 = .ok (.iload_n 2, 1) := by decide +kernel
theorem dX9_sheet_8 : decode cX9_sheet 8 = .ok (.invokestatic 303, 3) := by decide +kernel
theorem dX9_sheet_11 : decode cX9_sheet 11 = .ok (.ifCond .ne 9, 3) := by decide +kernel
theorem dX9_sheet_14 : decode cX9_sheet 14 = .ok (.aload_n 0, 1) := by decide +kernel
theorem dX9_sheet_15 : decode cX9_sheet 15 = .ok (.iconst 1, 1) := by decide +kernel
theorem dX9_sheet_16 : decode cX9_sheet 16 = .ok (.invokevirtual 84, 3) := by decide +kernel
theorem dX9_sheet_19 : decode cX9_sheet 19 = .ok (.ireturn, 1) := by decide +kernel
theorem dX9_sheet_20 : decode cX9_sheet 20 = .ok (.iload_n 2, 1) := by decide +kernel
theorem dX9_sheet_21 : decode cX9_sheet 21 = .ok (.ifCond .ne 16, 3) := by decide +kernel
theorem dX9_sheet_24 : decode cX9_sheet 24 = .ok (.aload_n 0, 1) := by decide +kernel
theorem dX9_sheet_25 : decode cX9_sheet 25 = .ok (.getfield 72, 3) := by decide +kernel
theorem dX9_sheet_28 : decode cX9_sheet 28 = .ok (.iload_n 1, 1) := by decide +kernel
theorem dX9_sheet_29 : decode cX9_sheet 29 = .ok (.aaload, 1) := by decide +kernel
theorem dX9_sheet_30 : decode cX9_sheet 30 = .ok (.iconst 0, 1) := by decide +kernel
theorem dX9_sheet_31 : decode cX9_sheet 31 = .ok (.iconst 0, 1) := by decide +kernel
theorem dX9_sheet_32 : decode cX9_sheet 32 = .ok (.invokevirtual 306, 3) := by decide +kernel
theorem dX9_sheet_35 : decode cX9_sheet 35 = .ok (.iconst 1, 1) := by decide +kernel
theorem dX9_sheet_36 : decode cX9_sheet 36 = .ok (.ireturn, 1) := by decide +kernel
theorem dX9_sheet_37 : decode cX9_sheet 37 = .ok (.iload_n 3, 1) := by decide +kernel
theorem dX9_sheet_38 : decode cX9_sheet 38 = .ok (.ifCond .ge 9, 3) := by decide +kernel
theorem dX9_sheet_41 : decode cX9_sheet 41 = .ok (.aload_n 0, 1) := by decide +kernel
theorem dX9_sheet_42 : decode cX9_sheet 42 = .ok (.iconst 3, 1) := by decide +kernel
theorem dX9_sheet_43 : decode cX9_sheet 43 = .ok (.invokevirtual 84, 3) := by decide +kernel
theorem dX9_sheet_46 : decode cX9_sheet 46 = .ok (.ireturn, 1) := by decide +kernel
theorem dX9_sheet_47 : decode cX9_sheet 47 = .ok (.iload_n 3, 1) := by decide +kernel
theorem dX9_sheet_48 : decode cX9_sheet 48 = .ok (.bipush 40, 2) := by decide +kernel
theorem dX9_sheet_50 : decode cX9_sheet 50 = .ok (.if_icmp .le 9, 3) := by decide +kernel
theorem dX9_sheet_53 : decode cX9_sheet 53 = .ok (.aload_n 0, 1) := by decide +kernel
theorem dX9_sheet_54 : decode cX9_sheet 54 = .ok (.iconst 1, 1) := by decide +kernel
theorem dX9_sheet_55 : decode cX9_sheet 55 = .ok (.invokevirtual 84, 3) := by decide +kernel
theorem dX9_sheet_58 : decode cX9_sheet 58 = .ok (.ireturn, 1) := by decide +kernel
theorem dX9_sheet_59 : decode cX9_sheet 59 = .ok (.aload_n 0, 1) := by decide +kernel
theorem dX9_sheet_60 : decode cX9_sheet 60 = .ok (.getfield 72, 3) := by decide +kernel
theorem dX9_sheet_63 : decode cX9_sheet 63 = .ok (.iload_n 1, 1) := by decide +kernel
theorem dX9_sheet_64 : decode cX9_sheet 64 = .ok (.aaload, 1) := by decide +kernel
theorem dX9_sheet_65 : decode cX9_sheet 65 = .ok (.iload_n 2, 1) := by decide +kernel
theorem dX9_sheet_66 : decode cX9_sheet 66 = .ok (.iload_n 3, 1) := by decide +kernel
theorem dX9_sheet_67 : decode cX9_sheet 67 = .ok (.invokevirtual 306, 3) := by decide +kernel
theorem dX9_sheet_70 : decode cX9_sheet 70 = .ok (.iconst 1, 1) := by decide +kernel
theorem dX9_sheet_71 : decode cX9_sheet 71 = .ok (.ireturn, 1) := by decide +kernel
theorem dX9_put_0 : decode cX9_put 0 = .ok (.iload_n 1, 1) := by decide +kernel
theorem dX9_put_1 : decode cX9_put 1 = .ok (.invokestatic 243, 3) := by decide +kernel
theorem dX9_put_4 : decode cX9_put 4 = .ok (.ifCond .ne 9, 3) := by decide +kernel
theorem dX9_put_7 : decode cX9_put 7 = .ok (.aload_n 0, 1) := by decide +kernel
theorem dX9_put_8 : decode cX9_put 8 = .ok (.iconst 1, 1) := by decide +kernel
theorem dX9_put_9 : decode cX9_put 9 = .ok (.invokevirtual 84, 3) := by decide +kernel
theorem dX9_put_12 : decode cX9_put 12 = .ok (.ireturn, 1) := by decide +kernel
theorem dX9_put_13 : decode cX9_put 13 = .ok (.aload_n 0, 1) := by decide +kernel
theorem dX9_put_14 : decode cX9_put 14 = .ok (.getfield 72, 3) := by decide +kernel
theorem dX9_put_17 : decode cX9_put 17 = .ok (.iload_n 1, 1) := by decide +kernel
theorem dX9_put_18 : decode cX9_put 18 = .ok (.aaload, 1) := by decide +kernel
theorem dX9_put_19 : decode cX9_put 19 = .ok (.astore 4, 2) := by decide +kernel
theorem dX9_put_21 : decode cX9_put 21 = .ok (.aload 4, 2) := by decide +kernel
theorem dX9_put_23 : decode cX9_put 23 = .ok (.invokevirtual 309, 3) := by decide +kernel
theorem dX9_put_26 : decode cX9_put 26 = .ok (.ifCond .eq 9, 3) := by decide +kernel
theorem dX9_put_29 : decode cX9_put 29 = .ok (.aload_n 0, 1) := by decide +kernel
theorem dX9_put_30 : decode cX9_put 30 = .ok (.iconst 2, 1) := by decide +kernel
theorem dX9_put_31 : decode cX9_put 31 = .ok (.invokevirtual 84, 3) := by decide +kernel
theorem dX9_put_34 : decode cX9_put 34 = .ok (.ireturn, 1) := by decide +kernel
theorem dX9_put_35 : decode cX9_put 35 = .ok (.iload_n 2, 1) := by decide +kernel
theorem dX9_put_36 : decode cX9_put 36 = .ok (.ifCond .lt 12, 3) := by decide +kernel
theorem dX9_put_39 : decode cX9_put 39 = .ok (.iload_n 2, 1) := by decide +kernel
theorem dX9_put_40 : decode cX9_put 40 = .ok (.aload 4, 2) := by decide +kernel
theorem dX9_put_42 : decode cX9_put 42 = .ok (.getfield 313, 3) := by decide +kernel
theorem dX9_put_45 : decode cX9_put 45 = .ok (.if_icmp .lt 9, 3) := by decide +kernel
theorem dX9_put_48 : decode cX9_put 48 = .ok (.aload_n 0, 1) := by decide +kernel
theorem dX9_put_49 : decode cX9_put 49 = .ok (.iconst 1, 1) := by decide +kernel
theorem dX9_put_50 : decode cX9_put 50 = .ok (.invokevirtual 84, 3) := by decide +kernel
theorem dX9_put_53 : decode cX9_put 53 = .ok (.ireturn, 1) := by decide +kernel
theorem dX9_put_54 : decode cX9_put 54 = .ok (.aload 4, 2) := by decide +kernel
theorem dX9_put_56 : decode cX9_put 56 = .ok (.iload_n 2, 1) := by decide +kernel
theorem dX9_put_57 : decode cX9_put 57 = .ok (.iload_n 3, 1) := by decide +kernel
theorem dX9_put_58 : decode cX9_put 58 = .ok (.invokevirtual 314, 3) := by decide +kernel
theorem dX9_put_61 : decode cX9_put 61 = .ok (.iconst 1, 1) := by decide +kernel
theorem dX9_put_62 : decode cX9_put 62 = .ok (.ireturn, 1) := by decide +kernel
theorem dX9_move_0 : decode cX9_move 0 = .ok (.iload_n 1, 1) := by decide +kernel
theorem dX9_move_1 : decode cX9_move 1 = .ok (.invokestatic 243, 3) := by decide +kernel
theorem dX9_move_4 : decode cX9_move 4 = .ok (.ifCond .eq 10, 3) := by decide +kernel
theorem dX9_move_7 : decode cX9_move 7 = .ok (.iload_n 3, 1) := by decide +kernel
theorem dX9_move_8 : decode cX9_move 8 = .ok (.invokestatic 243, 3) := by decide +kernel
theorem dX9_move_11 : decode cX9_move 11 = .ok (.ifCond .ne 9, 3) := by decide +kernel
theorem dX9_move_14 : decode cX9_move 14 = .ok (.aload_n 0, 1) := by decide +kernel
theorem dX9_move_15 : decode cX9_move 15 = .ok (.iconst 1, 1) := by decide +kernel
theorem dX9_move_16 : decode cX9_move 16 = .ok (.invokevirtual 84, 3) := by decide +kernel
theorem dX9_move_19 : decode cX9_move 19 = .ok (.ireturn, 1) := by decide +kernel
theorem dX9_move_20 : decode cX9_move 20 = .ok (.aload_n 0, 1) := by decide +kernel
theorem dX9_move_21 : decode cX9_move 21 = .ok (.getfield 72, 3) := by decide +kernel
theorem dX9_move_24 : decode cX9_move 24 = .ok (.iload_n 1, 1) := by decide +kernel
theorem dX9_move_25 : decode cX9_move 25 = .ok (.aaload, 1) := by decide +kernel
theorem dX9_move_26 : decode cX9_move 26 = .ok (.astore 6, 2) := by decide +kernel
theorem dX9_move_28 : decode cX9_move 28 = .ok (.aload_n 0, 1) := by decide +kernel
theorem dX9_move_29 : decode cX9_move 29 = .ok (.getfield 72, 3) := by decide +kernel
theorem dX9_move_32 : decode cX9_move 32 = .ok (.iload_n 3, 1) := by decide +kernel
theorem dX9_move_33 : decode cX9_move 33 = .ok (.aaload, 1) := by decide +kernel
theorem dX9_move_34 : decode cX9_move 34 = .ok (.astore 7, 2) := by decide +kernel
theorem dX9_move_36 : decode cX9_move 36 = .ok (.aload 6, 2) := by decide +kernel
theorem dX9_move_38 : decode cX9_move 38 = .ok (.invokevirtual 309, 3) := by decide +kernel
theorem dX9_move_41 : decode cX9_move 41 = .ok (.ifCond .ne 11, 3) := by decide +kernel
theorem dX9_move_44 : decode cX9_move 44 = .ok (.aload 7, 2) := by decide +kernel
theorem dX9_move_46 : decode cX9_move 46 = .ok (.invokevirtual 309, 3) := by decide +kernel
theorem dX9_move_49 : decode cX9_move 49 = .ok (.ifCond .eq 9, 3) := by decide +kernel
theorem dX9_move_52 : decode cX9_move 52 = .ok (.aload_n 0, 1) := by decide +kernel
theorem dX9_move_53 : decode cX9_move 53 = .ok (.iconst 2, 1) := by decide +kernel
theorem dX9_move_54 : decode cX9_move 54 = .ok (.invokevirtual 84, 3) := by decide +kernel
theorem dX9_move_57 : decode cX9_move 57 = .ok (.ireturn, 1) := by decide +kernel
theorem dX9_move_58 : decode cX9_move 58 = .ok (.aload 6, 2) := by decide +kernel
theorem dX9_move_60 : decode cX9_move 60 = .ok (.getfield 317, 3) := by decide +kernel
theorem dX9_move_63 : decode cX9_move 63 = .ok (.aload 7, 2) := by decide +kernel
theorem dX9_move_65 : decode cX9_move 65 = .ok (.getfield 317, 3) := by decide +kernel
theorem dX9_move_68 : decode cX9_move 68 = .ok (.if_icmp .eq 9, 3) := by decide +kernel
theorem dX9_move_71 : decode cX9_move 71 = .ok (.aload_n 0, 1) := by decide +kernel
theorem dX9_move_72 : decode cX9_move 72 = .ok (.iconst 5, 1) := by decide +kernel
theorem dX9_move_73 : decode cX9_move 73 = .ok (.invokevirtual 84, 3) := by decide +kernel
theorem dX9_move_76 : decode cX9_move 76 = .ok (.ireturn, 1) := by decide +kernel
theorem dX9_move_77 : decode cX9_move 77 = .ok (.aload 6, 2) := by decide +kernel
theorem dX9_move_79 : decode cX9_move 79 = .ok (.iload_n 2, 1) := by decide +kernel
theorem dX9_move_80 : decode cX9_move 80 = .ok (.iload 5, 2) := by decide +kernel
theorem dX9_move_82 : decode cX9_move 82 = .ok (.invokevirtual 320, 3) := by decide +kernel
theorem dX9_move_85 : decode cX9_move 85 = .ok (.ifCond .eq 15, 3) := by decide +kernel
theorem dX9_move_88 : decode cX9_move 88 = .ok (.aload 7, 2) := by decide +kernel
theorem dX9_move_90 : decode cX9_move 90 = .ok (.iload 4, 2) := by decide +kernel
theorem dX9_move_92 : decode cX9_move 92 = .ok (.iload 5, 2) := by decide +kernel
theorem dX9_move_94 : decode cX9_move 94 = .ok (.invokevirtual 320, 3) := by decide +kernel
theorem dX9_move_97 : decode cX9_move 97 = .ok (.ifCond .ne 9, 3) := by decide +kernel
theorem dX9_move_100 : decode cX9_move 100 = .ok (.aload_n 0, 1) := by decide +kernel
theorem dX9_move_101 : decode cX9_move 101 = .ok (.iconst 1, 1) := by decide +kernel
theorem dX9_move_102 : decode cX9_move 102 = .ok (.invokevirtual 84, 3) := by decide +kernel
theorem dX9_move_105 : decode cX9_move 105 = .ok (.ireturn, 1) := by decide +kernel
theorem dX9_move_106 : decode cX9_move 106 = .ok (.aload 6, 2) := by decide +kernel
theorem dX9_move_108 : decode cX9_move 108 = .ok (.getfield 324, 3) := by decide +kernel
theorem dX9_move_111 : decode cX9_move 111 = .ok (.iload_n 2, 1) := by decide +kernel
theorem dX9_move_112 : decode cX9_move 112 = .ok (.aload 7, 2) := by decide +kernel
theorem dX9_move_114 : decode cX9_move 114 = .ok (.getfield 324, 3) := by decide +kernel
theorem dX9_move_117 : decode cX9_move 117 = .ok (.iload 4, 2) := by decide +kernel
theorem dX9_move_119 : decode cX9_move 119 = .ok (.iload 5, 2) := by decide +kernel
theorem dX9_move_121 : decode cX9_move 121 = .ok (.invokestatic 327, 3) := by decide +kernel
theorem dX9_move_124 : decode cX9_move 124 = .ok (.iload 5, 2) := by decide +kernel
theorem dX9_move_126 : decode cX9_move 126 = .ok (.ireturn, 1) := by decide +kernel
theorem dX9_thicks_0 : decode cX9_thicks 0 = .ok (.iload_n 1, 1) := by decide +kernel
theorem dX9_thicks_1 : decode cX9_thicks 1 = .ok (.invokestatic 243, 3) := by decide +kernel
theorem dX9_thicks_4 : decode cX9_thicks 4 = .ok (.ifCond .ne 9, 3) := by decide +kernel
theorem dX9_thicks_7 : decode cX9_thicks 7 = .ok (.aload_n 0, 1) := by decide +kernel
theorem dX9_thicks_8 : decode cX9_thicks 8 = .ok (.iconst 1, 1) := by decide +kernel
theorem dX9_thicks_9 : decode cX9_thicks 9 = .ok (.invokevirtual 84, 3) := by decide +kernel
theorem dX9_thicks_12 : decode cX9_thicks 12 = .ok (.ireturn, 1) := by decide +kernel
theorem dX9_thicks_13 : decode cX9_thicks 13 = .ok (.aload_n 0, 1) := by decide +kernel
theorem dX9_thicks_14 : decode cX9_thicks 14 = .ok (.getfield 72, 3) := by decide +kernel
theorem dX9_thicks_17 : decode cX9_thicks 17 = .ok (.iload_n 1, 1) := by decide +kernel
theorem dX9_thicks_18 : decode cX9_thicks 18 = .ok (.aaload, 1) := by decide +kernel
theorem dX9_thicks_19 : decode cX9_thicks 19 = .ok (.astore_n 2, 1) := by decide +kernel
theorem dX9_thicks_20 : decode cX9_thicks 20 = .ok (.aload_n 2, 1) := by decide +kernel
theorem dX9_thicks_21 : decode cX9_thicks 21 = .ok (.invokevirtual 309, 3) := by decide +kernel
theorem dX9_thicks_24 : decode cX9_thicks 24 = .ok (.ifCond .eq 9, 3) := by decide +kernel
theorem dX9_thicks_27 : decode cX9_thicks 27 = .ok (.aload_n 0, 1) := by decide +kernel
theorem dX9_thicks_28 : decode cX9_thicks 28 = .ok (.iconst 2, 1) := by decide +kernel
theorem dX9_thicks_29 : decode cX9_thicks 29 = .ok (.invokevirtual 84, 3) := by decide +kernel
theorem dX9_thicks_32 : decode cX9_thicks 32 = .ok (.ireturn, 1) := by decide +kernel
theorem dX9_thicks_33 : decode cX9_thicks 33 = .ok (.aload_n 2, 1) := by decide +kernel
theorem dX9_thicks_34 : decode cX9_thicks 34 = .ok (.getfield 313, 3) := by decide +kernel
theorem dX9_thicks_37 : decode cX9_thicks 37 = .ok (.aload_n 0, 1) := by decide +kernel
theorem dX9_thicks_38 : decode cX9_thicks 38 = .ok (.getfield 10, 3) := by decide +kernel
theorem dX9_thicks_41 : decode cX9_thicks 41 = .ok (.getfield 104, 3) := by decide +kernel
theorem dX9_thicks_44 : decode cX9_thicks 44 = .ok (.invokestatic 333, 3) := by decide +kernel
theorem dX9_thicks_47 : decode cX9_thicks 47 = .ok (.istore_n 3, 1) := by decide +kernel
theorem dX9_thicks_48 : decode cX9_thicks 48 = .ok (.iconst 0, 1) := by decide +kernel
theorem dX9_thicks_49 : decode cX9_thicks 49 = .ok (.istore 4, 2) := by decide +kernel
theorem dX9_thicks_51 : decode cX9_thicks 51 = .ok (.iload 4, 2) := by decide +kernel
theorem dX9_thicks_53 : decode cX9_thicks 53 = .ok (.iload_n 3, 1) := by decide +kernel
theorem dX9_thicks_54 : decode cX9_thicks 54 = .ok (.if_icmp .ge 45, 3) := by decide +kernel
theorem dX9_thicks_57 : decode cX9_thicks 57 = .ok (.aload_n 2, 1) := by decide +kernel
theorem dX9_thicks_58 : decode cX9_thicks 58 = .ok (.getfield 324, 3) := by decide +kernel
theorem dX9_thicks_61 : decode cX9_thicks 61 = .ok (.iload 4, 2) := by decide +kernel
theorem dX9_thicks_63 : decode cX9_thicks 63 = .ok (.iaload, 1) := by decide +kernel
theorem dX9_thicks_64 : decode cX9_thicks 64 = .ok (.invokestatic 101, 3) := by decide +kernel
theorem dX9_thicks_67 : decode cX9_thicks 67 = .ok (.ifCond .ne 6, 3) := by decide +kernel
theorem dX9_thicks_70 : decode cX9_thicks 70 = .ok (.iload 4, 2) := by decide +kernel
theorem dX9_thicks_72 : decode cX9_thicks 72 = .ok (.ireturn, 1) := by decide +kernel
theorem dX9_thicks_73 : decode cX9_thicks 73 = .ok (.aload_n 0, 1) := by decide +kernel
theorem dX9_thicks_74 : decode cX9_thicks 74 = .ok (.getfield 10, 3) := by decide +kernel
theorem dX9_thicks_77 : decode cX9_thicks 77 = .ok (.getfield 36, 3) := by decide +kernel
theorem dX9_thicks_80 : decode cX9_thicks 80 = .ok (.iload 4, 2) := by decide +kernel
theorem dX9_thicks_82 : decode cX9_thicks 82 = .ok (.aaload, 1) := by decide +kernel
theorem dX9_thicks_83 : decode cX9_thicks 83 = .ok (.aload_n 2, 1) := by decide +kernel
theorem dX9_thicks_84 : decode cX9_thicks 84 = .ok (.getfield 324, 3) := by decide +kernel
theorem dX9_thicks_87 : decode cX9_thicks 87 = .ok (.iload 4, 2) := by decide +kernel
theorem dX9_thicks_89 : decode cX9_thicks 89 = .ok (.iaload, 1) := by decide +kernel
theorem dX9_thicks_90 : decode cX9_thicks 90 = .ok (.putfield 121, 3) := by decide +kernel
theorem dX9_thicks_93 : decode cX9_thicks 93 = .ok (.iinc 4 1, 3) := by decide +kernel
theorem dX9_thicks_96 : decode cX9_thicks 96 = .ok (.goto (-45), 3) := by decide +kernel
theorem dX9_thicks_99 : decode cX9_thicks 99 = .ok (.iload_n 3, 1) := by decide +kernel
theorem dX9_thicks_100 : decode cX9_thicks 100 = .ok (.ireturn, 1) := by decide +kernel
theorem dX9_judge_0 : decode cX9_judge 0 = .ok (.iload_n 1, 1) := by decide +kernel
theorem dX9_judge_1 : decode cX9_judge 1 = .ok (.invokestatic 243, 3) := by decide +kernel
theorem dX9_judge_4 : decode cX9_judge 4 = .ok (.ifCond .ne 9, 3) := by decide +kernel
theorem dX9_judge_7 : decode cX9_judge 7 = .ok (.aload_n 0, 1) := by decide +kernel
theorem dX9_judge_8 : decode cX9_judge 8 = .ok (.iconst 1, 1) := by decide +kernel
theorem dX9_judge_9 : decode cX9_judge 9 = .ok (.invokevirtual 84, 3) := by decide +kernel
theorem dX9_judge_12 : decode cX9_judge 12 = .ok (.ireturn, 1) := by decide +kernel
theorem dX9_judge_13 : decode cX9_judge 13 = .ok (.aload_n 0, 1) := by decide +kernel
theorem dX9_judge_14 : decode cX9_judge 14 = .ok (.getfield 72, 3) := by decide +kernel
theorem dX9_judge_17 : decode cX9_judge 17 = .ok (.iload_n 1, 1) := by decide +kernel
theorem dX9_judge_18 : decode cX9_judge 18 = .ok (.aaload, 1) := by decide +kernel
theorem dX9_judge_19 : decode cX9_judge 19 = .ok (.astore_n 2, 1) := by decide +kernel
theorem dX9_judge_20 : decode cX9_judge 20 = .ok (.aload_n 2, 1) := by decide +kernel
theorem dX9_judge_21 : decode cX9_judge 21 = .ok (.invokevirtual 309, 3) := by decide +kernel
theorem dX9_judge_24 : decode cX9_judge 24 = .ok (.ifCond .eq 9, 3) := by decide +kernel
theorem dX9_judge_27 : decode cX9_judge 27 = .ok (.aload_n 0, 1) := by decide +kernel
theorem dX9_judge_28 : decode cX9_judge 28 = .ok (.iconst 2, 1) := by decide +kernel
theorem dX9_judge_29 : decode cX9_judge 29 = .ok (.invokevirtual 84, 3) := by decide +kernel
theorem dX9_judge_32 : decode cX9_judge 32 = .ok (.ireturn, 1) := by decide +kernel
theorem dX9_judge_33 : decode cX9_judge 33 = .ok (.aload_n 2, 1) := by decide +kernel
theorem dX9_judge_34 : decode cX9_judge 34 = .ok (.getfield 313, 3) := by decide +kernel
theorem dX9_judge_37 : decode cX9_judge 37 = .ok (.aload_n 0, 1) := by decide +kernel
theorem dX9_judge_38 : decode cX9_judge 38 = .ok (.getfield 10, 3) := by decide +kernel
theorem dX9_judge_41 : decode cX9_judge 41 = .ok (.getfield 104, 3) := by decide +kernel
theorem dX9_judge_44 : decode cX9_judge 44 = .ok (.invokestatic 333, 3) := by decide +kernel
theorem dX9_judge_47 : decode cX9_judge 47 = .ok (.istore_n 3, 1) := by decide +kernel
theorem dX9_judge_48 : decode cX9_judge 48 = .ok (.iconst 0, 1) := by decide +kernel
theorem dX9_judge_49 : decode cX9_judge 49 = .ok (.istore 4, 2) := by decide +kernel
theorem dX9_judge_51 : decode cX9_judge 51 = .ok (.iload 4, 2) := by decide +kernel
theorem dX9_judge_53 : decode cX9_judge 53 = .ok (.iload_n 3, 1) := by decide +kernel
theorem dX9_judge_54 : decode cX9_judge 54 = .ok (.if_icmp .ge 38, 3) := by decide +kernel
theorem dX9_judge_57 : decode cX9_judge 57 = .ok (.aload_n 0, 1) := by decide +kernel
theorem dX9_judge_58 : decode cX9_judge 58 = .ok (.iload 4, 2) := by decide +kernel
theorem dX9_judge_60 : decode cX9_judge 60 = .ok (.invokevirtual 130, 3) := by decide +kernel
theorem dX9_judge_63 : decode cX9_judge 63 = .ok (.aload_n 0, 1) := by decide +kernel
theorem dX9_judge_64 : decode cX9_judge 64 = .ok (.getfield 10, 3) := by decide +kernel
theorem dX9_judge_67 : decode cX9_judge 67 = .ok (.getfield 87, 3) := by decide +kernel
theorem dX9_judge_70 : decode cX9_judge 70 = .ok (.invokevirtual 144, 3) := by decide +kernel
theorem dX9_judge_73 : decode cX9_judge 73 = .ok (.aload_n 2, 1) := by decide +kernel
theorem dX9_judge_74 : decode cX9_judge 74 = .ok (.getfield 324, 3) := by decide +kernel
theorem dX9_judge_77 : decode cX9_judge 77 = .ok (.iload 4, 2) := by decide +kernel
theorem dX9_judge_79 : decode cX9_judge 79 = .ok (.iaload, 1) := by decide +kernel
theorem dX9_judge_80 : decode cX9_judge 80 = .ok (.if_icmp .eq 6, 3) := by decide +kernel
theorem dX9_judge_83 : decode cX9_judge 83 = .ok (.iload 4, 2) := by decide +kernel
theorem dX9_judge_85 : decode cX9_judge 85 = .ok (.ireturn, 1) := by decide +kernel
theorem dX9_judge_86 : decode cX9_judge 86 = .ok (.iinc 4 1, 3) := by decide +kernel
theorem dX9_judge_89 : decode cX9_judge 89 = .ok (.goto (-38), 3) := by decide +kernel
theorem dX9_judge_92 : decode cX9_judge 92 = .ok (.aload_n 2, 1) := by decide +kernel
theorem dX9_judge_93 : decode cX9_judge 93 = .ok (.getfield 313, 3) := by decide +kernel
theorem dX9_judge_96 : decode cX9_judge 96 = .ok (.aload_n 0, 1) := by decide +kernel
theorem dX9_judge_97 : decode cX9_judge 97 = .ok (.getfield 10, 3) := by decide +kernel
theorem dX9_judge_100 : decode cX9_judge 100 = .ok (.getfield 104, 3) := by decide +kernel
theorem dX9_judge_103 : decode cX9_judge 103 = .ok (.if_icmp .ne 7, 3) := by decide +kernel
theorem dX9_judge_106 : decode cX9_judge 106 = .ok (.iconst (-1), 1) := by decide +kernel
theorem dX9_judge_107 : decode cX9_judge 107 = .ok (.goto 4, 3) := by decide +kernel
theorem dX9_judge_110 : decode cX9_judge 110 = .ok (.iload_n 3, 1) := by decide +kernel
theorem dX9_judge_111 : decode cX9_judge 111 = .ok (.ireturn, 1) := by decide +kernel
theorem dX9_image_0 : decode cX9_image 0 = .ok (.aload_n 0, 1) := by decide +kernel
theorem dX9_image_1 : decode cX9_image 1 = .ok (.getfield 16, 3) := by decide +kernel
theorem dX9_image_4 : decode cX9_image 4 = .ok (.aload_n 0, 1) := by decide +kernel
theorem dX9_image_5 : decode cX9_image 5 = .ok (.getfield 10, 3) := by decide +kernel
theorem dX9_image_8 : decode cX9_image 8 = .ok (.invokevirtual 339, 3) := by decide +kernel
theorem dX9_image_11 : decode cX9_image 11 = .ok (.aload_n 0, 1) := by decide +kernel
theorem dX9_image_12 : decode cX9_image 12 = .ok (.dup, 1) := by decide +kernel
theorem dX9_image_13 : decode cX9_image 13 = .ok (.getfield 19, 3) := by decide +kernel
theorem dX9_image_16 : decode cX9_image 16 = .ok (.iconst 1, 1) := by decide +kernel
theorem dX9_image_17 : decode cX9_image 17 = .ok (.iadd, 1) := by decide +kernel
theorem dX9_image_18 : decode cX9_image 18 = .ok (.putfield 19, 3) := by decide +kernel
theorem dX9_image_21 : decode cX9_image 21 = .ok (.aload_n 0, 1) := by decide +kernel
theorem dX9_image_22 : decode cX9_image 22 = .ok (.getfield 19, 3) := by decide +kernel
theorem dX9_image_25 : decode cX9_image 25 = .ok (.ireturn, 1) := by decide +kernel
theorem dX9_restore_0 : decode cX9_restore 0 = .ok (.aload_n 0, 1) := by decide +kernel
theorem dX9_restore_1 : decode cX9_restore 1 = .ok (.getfield 19, 3) := by decide +kernel
theorem dX9_restore_4 : decode cX9_restore 4 = .ok (.ifCond .ne 9, 3) := by decide +kernel
theorem dX9_restore_7 : decode cX9_restore 7 = .ok (.aload_n 0, 1) := by decide +kernel
theorem dX9_restore_8 : decode cX9_restore 8 = .ok (.iconst 2, 1) := by decide +kernel
theorem dX9_restore_9 : decode cX9_restore 9 = .ok (.invokevirtual 84, 3) := by decide +kernel
theorem dX9_restore_12 : decode cX9_restore 12 = .ok (.ireturn, 1) := by decide +kernel
theorem dX9_restore_13 : decode cX9_restore 13 = .ok (.aload_n 0, 1) := by decide +kernel
theorem dX9_restore_14 : decode cX9_restore 14 = .ok (.getfield 10, 3) := by decide +kernel
theorem dX9_restore_17 : decode cX9_restore 17 = .ok (.aload_n 0, 1) := by decide +kernel
theorem dX9_restore_18 : decode cX9_restore 18 = .ok (.getfield 16, 3) := by decide +kernel
theorem dX9_restore_21 : decode cX9_restore 21 = .ok (.invokevirtual 339, 3) := by decide +kernel
theorem dX9_restore_24 : decode cX9_restore 24 = .ok (.aload_n 0, 1) := by decide +kernel
theorem dX9_restore_25 : decode cX9_restore 25 = .ok (.getfield 10, 3) := by decide +kernel
theorem dX9_restore_28 : decode cX9_restore 28 = .ok (.getfield 195, 3) := by decide +kernel
theorem dX9_restore_31 : decode cX9_restore 31 = .ok (.ireturn, 1) := by decide +kernel
theorem dX9_tell_0 : decode cX9_tell 0 = .ok (.aload_n 0, 1) := by decide +kernel
theorem dX9_tell_1 : decode cX9_tell 1 = .ok (.getfield 10, 3) := by decide +kernel
theorem dX9_tell_4 : decode cX9_tell 4 = .ok (.getfield 342, 3) := by decide +kernel
theorem dX9_tell_7 : decode cX9_tell 7 = .ok (.bipush 20, 2) := by decide +kernel
theorem dX9_tell_9 : decode cX9_tell 9 = .ok (.if_icmp .lt 9, 3) := by decide +kernel
theorem dX9_tell_12 : decode cX9_tell 12 = .ok (.aload_n 0, 1) := by decide +kernel
theorem dX9_tell_13 : decode cX9_tell 13 = .ok (.iconst 4, 1) := by decide +kernel
theorem dX9_tell_14 : decode cX9_tell 14 = .ok (.invokevirtual 84, 3) := by decide +kernel
theorem dX9_tell_17 : decode cX9_tell 17 = .ok (.ireturn, 1) := by decide +kernel
theorem dX9_tell_18 : decode cX9_tell 18 = .ok (.aload_n 0, 1) := by decide +kernel
theorem dX9_tell_19 : decode cX9_tell 19 = .ok (.getfield 10, 3) := by decide +kernel
theorem dX9_tell_22 : decode cX9_tell 22 = .ok (.getfield 345, 3) := by decide +kernel
theorem dX9_tell_25 : decode cX9_tell 25 = .ok (.aload_n 0, 1) := by decide +kernel
theorem dX9_tell_26 : decode cX9_tell 26 = .ok (.getfield 10, 3) := by decide +kernel
theorem dX9_tell_29 : decode cX9_tell 29 = .ok (.getfield 342, 3) := by decide +kernel
theorem dX9_tell_32 : decode cX9_tell 32 = .ok (.iload_n 1, 1) := by decide +kernel
theorem dX9_tell_33 : decode cX9_tell 33 = .ok (.iastore, 1) := by decide +kernel
theorem dX9_tell_34 : decode cX9_tell 34 = .ok (.aload_n 0, 1) := by decide +kernel
theorem dX9_tell_35 : decode cX9_tell 35 = .ok (.getfield 10, 3) := by decide +kernel
theorem dX9_tell_38 : decode cX9_tell 38 = .ok (.dup, 1) := by decide +kernel
theorem dX9_tell_39 : decode cX9_tell 39 = .ok (.getfield 342, 3) := by decide +kernel
theorem dX9_tell_42 : decode cX9_tell 42 = .ok (.iconst 1, 1) := by decide +kernel
theorem dX9_tell_43 : decode cX9_tell 43 = .ok (.iadd, 1) := by decide +kernel
theorem dX9_tell_44 : decode cX9_tell 44 = .ok (.putfield 342, 3) := by decide +kernel
theorem dX9_tell_47 : decode cX9_tell 47 = .ok (.aload_n 0, 1) := by decide +kernel
theorem dX9_tell_48 : decode cX9_tell 48 = .ok (.getfield 10, 3) := by decide +kernel
theorem dX9_tell_51 : decode cX9_tell 51 = .ok (.getfield 342, 3) := by decide +kernel
theorem dX9_tell_54 : decode cX9_tell 54 = .ok (.ireturn, 1) := by decide +kernel
theorem dX9_check_0 : decode cX9_check 0 = .ok (.aload_n 0, 1) := by decide +kernel
theorem dX9_check_1 : decode cX9_check 1 = .ok (.getfield 10, 3) := by decide +kernel
theorem dX9_check_4 : decode cX9_check 4 = .ok (.getfield 342, 3) := by decide +kernel
theorem dX9_check_7 : decode cX9_check 7 = .ok (.istore_n 1, 1) := by decide +kernel
theorem dX9_check_8 : decode cX9_check 8 = .ok (.aload_n 0, 1) := by decide +kernel
theorem dX9_check_9 : decode cX9_check 9 = .ok (.getfield 10, 3) := by decide +kernel
theorem dX9_check_12 : decode cX9_check 12 = .ok (.iconst 0, 1) := by decide +kernel
theorem dX9_check_13 : decode cX9_check 13 = .ok (.putfield 342, 3) := by decide +kernel
theorem dX9_check_16 : decode cX9_check 16 = .ok (.aload_n 0, 1) := by decide +kernel
theorem dX9_check_17 : decode cX9_check 17 = .ok (.getfield 10, 3) := by decide +kernel
theorem dX9_check_20 : decode cX9_check 20 = .ok (.getfield 104, 3) := by decide +kernel
theorem dX9_check_23 : decode cX9_check 23 = .ok (.ifCond .ne 13, 3) := by decide +kernel
theorem dX9_check_26 : decode cX9_check 26 = .ok (.iload_n 1, 1) := by decide +kernel
theorem dX9_check_27 : decode cX9_check 27 = .ok (.ifCond .ne 7, 3) := by decide +kernel
theorem dX9_check_30 : decode cX9_check 30 = .ok (.iconst 0, 1) := by decide +kernel
theorem dX9_check_31 : decode cX9_check 31 = .ok (.goto 4, 3) := by decide +kernel
theorem dX9_check_34 : decode cX9_check 34 = .ok (.iconst 1, 1) := by decide +kernel
theorem dX9_check_35 : decode cX9_check 35 = .ok (.ireturn, 1) := by decide +kernel
theorem dX9_check_36 : decode cX9_check 36 = .ok (.aload_n 0, 1) := by decide +kernel
theorem dX9_check_37 : decode cX9_check 37 = .ok (.iconst 0, 1) := by decide +kernel
theorem dX9_check_38 : decode cX9_check 38 = .ok (.invokevirtual 130, 3) := by decide +kernel
theorem dX9_check_41 : decode cX9_check 41 = .ok (.astore_n 2, 1) := by decide +kernel
theorem dX9_check_42 : decode cX9_check 42 = .ok (.aload_n 0, 1) := by decide +kernel
theorem dX9_check_43 : decode cX9_check 43 = .ok (.getfield 10, 3) := by decide +kernel
theorem dX9_check_46 : decode cX9_check 46 = .ok (.getfield 36, 3) := by decide +kernel
theorem dX9_check_49 : decode cX9_check 49 = .ok (.iconst 0, 1) := by decide +kernel
theorem dX9_check_50 : decode cX9_check 50 = .ok (.aaload, 1) := by decide +kernel
theorem dX9_check_51 : decode cX9_check 51 = .ok (.invokevirtual 226, 3) := by decide +kernel
theorem dX9_check_54 : decode cX9_check 54 = .ok (.istore_n 3, 1) := by decide +kernel
theorem dX9_check_55 : decode cX9_check 55 = .ok (.aload_n 0, 1) := by decide +kernel
theorem dX9_check_56 : decode cX9_check 56 = .ok (.getfield 26, 3) := by decide +kernel
theorem dX9_check_59 : decode cX9_check 59 = .ok (.aload_n 0, 1) := by decide +kernel
theorem dX9_check_60 : decode cX9_check 60 = .ok (.getfield 10, 3) := by decide +kernel
theorem dX9_check_63 : decode cX9_check 63 = .ok (.getfield 87, 3) := by decide +kernel
theorem dX9_check_66 : decode cX9_check 66 = .ok (.invokevirtual 222, 3) := by decide +kernel
theorem dX9_check_69 : decode cX9_check 69 = .ok (.iconst 0, 1) := by decide +kernel
theorem dX9_check_70 : decode cX9_check 70 = .ok (.istore 4, 2) := by decide +kernel
theorem dX9_check_72 : decode cX9_check 72 = .ok (.iload 4, 2) := by decide +kernel
theorem dX9_check_74 : decode cX9_check 74 = .ok (.iload_n 1, 1) := by decide +kernel
theorem dX9_check_75 : decode cX9_check 75 = .ok (.if_icmp .ge 43, 3) := by decide +kernel
theorem dX9_check_78 : decode cX9_check 78 = .ok (.aload_n 0, 1) := by decide +kernel
theorem dX9_check_79 : decode cX9_check 79 = .ok (.getfield 26, 3) := by decide +kernel
theorem dX9_check_82 : decode cX9_check 82 = .ok (.iload_n 3, 1) := by decide +kernel
theorem dX9_check_83 : decode cX9_check 83 = .ok (.invokevirtual 229, 3) := by decide +kernel
theorem dX9_check_86 : decode cX9_check 86 = .ok (.aload_n 2, 1) := by decide +kernel
theorem dX9_check_87 : decode cX9_check 87 = .ok (.aload_n 0, 1) := by decide +kernel
theorem dX9_check_88 : decode cX9_check 88 = .ok (.getfield 26, 3) := by decide +kernel
theorem dX9_check_91 : decode cX9_check 91 = .ok (.invokevirtual 144, 3) := by decide +kernel
theorem dX9_check_94 : decode cX9_check 94 = .ok (.aload_n 0, 1) := by decide +kernel
theorem dX9_check_95 : decode cX9_check 95 = .ok (.getfield 10, 3) := by decide +kernel
theorem dX9_check_98 : decode cX9_check 98 = .ok (.getfield 345, 3) := by decide +kernel
theorem dX9_check_101 : decode cX9_check 101 = .ok (.iload 4, 2) := by decide +kernel
theorem dX9_check_103 : decode cX9_check 103 = .ok (.iaload, 1) := by decide +kernel
theorem dX9_check_104 : decode cX9_check 104 = .ok (.if_icmp .eq 8, 3) := by decide +kernel
theorem dX9_check_107 : decode cX9_check 107 = .ok (.iconst 1, 1) := by decide +kernel
theorem dX9_check_108 : decode cX9_check 108 = .ok (.iload 4, 2) := by decide +kernel
theorem dX9_check_110 : decode cX9_check 110 = .ok (.iadd, 1) := by decide +kernel
theorem dX9_check_111 : decode cX9_check 111 = .ok (.ireturn, 1) := by decide +kernel
theorem dX9_check_112 : decode cX9_check 112 = .ok (.iinc 4 1, 3) := by decide +kernel
theorem dX9_check_115 : decode cX9_check 115 = .ok (.goto (-43), 3) := by decide +kernel
theorem dX9_check_118 : decode cX9_check 118 = .ok (.iconst 0, 1) := by decide +kernel
theorem dX9_check_119 : decode cX9_check 119 = .ok (.ireturn, 1) := by decide +kernel
theorem dX9_count_0 : decode cX9_count 0 = .ok (.iload_n 1, 1) := by decide +kernel
theorem dX9_count_1 : decode cX9_count 1 = .ok (.tableswitch 111 0 7 #[47, 55, 63, 71, 79, 87, 95, 103], 47) := by decide +kernel
theorem dX9_count_48 : decode cX9_count 48 = .ok (.aload_n 0, 1) := by decide +kernel
theorem dX9_count_49 : decode cX9_count 49 = .ok (.getfield 10, 3) := by decide +kernel
theorem dX9_count_52 : decode cX9_count 52 = .ok (.getfield 104, 3) := by decide +kernel
theorem dX9_count_55 : decode cX9_count 55 = .ok (.ireturn, 1) := by decide +kernel
theorem dX9_count_56 : decode cX9_count 56 = .ok (.aload_n 0, 1) := by decide +kernel
theorem dX9_count_57 : decode cX9_count 57 = .ok (.getfield 10, 3) := by decide +kernel
theorem dX9_count_60 : decode cX9_count 60 = .ok (.getfield 195, 3) := by decide +kernel
theorem dX9_count_63 : decode cX9_count 63 = .ok (.ireturn, 1) := by decide +kernel
theorem dX9_count_64 : decode cX9_count 64 = .ok (.aload_n 0, 1) := by decide +kernel
theorem dX9_count_65 : decode cX9_count 65 = .ok (.getfield 10, 3) := by decide +kernel
theorem dX9_count_68 : decode cX9_count 68 = .ok (.invokevirtual 348, 3) := by decide +kernel
theorem dX9_count_71 : decode cX9_count 71 = .ok (.ireturn, 1) := by decide +kernel
theorem dX9_count_72 : decode cX9_count 72 = .ok (.aload_n 0, 1) := by decide +kernel
theorem dX9_count_73 : decode cX9_count 73 = .ok (.getfield 10, 3) := by decide +kernel
theorem dX9_count_76 : decode cX9_count 76 = .ok (.invokevirtual 351, 3) := by decide +kernel
theorem dX9_count_79 : decode cX9_count 79 = .ok (.ireturn, 1) := by decide +kernel
theorem dX9_count_80 : decode cX9_count 80 = .ok (.aload_n 0, 1) := by decide +kernel
theorem dX9_count_81 : decode cX9_count 81 = .ok (.getfield 10, 3) := by decide +kernel
theorem dX9_count_84 : decode cX9_count 84 = .ok (.getfield 154, 3) := by decide +kernel
theorem dX9_count_87 : decode cX9_count 87 = .ok (.ireturn, 1) := by decide +kernel
theorem dX9_count_88 : decode cX9_count 88 = .ok (.aload_n 0, 1) := by decide +kernel
theorem dX9_count_89 : decode cX9_count 89 = .ok (.getfield 10, 3) := by decide +kernel
theorem dX9_count_92 : decode cX9_count 92 = .ok (.getfield 342, 3) := by decide +kernel
theorem dX9_count_95 : decode cX9_count 95 = .ok (.ireturn, 1) := by decide +kernel
theorem dX9_count_96 : decode cX9_count 96 = .ok (.aload_n 0, 1) := by decide +kernel
theorem dX9_count_97 : decode cX9_count 97 = .ok (.getfield 66, 3) := by decide +kernel
theorem dX9_count_100 : decode cX9_count 100 = .ok (.getfield 299, 3) := by decide +kernel
theorem dX9_count_103 : decode cX9_count 103 = .ok (.ireturn, 1) := by decide +kernel
theorem dX9_count_104 : decode cX9_count 104 = .ok (.aload_n 0, 1) := by decide +kernel
theorem dX9_count_105 : decode cX9_count 105 = .ok (.getfield 10, 3) := by decide +kernel
theorem dX9_count_108 : decode cX9_count 108 = .ok (.getfield 292, 3) := by decide +kernel
theorem dX9_count_111 : decode cX9_count 111 = .ok (.ireturn, 1) := by decide +kernel
theorem dX9_count_112 : decode cX9_count 112 = .ok (.aload_n 0, 1) := by decide +kernel
theorem dX9_count_113 : decode cX9_count 113 = .ok (.iconst 1, 1) := by decide +kernel
theorem dX9_count_114 : decode cX9_count 114 = .ok (.invokevirtual 84, 3) := by decide +kernel
theorem dX9_count_117 : decode cX9_count 117 = .ok (.ireturn, 1) := by decide +kernel
theorem dX9_told_0 : decode cX9_told 0 = .ok (.iload_n 1, 1) := by decide +kernel
theorem dX9_told_1 : decode cX9_told 1 = .ok (.iconst 1, 1) := by decide +kernel
theorem dX9_told_2 : decode cX9_told 2 = .ok (.if_icmp .lt 8, 3) := by decide +kernel
theorem dX9_told_5 : decode cX9_told 5 = .ok (.iload_n 1, 1) := by decide +kernel
theorem dX9_told_6 : decode cX9_told 6 = .ok (.iconst 5, 1) := by decide +kernel
theorem dX9_told_7 : decode cX9_told 7 = .ok (.if_icmp .le 9, 3) := by decide +kernel
theorem dX9_told_10 : decode cX9_told 10 = .ok (.aload_n 0, 1) := by decide +kernel
theorem dX9_told_11 : decode cX9_told 11 = .ok (.iconst 1, 1) := by decide +kernel
theorem dX9_told_12 : decode cX9_told 12 = .ok (.invokevirtual 84, 3) := by decide +kernel
theorem dX9_told_15 : decode cX9_told 15 = .ok (.ireturn, 1) := by decide +kernel
theorem dX9_told_16 : decode cX9_told 16 = .ok (.aload_n 0, 1) := by decide +kernel
theorem dX9_told_17 : decode cX9_told 17 = .ok (.getfield 77, 3) := by decide +kernel
theorem dX9_told_20 : decode cX9_told 20 = .ok (.iload_n 1, 1) := by decide +kernel
theorem dX9_told_21 : decode cX9_told 21 = .ok (.iaload, 1) := by decide +kernel
theorem dX9_told_22 : decode cX9_told 22 = .ok (.ireturn, 1) := by decide +kernel
theorem dX9_error_0 : decode cX9_error 0 = .ok (.iload_n 1, 1) := by decide +kernel
theorem dX9_error_1 : decode cX9_error 1 = .ok (.iconst 1, 1) := by decide +kernel
theorem dX9_error_2 : decode cX9_error 2 = .ok (.if_icmp .lt 18, 3) := by decide +kernel
theorem dX9_error_5 : decode cX9_error 5 = .ok (.iload_n 1, 1) := by decide +kernel
theorem dX9_error_6 : decode cX9_error 6 = .ok (.iconst 5, 1) := by decide +kernel
theorem dX9_error_7 : decode cX9_error 7 = .ok (.if_icmp .gt 13, 3) := by decide +kernel
theorem dX9_error_10 : decode cX9_error 10 = .ok (.aload_n 0, 1) := by decide +kernel
theorem dX9_error_11 : decode cX9_error 11 = .ok (.getfield 77, 3) := by decide +kernel
theorem dX9_error_14 : decode cX9_error 14 = .ok (.iload_n 1, 1) := by decide +kernel
theorem dX9_error_15 : decode cX9_error 15 = .ok (.dup2, 1) := by decide +kernel
theorem dX9_error_16 : decode cX9_error 16 = .ok (.iaload, 1) := by decide +kernel
theorem dX9_error_17 : decode cX9_error 17 = .ok (.iconst 1, 1) := by decide +kernel
theorem dX9_error_18 : decode cX9_error 18 = .ok (.iadd, 1) := by decide +kernel
theorem dX9_error_19 : decode cX9_error 19 = .ok (.iastore, 1) := by decide +kernel
theorem dX9_error_20 : decode cX9_error 20 = .ok (.ldc_w 354, 3) := by decide +kernel
theorem dX9_error_23 : decode cX9_error 23 = .ok (.iload_n 1, 1) := by decide +kernel
theorem dX9_error_24 : decode cX9_error 24 = .ok (.isub, 1) := by decide +kernel
theorem dX9_error_25 : decode cX9_error 25 = .ok (.ireturn, 1) := by decide +kernel
theorem dX9_hasCloth_0 : decode cX9_hasCloth 0 = .ok (.iload_n 1, 1) := by decide +kernel
theorem dX9_hasCloth_1 : decode cX9_hasCloth 1 = .ok (.ifCond .lt 24, 3) := by decide +kernel
theorem dX9_hasCloth_4 : decode cX9_hasCloth 4 = .ok (.iload_n 1, 1) := by decide +kernel
theorem dX9_hasCloth_5 : decode cX9_hasCloth 5 = .ok (.aload_n 0, 1) := by decide +kernel
theorem dX9_hasCloth_6 : decode cX9_hasCloth 6 = .ok (.getfield 10, 3) := by decide +kernel
theorem dX9_hasCloth_9 : decode cX9_hasCloth 9 = .ok (.getfield 104, 3) := by decide +kernel
theorem dX9_hasCloth_12 : decode cX9_hasCloth 12 = .ok (.if_icmp .ge 13, 3) := by decide +kernel
theorem dX9_hasCloth_15 : decode cX9_hasCloth 15 = .ok (.iload_n 1, 1) := by decide +kernel
theorem dX9_hasCloth_16 : decode cX9_hasCloth 16 = .ok (.bipush 6, 2) := by decide +kernel
theorem dX9_hasCloth_18 : decode cX9_hasCloth 18 = .ok (.if_icmp .ge 7, 3) := by decide +kernel
theorem dX9_hasCloth_21 : decode cX9_hasCloth 21 = .ok (.iconst 1, 1) := by decide +kernel
theorem dX9_hasCloth_22 : decode cX9_hasCloth 22 = .ok (.goto 4, 3) := by decide +kernel
theorem dX9_hasCloth_25 : decode cX9_hasCloth 25 = .ok (.iconst 0, 1) := by decide +kernel
theorem dX9_hasCloth_26 : decode cX9_hasCloth 26 = .ok (.ireturn, 1) := by decide +kernel
theorem dX9_isKindAndM_0 : decode cX9_isKindAndM 0 = .ok (.iload_n 0, 1) := by decide +kernel
theorem dX9_isKindAndM_1 : decode cX9_isKindAndM 1 = .ok (.ifCond .lt 13, 3) := by decide +kernel
theorem dX9_isKindAndM_4 : decode cX9_isKindAndM 4 = .ok (.iload_n 0, 1) := by decide +kernel
theorem dX9_isKindAndM_5 : decode cX9_isKindAndM 5 = .ok (.bipush 70, 2) := by decide +kernel
theorem dX9_isKindAndM_7 : decode cX9_isKindAndM 7 = .ok (.if_icmp .ge 7, 3) := by decide +kernel
theorem dX9_isKindAndM_10 : decode cX9_isKindAndM 10 = .ok (.iconst 1, 1) := by decide +kernel
theorem dX9_isKindAndM_11 : decode cX9_isKindAndM 11 = .ok (.goto 4, 3) := by decide +kernel
theorem dX9_isKindAndM_14 : decode cX9_isKindAndM 14 = .ok (.iconst 0, 1) := by decide +kernel
theorem dX9_isKindAndM_15 : decode cX9_isKindAndM 15 = .ok (.ireturn, 1) := by decide +kernel
theorem dX9_isDigit_0 : decode cX9_isDigit 0 = .ok (.iload_n 0, 1) := by decide +kernel
theorem dX9_isDigit_1 : decode cX9_isDigit 1 = .ok (.ifCond .lt 13, 3) := by decide +kernel
theorem dX9_isDigit_4 : decode cX9_isDigit 4 = .ok (.iload_n 0, 1) := by decide +kernel
theorem dX9_isDigit_5 : decode cX9_isDigit 5 = .ok (.bipush 9, 2) := by decide +kernel
theorem dX9_isDigit_7 : decode cX9_isDigit 7 = .ok (.if_icmp .gt 7, 3) := by decide +kernel
theorem dX9_isDigit_10 : decode cX9_isDigit 10 = .ok (.iconst 1, 1) := by decide +kernel
theorem dX9_isDigit_11 : decode cX9_isDigit 11 = .ok (.goto 4, 3) := by decide +kernel
theorem dX9_isDigit_14 : decode cX9_isDigit 14 = .ok (.iconst 0, 1) := by decide +kernel
theorem dX9_isDigit_15 : decode cX9_isDigit 15 = .ok (.ireturn, 1) := by decide +kernel
theorem dX9_isUse_0 : decode cX9_isUse 0 = .ok (.iload_n 0, 1) := by decide +kernel
theorem dX9_isUse_1 : decode cX9_isUse 1 = .ok (.ifCond .eq 8, 3) := by decide +kernel
theorem dX9_isUse_4 : decode cX9_isUse 4 = .ok (.iload_n 0, 1) := by decide +kernel
theorem dX9_isUse_5 : decode cX9_isUse 5 = .ok (.iconst 1, 1) := by decide +kernel
theorem dX9_isUse_6 : decode cX9_isUse 6 = .ok (.if_icmp .ne 7, 3) := by decide +kernel
theorem dX9_isUse_9 : decode cX9_isUse 9 = .ok (.iconst 1, 1) := by decide +kernel
theorem dX9_isUse_10 : decode cX9_isUse 10 = .ok (.goto 4, 3) := by decide +kernel
theorem dX9_isUse_13 : decode cX9_isUse 13 = .ok (.iconst 0, 1) := by decide +kernel
theorem dX9_isUse_14 : decode cX9_isUse 14 = .ok (.ireturn, 1) := by decide +kernel
theorem dX9_isPart_0 : decode cX9_isPart 0 = .ok (.iload_n 0, 1) := by decide +kernel
theorem dX9_isPart_1 : decode cX9_isPart 1 = .ok (.ifCond .eq 8, 3) := by decide +kernel
theorem dX9_isPart_4 : decode cX9_isPart 4 = .ok (.iload_n 0, 1) := by decide +kernel
theorem dX9_isPart_5 : decode cX9_isPart 5 = .ok (.iconst 1, 1) := by decide +kernel
theorem dX9_isPart_6 : decode cX9_isPart 6 = .ok (.if_icmp .ne 7, 3) := by decide +kernel
theorem dX9_isPart_9 : decode cX9_isPart 9 = .ok (.iconst 1, 1) := by decide +kernel
theorem dX9_isPart_10 : decode cX9_isPart 10 = .ok (.goto 4, 3) := by decide +kernel
theorem dX9_isPart_13 : decode cX9_isPart 13 = .ok (.iconst 0, 1) := by decide +kernel
theorem dX9_isPart_14 : decode cX9_isPart 14 = .ok (.ireturn, 1) := by decide +kernel
theorem dX9_isSheet_0 : decode cX9_isSheet 0 = .ok (.iload_n 0, 1) := by decide +kernel
theorem dX9_isSheet_1 : decode cX9_isSheet 1 = .ok (.ifCond .lt 12, 3) := by decide +kernel
theorem dX9_isSheet_4 : decode cX9_isSheet 4 = .ok (.iload_n 0, 1) := by decide +kernel
theorem dX9_isSheet_5 : decode cX9_isSheet 5 = .ok (.iconst 4, 1) := by decide +kernel
theorem dX9_isSheet_6 : decode cX9_isSheet 6 = .ok (.if_icmp .ge 7, 3) := by decide +kernel
theorem dX9_isSheet_9 : decode cX9_isSheet 9 = .ok (.iconst 1, 1) := by decide +kernel
theorem dX9_isSheet_10 : decode cX9_isSheet 10 = .ok (.goto 4, 3) := by decide +kernel
theorem dX9_isSheet_13 : decode cX9_isSheet 13 = .ok (.iconst 0, 1) := by decide +kernel
theorem dX9_isSheet_14 : decode cX9_isSheet 14 = .ok (.ireturn, 1) := by decide +kernel
theorem dX9_isWidth_0 : decode cX9_isWidth 0 = .ok (.iload_n 0, 1) := by decide +kernel
theorem dX9_isWidth_1 : decode cX9_isWidth 1 = .ok (.ifCond .eq 21, 3) := by decide +kernel
theorem dX9_isWidth_4 : decode cX9_isWidth 4 = .ok (.iload_n 0, 1) := by decide +kernel
theorem dX9_isWidth_5 : decode cX9_isWidth 5 = .ok (.bipush 8, 2) := by decide +kernel
theorem dX9_isWidth_7 : decode cX9_isWidth 7 = .ok (.if_icmp .eq 15, 3) := by decide +kernel
theorem dX9_isWidth_10 : decode cX9_isWidth 10 = .ok (.iload_n 0, 1) := by decide +kernel
theorem dX9_isWidth_11 : decode cX9_isWidth 11 = .ok (.bipush 16, 2) := by decide +kernel
theorem dX9_isWidth_13 : decode cX9_isWidth 13 = .ok (.if_icmp .eq 9, 3) := by decide +kernel
theorem dX9_isWidth_16 : decode cX9_isWidth 16 = .ok (.iload_n 0, 1) := by decide +kernel
theorem dX9_isWidth_17 : decode cX9_isWidth 17 = .ok (.bipush 32, 2) := by decide +kernel
theorem dX9_isWidth_19 : decode cX9_isWidth 19 = .ok (.if_icmp .ne 7, 3) := by decide +kernel
theorem dX9_isWidth_22 : decode cX9_isWidth 22 = .ok (.iconst 1, 1) := by decide +kernel
theorem dX9_isWidth_23 : decode cX9_isWidth 23 = .ok (.goto 4, 3) := by decide +kernel
theorem dX9_isWidth_26 : decode cX9_isWidth 26 = .ok (.iconst 0, 1) := by decide +kernel
theorem dX9_isWidth_27 : decode cX9_isWidth 27 = .ok (.ireturn, 1) := by decide +kernel
theorem dX9_gaugeOf_0 : decode cX9_gaugeOf 0 = .ok (.aload_n 0, 1) := by decide +kernel
theorem dX9_gaugeOf_1 : decode cX9_gaugeOf 1 = .ok (.getfield 32, 3) := by decide +kernel
theorem dX9_gaugeOf_4 : decode cX9_gaugeOf 4 = .ok (.iload_n 1, 1) := by decide +kernel
theorem dX9_gaugeOf_5 : decode cX9_gaugeOf 5 = .ok (.aaload, 1) := by decide +kernel
theorem dX9_gaugeOf_6 : decode cX9_gaugeOf 6 = .ok (.invokevirtual 355, 3) := by decide +kernel
theorem dX9_gaugeOf_9 : decode cX9_gaugeOf 9 = .ok (.aload_n 0, 1) := by decide +kernel
theorem dX9_gaugeOf_10 : decode cX9_gaugeOf 10 = .ok (.getfield 32, 3) := by decide +kernel
theorem dX9_gaugeOf_13 : decode cX9_gaugeOf 13 = .ok (.iload_n 1, 1) := by decide +kernel
theorem dX9_gaugeOf_14 : decode cX9_gaugeOf 14 = .ok (.aaload, 1) := by decide +kernel
theorem dX9_gaugeOf_15 : decode cX9_gaugeOf 15 = .ok (.areturn, 1) := by decide +kernel
theorem dX9_refreshGauges_0 : decode cX9_refreshGauges 0 = .ok (.iconst 0, 1) := by decide +kernel
theorem dX9_refreshGauges_1 : decode cX9_refreshGauges 1 = .ok (.istore_n 1, 1) := by decide +kernel
theorem dX9_refreshGauges_2 : decode cX9_refreshGauges 2 = .ok (.iload_n 1, 1) := by decide +kernel
theorem dX9_refreshGauges_3 : decode cX9_refreshGauges 3 = .ok (.aload_n 0, 1) := by decide +kernel
theorem dX9_refreshGauges_4 : decode cX9_refreshGauges 4 = .ok (.getfield 10, 3) := by decide +kernel
theorem dX9_refreshGauges_7 : decode cX9_refreshGauges 7 = .ok (.getfield 104, 3) := by decide +kernel
theorem dX9_refreshGauges_10 : decode cX9_refreshGauges 10 = .ok (.if_icmp .ge 18, 3) := by decide +kernel
theorem dX9_refreshGauges_13 : decode cX9_refreshGauges 13 = .ok (.aload_n 0, 1) := by decide +kernel
theorem dX9_refreshGauges_14 : decode cX9_refreshGauges 14 = .ok (.getfield 32, 3) := by decide +kernel
theorem dX9_refreshGauges_17 : decode cX9_refreshGauges 17 = .ok (.iload_n 1, 1) := by decide +kernel
theorem dX9_refreshGauges_18 : decode cX9_refreshGauges 18 = .ok (.aaload, 1) := by decide +kernel
theorem dX9_refreshGauges_19 : decode cX9_refreshGauges 19 = .ok (.invokevirtual 355, 3) := by decide +kernel
theorem dX9_refreshGauges_22 : decode cX9_refreshGauges 22 = .ok (.iinc 1 1, 3) := by decide +kernel
theorem dX9_refreshGauges_25 : decode cX9_refreshGauges 25 = .ok (.goto (-23), 3) := by decide +kernel
theorem dX9_refreshGauges_28 : decode cX9_refreshGauges 28 = .ok (.return_, 1) := by decide +kernel
theorem dX9_evening_0 : decode cX9_evening 0 = .ok (.aload_n 0, 1) := by decide +kernel
theorem dX9_evening_1 : decode cX9_evening 1 = .ok (.getfield 10, 3) := by decide +kernel
theorem dX9_evening_4 : decode cX9_evening 4 = .ok (.invokevirtual 358, 3) := by decide +kernel
theorem dX9_evening_7 : decode cX9_evening 7 = .ok (.bipush 7, 2) := by decide +kernel
theorem dX9_evening_9 : decode cX9_evening 9 = .ok (.irem, 1) := by decide +kernel
theorem dX9_evening_10 : decode cX9_evening 10 = .ok (.istore_n 1, 1) := by decide +kernel
theorem dX9_evening_11 : decode cX9_evening 11 = .ok (.aload_n 0, 1) := by decide +kernel
theorem dX9_evening_12 : decode cX9_evening 12 = .ok (.getfield 10, 3) := by decide +kernel
theorem dX9_evening_15 : decode cX9_evening 15 = .ok (.invokevirtual 358, 3) := by decide +kernel
theorem dX9_evening_18 : decode cX9_evening 18 = .ok (.istore_n 2, 1) := by decide +kernel
theorem dX9_evening_19 : decode cX9_evening 19 = .ok (.aload_n 0, 1) := by decide +kernel
theorem dX9_evening_20 : decode cX9_evening 20 = .ok (.getfield 10, 3) := by decide +kernel
theorem dX9_evening_23 : decode cX9_evening 23 = .ok (.getfield 87, 3) := by decide +kernel
theorem dX9_evening_26 : decode cX9_evening 26 = .ok (.iload_n 1, 1) := by decide +kernel
theorem dX9_evening_27 : decode cX9_evening 27 = .ok (.invokevirtual 207, 3) := by decide +kernel
theorem dX9_evening_30 : decode cX9_evening 30 = .ok (.ifCond .eq 11, 3) := by decide +kernel
theorem dX9_evening_33 : decode cX9_evening 33 = .ok (.aload_n 0, 1) := by decide +kernel
theorem dX9_evening_34 : decode cX9_evening 34 = .ok (.getfield 10, 3) := by decide +kernel
theorem dX9_evening_37 : decode cX9_evening 37 = .ok (.iload_n 1, 1) := by decide +kernel
theorem dX9_evening_38 : decode cX9_evening 38 = .ok (.invokevirtual 213, 3) := by decide +kernel
theorem dX9_evening_41 : decode cX9_evening 41 = .ok (.aload_n 0, 1) := by decide +kernel
theorem dX9_evening_42 : decode cX9_evening 42 = .ok (.getfield 10, 3) := by decide +kernel
theorem dX9_evening_45 : decode cX9_evening 45 = .ok (.getfield 104, 3) := by decide +kernel
theorem dX9_evening_48 : decode cX9_evening 48 = .ok (.ifCond .ne 5, 3) := by decide +kernel
theorem dX9_evening_51 : decode cX9_evening 51 = .ok (.iconst 0, 1) := by decide +kernel
theorem dX9_evening_52 : decode cX9_evening 52 = .ok (.ireturn, 1) := by decide +kernel
theorem dX9_evening_53 : decode cX9_evening 53 = .ok (.aload_n 0, 1) := by decide +kernel
theorem dX9_evening_54 : decode cX9_evening 54 = .ok (.getfield 10, 3) := by decide +kernel
theorem dX9_evening_57 : decode cX9_evening 57 = .ok (.aload_n 0, 1) := by decide +kernel
theorem dX9_evening_58 : decode cX9_evening 58 = .ok (.getfield 32, 3) := by decide +kernel
theorem dX9_evening_61 : decode cX9_evening 61 = .ok (.iload_n 2, 1) := by decide +kernel
theorem dX9_evening_62 : decode cX9_evening 62 = .ok (.aload_n 0, 1) := by decide +kernel
theorem dX9_evening_63 : decode cX9_evening 63 = .ok (.getfield 10, 3) := by decide +kernel
theorem dX9_evening_66 : decode cX9_evening 66 = .ok (.getfield 104, 3) := by decide +kernel
theorem dX9_evening_69 : decode cX9_evening 69 = .ok (.irem, 1) := by decide +kernel
theorem dX9_evening_70 : decode cX9_evening 70 = .ok (.aaload, 1) := by decide +kernel
theorem dX9_evening_71 : decode cX9_evening 71 = .ok (.invokevirtual 203, 3) := by decide +kernel
theorem dX9_evening_74 : decode cX9_evening 74 = .ok (.ireturn, 1) := by decide +kernel
theorem dX9_cheapestCure_0 : decode cX9_cheapestCure 0 = .ok (.iconst (-1), 1) := by decide +kernel
theorem dX9_cheapestCure_1 : decode cX9_cheapestCure 1 = .ok (.istore_n 2, 1) := by decide +kernel
theorem dX9_cheapestCure_2 : decode cX9_cheapestCure 2 = .ok (.iconst 0, 1) := by decide +kernel
theorem dX9_cheapestCure_3 : decode cX9_cheapestCure 3 = .ok (.istore_n 3, 1) := by decide +kernel
theorem dX9_cheapestCure_4 : decode cX9_cheapestCure 4 = .ok (.iconst 0, 1) := by decide +kernel
theorem dX9_cheapestCure_5 : decode cX9_cheapestCure 5 = .ok (.istore 4, 2) := by decide +kernel
theorem dX9_cheapestCure_7 : decode cX9_cheapestCure 7 = .ok (.iload 4, 2) := by decide +kernel
theorem dX9_cheapestCure_9 : decode cX9_cheapestCure 9 = .ok (.bipush 8, 2) := by decide +kernel
theorem dX9_cheapestCure_11 : decode cX9_cheapestCure 11 = .ok (.if_icmp .ge 111, 3) := by decide +kernel
theorem dX9_cheapestCure_14 : decode cX9_cheapestCure 14 = .ok (.aload_n 0, 1) := by decide +kernel
theorem dX9_cheapestCure_15 : decode cX9_cheapestCure 15 = .ok (.iload 4, 2) := by decide +kernel
theorem dX9_cheapestCure_17 : decode cX9_cheapestCure 17 = .ok (.invokevirtual 361, 3) := by decide +kernel
theorem dX9_cheapestCure_20 : decode cX9_cheapestCure 20 = .ok (.iconst 0, 1) := by decide +kernel
theorem dX9_cheapestCure_21 : decode cX9_cheapestCure 21 = .ok (.istore 5, 2) := by decide +kernel
theorem dX9_cheapestCure_23 : decode cX9_cheapestCure 23 = .ok (.iload 5, 2) := by decide +kernel
theorem dX9_cheapestCure_25 : decode cX9_cheapestCure 25 = .ok (.bipush 100, 2) := by decide +kernel
theorem dX9_cheapestCure_27 : decode cX9_cheapestCure 27 = .ok (.if_icmp .ge 89, 3) := by decide +kernel
theorem dX9_cheapestCure_30 : decode cX9_cheapestCure 30 = .ok (.aload_n 0, 1) := by decide +kernel
theorem dX9_cheapestCure_31 : decode cX9_cheapestCure 31 = .ok (.getfield 26, 3) := by decide +kernel
theorem dX9_cheapestCure_34 : decode cX9_cheapestCure 34 = .ok (.iload 5, 2) := by decide +kernel
theorem dX9_cheapestCure_36 : decode cX9_cheapestCure 36 = .ok (.bipush 10, 2) := by decide +kernel
theorem dX9_cheapestCure_38 : decode cX9_cheapestCure 38 = .ok (.idiv, 1) := by decide +kernel
theorem dX9_cheapestCure_39 : decode cX9_cheapestCure 39 = .ok (.putfield 270, 3) := by decide +kernel
theorem dX9_cheapestCure_42 : decode cX9_cheapestCure 42 = .ok (.aload_n 0, 1) := by decide +kernel
theorem dX9_cheapestCure_43 : decode cX9_cheapestCure 43 = .ok (.getfield 26, 3) := by decide +kernel
theorem dX9_cheapestCure_46 : decode cX9_cheapestCure 46 = .ok (.iload 5, 2) := by decide +kernel
theorem dX9_cheapestCure_48 : decode cX9_cheapestCure 48 = .ok (.bipush 10, 2) := by decide +kernel
theorem dX9_cheapestCure_50 : decode cX9_cheapestCure 50 = .ok (.irem, 1) := by decide +kernel
theorem dX9_cheapestCure_51 : decode cX9_cheapestCure 51 = .ok (.putfield 364, 3) := by decide +kernel
theorem dX9_cheapestCure_54 : decode cX9_cheapestCure 54 = .ok (.aload_n 0, 1) := by decide +kernel
theorem dX9_cheapestCure_55 : decode cX9_cheapestCure 55 = .ok (.iload 4, 2) := by decide +kernel
theorem dX9_cheapestCure_57 : decode cX9_cheapestCure 57 = .ok (.aload_n 0, 1) := by decide +kernel
theorem dX9_cheapestCure_58 : decode cX9_cheapestCure 58 = .ok (.getfield 26, 3) := by decide +kernel
theorem dX9_cheapestCure_61 : decode cX9_cheapestCure 61 = .ok (.getfield 270, 3) := by decide +kernel
theorem dX9_cheapestCure_64 : decode cX9_cheapestCure 64 = .ok (.aload_n 0, 1) := by decide +kernel
theorem dX9_cheapestCure_65 : decode cX9_cheapestCure 65 = .ok (.getfield 26, 3) := by decide +kernel
theorem dX9_cheapestCure_68 : decode cX9_cheapestCure 68 = .ok (.getfield 364, 3) := by decide +kernel
theorem dX9_cheapestCure_71 : decode cX9_cheapestCure 71 = .ok (.invokevirtual 238, 3) := by decide +kernel
theorem dX9_cheapestCure_74 : decode cX9_cheapestCure 74 = .ok (.istore 6, 2) := by decide +kernel
theorem dX9_cheapestCure_76 : decode cX9_cheapestCure 76 = .ok (.iload_n 2, 1) := by decide +kernel
theorem dX9_cheapestCure_77 : decode cX9_cheapestCure 77 = .ok (.ifCond .lt 9, 3) := by decide +kernel
theorem dX9_cheapestCure_80 : decode cX9_cheapestCure 80 = .ok (.iload 6, 2) := by decide +kernel
theorem dX9_cheapestCure_82 : decode cX9_cheapestCure 82 = .ok (.iload_n 3, 1) := by decide +kernel
theorem dX9_cheapestCure_83 : decode cX9_cheapestCure 83 = .ok (.if_icmp .ge 27, 3) := by decide +kernel
theorem dX9_cheapestCure_86 : decode cX9_cheapestCure 86 = .ok (.aload_n 1, 1) := by decide +kernel
theorem dX9_cheapestCure_87 : decode cX9_cheapestCure 87 = .ok (.aload_n 0, 1) := by decide +kernel
theorem dX9_cheapestCure_88 : decode cX9_cheapestCure 88 = .ok (.getfield 26, 3) := by decide +kernel
theorem dX9_cheapestCure_91 : decode cX9_cheapestCure 91 = .ok (.invokevirtual 144, 3) := by decide +kernel
theorem dX9_cheapestCure_94 : decode cX9_cheapestCure 94 = .ok (.ifCond .ne 16, 3) := by decide +kernel
theorem dX9_cheapestCure_97 : decode cX9_cheapestCure 97 = .ok (.sipush 1000, 3) := by decide +kernel
theorem dX9_cheapestCure_100 : decode cX9_cheapestCure 100 = .ok (.iload 4, 2) := by decide +kernel
theorem dX9_cheapestCure_102 : decode cX9_cheapestCure 102 = .ok (.imul, 1) := by decide +kernel
theorem dX9_cheapestCure_103 : decode cX9_cheapestCure 103 = .ok (.iload 5, 2) := by decide +kernel
theorem dX9_cheapestCure_105 : decode cX9_cheapestCure 105 = .ok (.iadd, 1) := by decide +kernel
theorem dX9_cheapestCure_106 : decode cX9_cheapestCure 106 = .ok (.istore_n 2, 1) := by decide +kernel
theorem dX9_cheapestCure_107 : decode cX9_cheapestCure 107 = .ok (.iload 6, 2) := by decide +kernel
theorem dX9_cheapestCure_109 : decode cX9_cheapestCure 109 = .ok (.istore_n 3, 1) := by decide +kernel
theorem dX9_cheapestCure_110 : decode cX9_cheapestCure 110 = .ok (.iinc 5 1, 3) := by decide +kernel
theorem dX9_cheapestCure_113 : decode cX9_cheapestCure 113 = .ok (.goto (-90), 3) := by decide +kernel
theorem dX9_cheapestCure_116 : decode cX9_cheapestCure 116 = .ok (.iinc 4 1, 3) := by decide +kernel
theorem dX9_cheapestCure_119 : decode cX9_cheapestCure 119 = .ok (.goto (-112), 3) := by decide +kernel
theorem dX9_cheapestCure_122 : decode cX9_cheapestCure 122 = .ok (.iload_n 2, 1) := by decide +kernel
theorem dX9_cheapestCure_123 : decode cX9_cheapestCure 123 = .ok (.ireturn, 1) := by decide +kernel
theorem dX9_thinkOfDeeds_0 : decode cX9_thinkOfDeeds 0 = .ok (.aload_n 0, 1) := by decide +kernel
theorem dX9_thinkOfDeeds_1 : decode cX9_thinkOfDeeds 1 = .ok (.getfield 26, 3) := by decide +kernel
theorem dX9_thinkOfDeeds_4 : decode cX9_thinkOfDeeds 4 = .ok (.aload_n 0, 1) := by decide +kernel
theorem dX9_thinkOfDeeds_5 : decode cX9_thinkOfDeeds 5 = .ok (.getfield 10, 3) := by decide +kernel
theorem dX9_thinkOfDeeds_8 : decode cX9_thinkOfDeeds 8 = .ok (.getfield 87, 3) := by decide +kernel
theorem dX9_thinkOfDeeds_11 : decode cX9_thinkOfDeeds 11 = .ok (.invokevirtual 222, 3) := by decide +kernel
theorem dX9_thinkOfDeeds_14 : decode cX9_thinkOfDeeds 14 = .ok (.iconst 0, 1) := by decide +kernel
theorem dX9_thinkOfDeeds_15 : decode cX9_thinkOfDeeds 15 = .ok (.istore_n 2, 1) := by decide +kernel
theorem dX9_thinkOfDeeds_16 : decode cX9_thinkOfDeeds 16 = .ok (.iload_n 2, 1) := by decide +kernel
theorem dX9_thinkOfDeeds_17 : decode cX9_thinkOfDeeds 17 = .ok (.iconst 3, 1) := by decide +kernel
theorem dX9_thinkOfDeeds_18 : decode cX9_thinkOfDeeds 18 = .ok (.if_icmp .ge 26, 3) := by decide +kernel
theorem dX9_thinkOfDeeds_21 : decode cX9_thinkOfDeeds 21 = .ok (.iload_n 1, 1) := by decide +kernel
theorem dX9_thinkOfDeeds_22 : decode cX9_thinkOfDeeds 22 = .ok (.iload_n 2, 1) := by decide +kernel
theorem dX9_thinkOfDeeds_23 : decode cX9_thinkOfDeeds 23 = .ok (.ishr, 1) := by decide +kernel
theorem dX9_thinkOfDeeds_24 : decode cX9_thinkOfDeeds 24 = .ok (.iconst 1, 1) := by decide +kernel
theorem dX9_thinkOfDeeds_25 : decode cX9_thinkOfDeeds 25 = .ok (.iand, 1) := by decide +kernel
theorem dX9_thinkOfDeeds_26 : decode cX9_thinkOfDeeds 26 = .ok (.iconst 1, 1) := by decide +kernel
theorem dX9_thinkOfDeeds_27 : decode cX9_thinkOfDeeds 27 = .ok (.if_icmp .ne 11, 3) := by decide +kernel
theorem dX9_thinkOfDeeds_30 : decode cX9_thinkOfDeeds 30 = .ok (.aload_n 0, 1) := by decide +kernel
theorem dX9_thinkOfDeeds_31 : decode cX9_thinkOfDeeds 31 = .ok (.getfield 26, 3) := by decide +kernel
theorem dX9_thinkOfDeeds_34 : decode cX9_thinkOfDeeds 34 = .ok (.iload_n 2, 1) := by decide +kernel
theorem dX9_thinkOfDeeds_35 : decode cX9_thinkOfDeeds 35 = .ok (.invokevirtual 242, 3) := by decide +kernel
theorem dX9_thinkOfDeeds_38 : decode cX9_thinkOfDeeds 38 = .ok (.iinc 2 1, 3) := by decide +kernel
theorem dX9_thinkOfDeeds_41 : decode cX9_thinkOfDeeds 41 = .ok (.goto (-25), 3) := by decide +kernel
theorem dX9_thinkOfDeeds_44 : decode cX9_thinkOfDeeds 44 = .ok (.return_, 1) := by decide +kernel
theorem dX9_cureSeconds_0 : decode cX9_cureSeconds 0 = .ok (.iconst 2, 1) := by decide +kernel
theorem dX9_cureSeconds_1 : decode cX9_cureSeconds 1 = .ok (.iload_n 2, 1) := by decide +kernel
theorem dX9_cureSeconds_2 : decode cX9_cureSeconds 2 = .ok (.aload_n 0, 1) := by decide +kernel
theorem dX9_cureSeconds_3 : decode cX9_cureSeconds 3 = .ok (.getfield 10, 3) := by decide +kernel
theorem dX9_cureSeconds_6 : decode cX9_cureSeconds 6 = .ok (.getfield 87, 3) := by decide +kernel
theorem dX9_cureSeconds_9 : decode cX9_cureSeconds 9 = .ok (.getfield 270, 3) := by decide +kernel
theorem dX9_cureSeconds_12 : decode cX9_cureSeconds 12 = .ok (.isub, 1) := by decide +kernel
theorem dX9_cureSeconds_13 : decode cX9_cureSeconds 13 = .ok (.invokestatic 367, 3) := by decide +kernel
theorem dX9_cureSeconds_16 : decode cX9_cureSeconds 16 = .ok (.imul, 1) := by decide +kernel
theorem dX9_cureSeconds_17 : decode cX9_cureSeconds 17 = .ok (.iconst 5, 1) := by decide +kernel
theorem dX9_cureSeconds_18 : decode cX9_cureSeconds 18 = .ok (.iload_n 3, 1) := by decide +kernel
theorem dX9_cureSeconds_19 : decode cX9_cureSeconds 19 = .ok (.aload_n 0, 1) := by decide +kernel
theorem dX9_cureSeconds_20 : decode cX9_cureSeconds 20 = .ok (.getfield 10, 3) := by decide +kernel
theorem dX9_cureSeconds_23 : decode cX9_cureSeconds 23 = .ok (.getfield 87, 3) := by decide +kernel
theorem dX9_cureSeconds_26 : decode cX9_cureSeconds 26 = .ok (.getfield 364, 3) := by decide +kernel
theorem dX9_cureSeconds_29 : decode cX9_cureSeconds 29 = .ok (.isub, 1) := by decide +kernel
theorem dX9_cureSeconds_30 : decode cX9_cureSeconds 30 = .ok (.invokestatic 367, 3) := by decide +kernel
theorem dX9_cureSeconds_33 : decode cX9_cureSeconds 33 = .ok (.imul, 1) := by decide +kernel
theorem dX9_cureSeconds_34 : decode cX9_cureSeconds 34 = .ok (.iadd, 1) := by decide +kernel
theorem dX9_cureSeconds_35 : decode cX9_cureSeconds 35 = .ok (.istore 4, 2) := by decide +kernel
theorem dX9_cureSeconds_37 : decode cX9_cureSeconds 37 = .ok (.iconst 0, 1) := by decide +kernel
theorem dX9_cureSeconds_38 : decode cX9_cureSeconds 38 = .ok (.istore 5, 2) := by decide +kernel
theorem dX9_cureSeconds_40 : decode cX9_cureSeconds 40 = .ok (.iload 5, 2) := by decide +kernel
theorem dX9_cureSeconds_42 : decode cX9_cureSeconds 42 = .ok (.iconst 3, 1) := by decide +kernel
theorem dX9_cureSeconds_43 : decode cX9_cureSeconds 43 = .ok (.if_icmp .ge 30, 3) := by decide +kernel
theorem dX9_cureSeconds_46 : decode cX9_cureSeconds 46 = .ok (.iload_n 1, 1) := by decide +kernel
theorem dX9_cureSeconds_47 : decode cX9_cureSeconds 47 = .ok (.iload 5, 2) := by decide +kernel
theorem dX9_cureSeconds_49 : decode cX9_cureSeconds 49 = .ok (.ishr, 1) := by decide +kernel
theorem dX9_cureSeconds_50 : decode cX9_cureSeconds 50 = .ok (.iconst 1, 1) := by decide +kernel
theorem dX9_cureSeconds_51 : decode cX9_cureSeconds 51 = .ok (.iand, 1) := by decide +kernel
theorem dX9_cureSeconds_52 : decode cX9_cureSeconds 52 = .ok (.iconst 1, 1) := by decide +kernel
theorem dX9_cureSeconds_53 : decode cX9_cureSeconds 53 = .ok (.if_icmp .ne 14, 3) := by decide +kernel
theorem dX9_cureSeconds_56 : decode cX9_cureSeconds 56 = .ok (.iload 4, 2) := by decide +kernel
theorem dX9_cureSeconds_58 : decode cX9_cureSeconds 58 = .ok (.getstatic 210, 3) := by decide +kernel
theorem dX9_cureSeconds_61 : decode cX9_cureSeconds 61 = .ok (.iload 5, 2) := by decide +kernel
theorem dX9_cureSeconds_63 : decode cX9_cureSeconds 63 = .ok (.iaload, 1) := by decide +kernel
theorem dX9_cureSeconds_64 : decode cX9_cureSeconds 64 = .ok (.iadd, 1) := by decide +kernel
theorem dX9_cureSeconds_65 : decode cX9_cureSeconds 65 = .ok (.istore 4, 2) := by decide +kernel
theorem dX9_cureSeconds_67 : decode cX9_cureSeconds 67 = .ok (.iinc 5 1, 3) := by decide +kernel
theorem dX9_cureSeconds_70 : decode cX9_cureSeconds 70 = .ok (.goto (-30), 3) := by decide +kernel
theorem dX9_cureSeconds_73 : decode cX9_cureSeconds 73 = .ok (.iload 4, 2) := by decide +kernel
theorem dX9_cureSeconds_75 : decode cX9_cureSeconds 75 = .ok (.ireturn, 1) := by decide +kernel
theorem dX9_tellsOfAllCloths_0 : decode cX9_tellsOfAllCloths 0 = .ok (.aload_n 1, 1) := by decide +kernel
theorem dX9_tellsOfAllCloths_1 : decode cX9_tellsOfAllCloths 1 = .ok (.invokevirtual 309, 3) := by decide +kernel
theorem dX9_tellsOfAllCloths_4 : decode cX9_tellsOfAllCloths 4 = .ok (.ifCond .ne 21, 3) := by decide +kernel
theorem dX9_tellsOfAllCloths_7 : decode cX9_tellsOfAllCloths 7 = .ok (.aload_n 1, 1) := by decide +kernel
theorem dX9_tellsOfAllCloths_8 : decode cX9_tellsOfAllCloths 8 = .ok (.getfield 313, 3) := by decide +kernel
theorem dX9_tellsOfAllCloths_11 : decode cX9_tellsOfAllCloths 11 = .ok (.aload_n 0, 1) := by decide +kernel
theorem dX9_tellsOfAllCloths_12 : decode cX9_tellsOfAllCloths 12 = .ok (.getfield 10, 3) := by decide +kernel
theorem dX9_tellsOfAllCloths_15 : decode cX9_tellsOfAllCloths 15 = .ok (.getfield 104, 3) := by decide +kernel
theorem dX9_tellsOfAllCloths_18 : decode cX9_tellsOfAllCloths 18 = .ok (.if_icmp .ne 7, 3) := by decide +kernel
theorem dX9_tellsOfAllCloths_21 : decode cX9_tellsOfAllCloths 21 = .ok (.iconst 1, 1) := by decide +kernel
theorem dX9_tellsOfAllCloths_22 : decode cX9_tellsOfAllCloths 22 = .ok (.goto 4, 3) := by decide +kernel
theorem dX9_tellsOfAllCloths_25 : decode cX9_tellsOfAllCloths 25 = .ok (.iconst 0, 1) := by decide +kernel
theorem dX9_tellsOfAllCloths_26 : decode cX9_tellsOfAllCloths 26 = .ok (.ireturn, 1) := by decide +kernel
theorem dX9_prepareGuesses_0 : decode cX9_prepareGuesses 0 = .ok (.aload_n 0, 1) := by decide +kernel
theorem dX9_prepareGuesses_1 : decode cX9_prepareGuesses 1 = .ok (.invokevirtual 216, 3) := by decide +kernel
theorem dX9_prepareGuesses_4 : decode cX9_prepareGuesses 4 = .ok (.aload_n 0, 1) := by decide +kernel
theorem dX9_prepareGuesses_5 : decode cX9_prepareGuesses 5 = .ok (.getfield 26, 3) := by decide +kernel
theorem dX9_prepareGuesses_8 : decode cX9_prepareGuesses 8 = .ok (.aload_n 0, 1) := by decide +kernel
theorem dX9_prepareGuesses_9 : decode cX9_prepareGuesses 9 = .ok (.getfield 10, 3) := by decide +kernel
theorem dX9_prepareGuesses_12 : decode cX9_prepareGuesses 12 = .ok (.getfield 87, 3) := by decide +kernel
theorem dX9_prepareGuesses_15 : decode cX9_prepareGuesses 15 = .ok (.invokevirtual 222, 3) := by decide +kernel
theorem dX9_prepareGuesses_18 : decode cX9_prepareGuesses 18 = .ok (.return_, 1) := by decide +kernel
theorem dX9_showsAsTold_0 : decode cX9_showsAsTold 0 = .ok (.iconst 0, 1) := by decide +kernel
theorem dX9_showsAsTold_1 : decode cX9_showsAsTold 1 = .ok (.istore_n 2, 1) := by decide +kernel
theorem dX9_showsAsTold_2 : decode cX9_showsAsTold 2 = .ok (.iload_n 2, 1) := by decide +kernel
theorem dX9_showsAsTold_3 : decode cX9_showsAsTold 3 = .ok (.aload_n 0, 1) := by decide +kernel
theorem dX9_showsAsTold_4 : decode cX9_showsAsTold 4 = .ok (.getfield 10, 3) := by decide +kernel
theorem dX9_showsAsTold_7 : decode cX9_showsAsTold 7 = .ok (.getfield 104, 3) := by decide +kernel
theorem dX9_showsAsTold_10 : decode cX9_showsAsTold 10 = .ok (.if_icmp .ge 42, 3) := by decide +kernel
theorem dX9_showsAsTold_13 : decode cX9_showsAsTold 13 = .ok (.aload_n 1, 1) := by decide +kernel
theorem dX9_showsAsTold_14 : decode cX9_showsAsTold 14 = .ok (.getfield 324, 3) := by decide +kernel
theorem dX9_showsAsTold_17 : decode cX9_showsAsTold 17 = .ok (.iload_n 2, 1) := by decide +kernel
theorem dX9_showsAsTold_18 : decode cX9_showsAsTold 18 = .ok (.iaload, 1) := by decide +kernel
theorem dX9_showsAsTold_19 : decode cX9_showsAsTold 19 = .ok (.ifCond .lt 27, 3) := by decide +kernel
theorem dX9_showsAsTold_22 : decode cX9_showsAsTold 22 = .ok (.aload_n 0, 1) := by decide +kernel
theorem dX9_showsAsTold_23 : decode cX9_showsAsTold 23 = .ok (.getfield 32, 3) := by decide +kernel
theorem dX9_showsAsTold_26 : decode cX9_showsAsTold 26 = .ok (.iload_n 2, 1) := by decide +kernel
theorem dX9_showsAsTold_27 : decode cX9_showsAsTold 27 = .ok (.aaload, 1) := by decide +kernel
theorem dX9_showsAsTold_28 : decode cX9_showsAsTold 28 = .ok (.aload_n 0, 1) := by decide +kernel
theorem dX9_showsAsTold_29 : decode cX9_showsAsTold 29 = .ok (.getfield 26, 3) := by decide +kernel
theorem dX9_showsAsTold_32 : decode cX9_showsAsTold 32 = .ok (.invokevirtual 144, 3) := by decide +kernel
theorem dX9_showsAsTold_35 : decode cX9_showsAsTold 35 = .ok (.aload_n 1, 1) := by decide +kernel
theorem dX9_showsAsTold_36 : decode cX9_showsAsTold 36 = .ok (.getfield 324, 3) := by decide +kernel
theorem dX9_showsAsTold_39 : decode cX9_showsAsTold 39 = .ok (.iload_n 2, 1) := by decide +kernel
theorem dX9_showsAsTold_40 : decode cX9_showsAsTold 40 = .ok (.iaload, 1) := by decide +kernel
theorem dX9_showsAsTold_41 : decode cX9_showsAsTold 41 = .ok (.if_icmp .eq 5, 3) := by decide +kernel
theorem dX9_showsAsTold_44 : decode cX9_showsAsTold 44 = .ok (.iconst 0, 1) := by decide +kernel
theorem dX9_showsAsTold_45 : decode cX9_showsAsTold 45 = .ok (.ireturn, 1) := by decide +kernel
theorem dX9_showsAsTold_46 : decode cX9_showsAsTold 46 = .ok (.iinc 2 1, 3) := by decide +kernel
theorem dX9_showsAsTold_49 : decode cX9_showsAsTold 49 = .ok (.goto (-47), 3) := by decide +kernel
theorem dX9_showsAsTold_52 : decode cX9_showsAsTold 52 = .ok (.iconst 1, 1) := by decide +kernel
theorem dX9_showsAsTold_53 : decode cX9_showsAsTold 53 = .ok (.ireturn, 1) := by decide +kernel
theorem dX9_tallyAll_0 : decode cX9_tallyAll 0 = .ok (.iconst 0, 1) := by decide +kernel
theorem dX9_tallyAll_1 : decode cX9_tallyAll 1 = .ok (.istore_n 1, 1) := by decide +kernel
theorem dX9_tallyAll_2 : decode cX9_tallyAll 2 = .ok (.iload_n 1, 1) := by decide +kernel
theorem dX9_tallyAll_3 : decode cX9_tallyAll 3 = .ok (.aload_n 0, 1) := by decide +kernel
theorem dX9_tallyAll_4 : decode cX9_tallyAll 4 = .ok (.getfield 10, 3) := by decide +kernel
theorem dX9_tallyAll_7 : decode cX9_tallyAll 7 = .ok (.getfield 104, 3) := by decide +kernel
theorem dX9_tallyAll_10 : decode cX9_tallyAll 10 = .ok (.if_icmp .ge 35, 3) := by decide +kernel
theorem dX9_tallyAll_13 : decode cX9_tallyAll 13 = .ok (.aload_n 0, 1) := by decide +kernel
theorem dX9_tallyAll_14 : decode cX9_tallyAll 14 = .ok (.getfield 43, 3) := by decide +kernel
theorem dX9_tallyAll_17 : decode cX9_tallyAll 17 = .ok (.iload_n 1, 1) := by decide +kernel
theorem dX9_tallyAll_18 : decode cX9_tallyAll 18 = .ok (.iconst 5, 1) := by decide +kernel
theorem dX9_tallyAll_19 : decode cX9_tallyAll 19 = .ok (.imul, 1) := by decide +kernel
theorem dX9_tallyAll_20 : decode cX9_tallyAll 20 = .ok (.aload_n 0, 1) := by decide +kernel
theorem dX9_tallyAll_21 : decode cX9_tallyAll 21 = .ok (.getfield 32, 3) := by decide +kernel
theorem dX9_tallyAll_24 : decode cX9_tallyAll 24 = .ok (.iload_n 1, 1) := by decide +kernel
theorem dX9_tallyAll_25 : decode cX9_tallyAll 25 = .ok (.aaload, 1) := by decide +kernel
theorem dX9_tallyAll_26 : decode cX9_tallyAll 26 = .ok (.aload_n 0, 1) := by decide +kernel
theorem dX9_tallyAll_27 : decode cX9_tallyAll 27 = .ok (.getfield 26, 3) := by decide +kernel
theorem dX9_tallyAll_30 : decode cX9_tallyAll 30 = .ok (.invokevirtual 144, 3) := by decide +kernel
theorem dX9_tallyAll_33 : decode cX9_tallyAll 33 = .ok (.iadd, 1) := by decide +kernel
theorem dX9_tallyAll_34 : decode cX9_tallyAll 34 = .ok (.dup2, 1) := by decide +kernel
theorem dX9_tallyAll_35 : decode cX9_tallyAll 35 = .ok (.iaload, 1) := by decide +kernel
theorem dX9_tallyAll_36 : decode cX9_tallyAll 36 = .ok (.iconst 1, 1) := by decide +kernel
theorem dX9_tallyAll_37 : decode cX9_tallyAll 37 = .ok (.iadd, 1) := by decide +kernel
theorem dX9_tallyAll_38 : decode cX9_tallyAll 38 = .ok (.iastore, 1) := by decide +kernel
theorem dX9_tallyAll_39 : decode cX9_tallyAll 39 = .ok (.iinc 1 1, 3) := by decide +kernel
theorem dX9_tallyAll_42 : decode cX9_tallyAll 42 = .ok (.goto (-40), 3) := by decide +kernel
theorem dX9_tallyAll_45 : decode cX9_tallyAll 45 = .ok (.return_, 1) := by decide +kernel
theorem dX9_greatestTally_0 : decode cX9_greatestTally 0 = .ok (.iconst 0, 1) := by decide +kernel
theorem dX9_greatestTally_1 : decode cX9_greatestTally 1 = .ok (.istore_n 2, 1) := by decide +kernel
theorem dX9_greatestTally_2 : decode cX9_greatestTally 2 = .ok (.iconst 0, 1) := by decide +kernel
theorem dX9_greatestTally_3 : decode cX9_greatestTally 3 = .ok (.istore_n 3, 1) := by decide +kernel
theorem dX9_greatestTally_4 : decode cX9_greatestTally 4 = .ok (.iload_n 3, 1) := by decide +kernel
theorem dX9_greatestTally_5 : decode cX9_greatestTally 5 = .ok (.iconst 5, 1) := by decide +kernel
theorem dX9_greatestTally_6 : decode cX9_greatestTally 6 = .ok (.if_icmp .ge 24, 3) := by decide +kernel
theorem dX9_greatestTally_9 : decode cX9_greatestTally 9 = .ok (.iload_n 2, 1) := by decide +kernel
theorem dX9_greatestTally_10 : decode cX9_greatestTally 10 = .ok (.aload_n 0, 1) := by decide +kernel
theorem dX9_greatestTally_11 : decode cX9_greatestTally 11 = .ok (.getfield 43, 3) := by decide +kernel
theorem dX9_greatestTally_14 : decode cX9_greatestTally 14 = .ok (.iload_n 1, 1) := by decide +kernel
theorem dX9_greatestTally_15 : decode cX9_greatestTally 15 = .ok (.iconst 5, 1) := by decide +kernel
theorem dX9_greatestTally_16 : decode cX9_greatestTally 16 = .ok (.imul, 1) := by decide +kernel
theorem dX9_greatestTally_17 : decode cX9_greatestTally 17 = .ok (.iload_n 3, 1) := by decide +kernel
theorem dX9_greatestTally_18 : decode cX9_greatestTally 18 = .ok (.iadd, 1) := by decide +kernel
theorem dX9_greatestTally_19 : decode cX9_greatestTally 19 = .ok (.iaload, 1) := by decide +kernel
theorem dX9_greatestTally_20 : decode cX9_greatestTally 20 = .ok (.invokestatic 370, 3) := by decide +kernel
theorem dX9_greatestTally_23 : decode cX9_greatestTally 23 = .ok (.istore_n 2, 1) := by decide +kernel
theorem dX9_greatestTally_24 : decode cX9_greatestTally 24 = .ok (.iinc 3 1, 3) := by decide +kernel
theorem dX9_greatestTally_27 : decode cX9_greatestTally 27 = .ok (.goto (-23), 3) := by decide +kernel
theorem dX9_greatestTally_30 : decode cX9_greatestTally 30 = .ok (.iload_n 2, 1) := by decide +kernel
theorem dX9_greatestTally_31 : decode cX9_greatestTally 31 = .ok (.ireturn, 1) := by decide +kernel
theorem dX9_commonOfTen_0 : decode cX9_commonOfTen 0 = .ok (.iload_n 0, 1) := by decide +kernel
theorem dX9_commonOfTen_1 : decode cX9_commonOfTen 1 = .ok (.bipush 10, 2) := by decide +kernel
theorem dX9_commonOfTen_3 : decode cX9_commonOfTen 3 = .ok (.irem, 1) := by decide +kernel
theorem dX9_commonOfTen_4 : decode cX9_commonOfTen 4 = .ok (.ifCond .ne 6, 3) := by decide +kernel
theorem dX9_commonOfTen_7 : decode cX9_commonOfTen 7 = .ok (.bipush 10, 2) := by decide +kernel
theorem dX9_commonOfTen_9 : decode cX9_commonOfTen 9 = .ok (.ireturn, 1) := by decide +kernel
theorem dX9_commonOfTen_10 : decode cX9_commonOfTen 10 = .ok (.iload_n 0, 1) := by decide +kernel
theorem dX9_commonOfTen_11 : decode cX9_commonOfTen 11 = .ok (.iconst 5, 1) := by decide +kernel
theorem dX9_commonOfTen_12 : decode cX9_commonOfTen 12 = .ok (.irem, 1) := by decide +kernel
theorem dX9_commonOfTen_13 : decode cX9_commonOfTen 13 = .ok (.ifCond .ne 5, 3) := by decide +kernel
theorem dX9_commonOfTen_16 : decode cX9_commonOfTen 16 = .ok (.iconst 5, 1) := by decide +kernel
theorem dX9_commonOfTen_17 : decode cX9_commonOfTen 17 = .ok (.ireturn, 1) := by decide +kernel
theorem dX9_commonOfTen_18 : decode cX9_commonOfTen 18 = .ok (.iload_n 0, 1) := by decide +kernel
theorem dX9_commonOfTen_19 : decode cX9_commonOfTen 19 = .ok (.iconst 2, 1) := by decide +kernel
theorem dX9_commonOfTen_20 : decode cX9_commonOfTen 20 = .ok (.irem, 1) := by decide +kernel
theorem dX9_commonOfTen_21 : decode cX9_commonOfTen 21 = .ok (.ifCond .ne 7, 3) := by decide +kernel
theorem dX9_commonOfTen_24 : decode cX9_commonOfTen 24 = .ok (.iconst 2, 1) := by decide +kernel
theorem dX9_commonOfTen_25 : decode cX9_commonOfTen 25 = .ok (.goto 4, 3) := by decide +kernel
theorem dX9_commonOfTen_28 : decode cX9_commonOfTen 28 = .ok (.iconst 1, 1) := by decide +kernel
theorem dX9_commonOfTen_29 : decode cX9_commonOfTen 29 = .ok (.ireturn, 1) := by decide +kernel
theorem dX9_held_0 : decode cX9_held 0 = .ok (.iload_n 1, 1) := by decide +kernel
theorem dX9_held_1 : decode cX9_held 1 = .ok (.iload_n 2, 1) := by decide +kernel
theorem dX9_held_2 : decode cX9_held 2 = .ok (.iload_n 0, 1) := by decide +kernel
theorem dX9_held_3 : decode cX9_held 3 = .ok (.invokestatic 333, 3) := by decide +kernel
theorem dX9_held_6 : decode cX9_held 6 = .ok (.invokestatic 370, 3) := by decide +kernel
theorem dX9_held_9 : decode cX9_held 9 = .ok (.ireturn, 1) := by decide +kernel
theorem dX9_above_0 : decode cX9_above 0 = .ok (.iload_n 0, 1) := by decide +kernel
theorem dX9_above_1 : decode cX9_above 1 = .ok (.tableswitch 47 1 6 #[39, 39, 39, 41, 43, 45], 39) := by decide +kernel
theorem dX9_above_40 : decode cX9_above 40 = .ok (.iconst 0, 1) := by decide +kernel
theorem dX9_above_41 : decode cX9_above 41 = .ok (.ireturn, 1) := by decide +kernel
theorem dX9_above_42 : decode cX9_above 42 = .ok (.iconst 1, 1) := by decide +kernel
theorem dX9_above_43 : decode cX9_above 43 = .ok (.ireturn, 1) := by decide +kernel
theorem dX9_above_44 : decode cX9_above 44 = .ok (.iconst 2, 1) := by decide +kernel
theorem dX9_above_45 : decode cX9_above 45 = .ok (.ireturn, 1) := by decide +kernel
theorem dX9_above_46 : decode cX9_above 46 = .ok (.iconst 3, 1) := by decide +kernel
theorem dX9_above_47 : decode cX9_above 47 = .ok (.ireturn, 1) := by decide +kernel
theorem dX9_above_48 : decode cX9_above 48 = .ok (.iconst (-1), 1) := by decide +kernel
theorem dX9_above_49 : decode cX9_above 49 = .ok (.ireturn, 1) := by decide +kernel
end
section
theorem dX10_init_0 : decode cX10_init 0 = .ok (.aload_n 0, 1) := by decide +kernel
theorem dX10_init_1 : decode cX10_init 1 = .ok (.invokespecial 1, 3) := by decide +kernel
theorem dX10_init_4 : decode cX10_init 4 = .ok (.aload_n 0, 1) := by decide +kernel
theorem dX10_init_5 : decode cX10_init 5 = .ok (.sipush 213, 3) := by decide +kernel
theorem dX10_init_8 : decode cX10_init 8 = .ok (.newarray .int, 2) := by decide +kernel
theorem dX10_init_10 : decode cX10_init 10 = .ok (.putfield 7, 3) := by decide +kernel
theorem dX10_init_13 : decode cX10_init 13 = .ok (.aload_n 0, 1) := by decide +kernel
theorem dX10_init_14 : decode cX10_init 14 = .ok (.sipush 213, 3) := by decide +kernel
theorem dX10_init_17 : decode cX10_init 17 = .ok (.newarray .int, 2) := by decide +kernel
theorem dX10_init_19 : decode cX10_init 19 = .ok (.putfield 13, 3) := by decide +kernel
theorem dX10_init_22 : decode cX10_init 22 = .ok (.aload_n 0, 1) := by decide +kernel
theorem dX10_init_23 : decode cX10_init 23 = .ok (.sipush 213, 3) := by decide +kernel
theorem dX10_init_26 : decode cX10_init 26 = .ok (.newarray .int, 2) := by decide +kernel
theorem dX10_init_28 : decode cX10_init 28 = .ok (.putfield 16, 3) := by decide +kernel
theorem dX10_init_31 : decode cX10_init 31 = .ok (.aload_n 0, 1) := by decide +kernel
theorem dX10_init_32 : decode cX10_init 32 = .ok (.sipush 213, 3) := by decide +kernel
theorem dX10_init_35 : decode cX10_init 35 = .ok (.newarray .int, 2) := by decide +kernel
theorem dX10_init_37 : decode cX10_init 37 = .ok (.putfield 19, 3) := by decide +kernel
theorem dX10_init_40 : decode cX10_init 40 = .ok (.aload_n 0, 1) := by decide +kernel
theorem dX10_init_41 : decode cX10_init 41 = .ok (.bipush 6, 2) := by decide +kernel
theorem dX10_init_43 : decode cX10_init 43 = .ok (.newarray .int, 2) := by decide +kernel
theorem dX10_init_45 : decode cX10_init 45 = .ok (.putfield 22, 3) := by decide +kernel
theorem dX10_init_48 : decode cX10_init 48 = .ok (.aload_n 0, 1) := by decide +kernel
theorem dX10_init_49 : decode cX10_init 49 = .ok (.iconst 4, 1) := by decide +kernel
theorem dX10_init_50 : decode cX10_init 50 = .ok (.newarray .int, 2) := by decide +kernel
theorem dX10_init_52 : decode cX10_init 52 = .ok (.putfield 25, 3) := by decide +kernel
theorem dX10_init_55 : decode cX10_init 55 = .ok (.aload_n 0, 1) := by decide +kernel
theorem dX10_init_56 : decode cX10_init 56 = .ok (.iconst 4, 1) := by decide +kernel
theorem dX10_init_57 : decode cX10_init 57 = .ok (.newarray .int, 2) := by decide +kernel
theorem dX10_init_59 : decode cX10_init 59 = .ok (.putfield 28, 3) := by decide +kernel
theorem dX10_init_62 : decode cX10_init 62 = .ok (.aload_n 0, 1) := by decide +kernel
theorem dX10_init_63 : decode cX10_init 63 = .ok (.sipush 160, 3) := by decide +kernel
theorem dX10_init_66 : decode cX10_init 66 = .ok (.newarray .int, 2) := by decide +kernel
theorem dX10_init_68 : decode cX10_init 68 = .ok (.putfield 31, 3) := by decide +kernel
theorem dX10_init_71 : decode cX10_init 71 = .ok (.aload_n 0, 1) := by decide +kernel
theorem dX10_init_72 : decode cX10_init 72 = .ok (.bipush 40, 2) := by decide +kernel
theorem dX10_init_74 : decode cX10_init 74 = .ok (.newarray .int, 2) := by decide +kernel
theorem dX10_init_76 : decode cX10_init 76 = .ok (.putfield 34, 3) := by decide +kernel
theorem dX10_init_79 : decode cX10_init 79 = .ok (.aload_n 0, 1) := by decide +kernel
theorem dX10_init_80 : decode cX10_init 80 = .ok (.bipush 30, 2) := by decide +kernel
theorem dX10_init_82 : decode cX10_init 82 = .ok (.newarray .int, 2) := by decide +kernel
theorem dX10_init_84 : decode cX10_init 84 = .ok (.putfield 37, 3) := by decide +kernel
theorem dX10_init_87 : decode cX10_init 87 = .ok (.aload_n 0, 1) := by decide +kernel
theorem dX10_init_88 : decode cX10_init 88 = .ok (.bipush 40, 2) := by decide +kernel
theorem dX10_init_90 : decode cX10_init 90 = .ok (.newarray .int, 2) := by decide +kernel
theorem dX10_init_92 : decode cX10_init 92 = .ok (.putfield 40, 3) := by decide +kernel
theorem dX10_init_95 : decode cX10_init 95 = .ok (.aload_n 0, 1) := by decide +kernel
theorem dX10_init_96 : decode cX10_init 96 = .ok (.getfield 7, 3) := by decide +kernel
theorem dX10_init_99 : decode cX10_init 99 = .ok (.iconst 1, 1) := by decide +kernel
theorem dX10_init_100 : decode cX10_init 100 = .ok (.iconst 1, 1) := by decide +kernel
theorem dX10_init_101 : decode cX10_init 101 = .ok (.iastore, 1) := by decide +kernel
theorem dX10_init_102 : decode cX10_init 102 = .ok (.aload_n 0, 1) := by decide +kernel
theorem dX10_init_103 : decode cX10_init 103 = .ok (.getfield 7, 3) := by decide +kernel
theorem dX10_init_106 : decode cX10_init 106 = .ok (.bipush 8, 2) := by decide +kernel
theorem dX10_init_108 : decode cX10_init 108 = .ok (.iconst 4, 1) := by decide +kernel
theorem dX10_init_109 : decode cX10_init 109 = .ok (.iastore, 1) := by decide +kernel
theorem dX10_init_110 : decode cX10_init 110 = .ok (.aload_n 0, 1) := by decide +kernel
theorem dX10_init_111 : decode cX10_init 111 = .ok (.getfield 7, 3) := by decide +kernel
theorem dX10_init_114 : decode cX10_init 114 = .ok (.bipush 12, 2) := by decide +kernel
theorem dX10_init_116 : decode cX10_init 116 = .ok (.iconst 3, 1) := by decide +kernel
theorem dX10_init_117 : decode cX10_init 117 = .ok (.iastore, 1) := by decide +kernel
theorem dX10_init_118 : decode cX10_init 118 = .ok (.aload_n 0, 1) := by decide +kernel
theorem dX10_init_119 : decode cX10_init 119 = .ok (.getfield 7, 3) := by decide +kernel
theorem dX10_init_122 : decode cX10_init 122 = .ok (.iconst 5, 1) := by decide +kernel
theorem dX10_init_123 : decode cX10_init 123 = .ok (.iconst (-1), 1) := by decide +kernel
theorem dX10_init_124 : decode cX10_init 124 = .ok (.iastore, 1) := by decide +kernel
theorem dX10_init_125 : decode cX10_init 125 = .ok (.aload_n 0, 1) := by decide +kernel
theorem dX10_init_126 : decode cX10_init 126 = .ok (.getfield 7, 3) := by decide +kernel
theorem dX10_init_129 : decode cX10_init 129 = .ok (.bipush 6, 2) := by decide +kernel
theorem dX10_init_131 : decode cX10_init 131 = .ok (.iconst (-1), 1) := by decide +kernel
theorem dX10_init_132 : decode cX10_init 132 = .ok (.iastore, 1) := by decide +kernel
theorem dX10_init_133 : decode cX10_init 133 = .ok (.return_, 1) := by decide +kernel
theorem dX10_in_0 : decode cX10_in 0 = .ok (.iload_n 0, 1) := by decide +kernel
theorem dX10_in_1 : decode cX10_in 1 = .ok (.iload_n 1, 1) := by decide +kernel
theorem dX10_in_2 : decode cX10_in 2 = .ok (.if_icmp .lt 12, 3) := by decide +kernel
theorem dX10_in_5 : decode cX10_in 5 = .ok (.iload_n 0, 1) := by decide +kernel
theorem dX10_in_6 : decode cX10_in 6 = .ok (.iload_n 2, 1) := by decide +kernel
theorem dX10_in_7 : decode cX10_in 7 = .ok (.if_icmp .gt 7, 3) := by decide +kernel
theorem dX10_in_10 : decode cX10_in 10 = .ok (.iconst 1, 1) := by decide +kernel
theorem dX10_in_11 : decode cX10_in 11 = .ok (.goto 4, 3) := by decide +kernel
theorem dX10_in_14 : decode cX10_in 14 = .ok (.iconst 0, 1) := by decide +kernel
theorem dX10_in_15 : decode cX10_in 15 = .ok (.ireturn, 1) := by decide +kernel
theorem dX10_errs_0 : decode cX10_errs 0 = .ok (.aload_n 0, 1) := by decide +kernel
theorem dX10_errs_1 : decode cX10_errs 1 = .ok (.getfield 22, 3) := by decide +kernel
theorem dX10_errs_4 : decode cX10_errs 4 = .ok (.ldc 43, 2) := by decide +kernel
theorem dX10_errs_6 : decode cX10_errs 6 = .ok (.iload_n 1, 1) := by decide +kernel
theorem dX10_errs_7 : decode cX10_errs 7 = .ok (.isub, 1) := by decide +kernel
theorem dX10_errs_8 : decode cX10_errs 8 = .ok (.dup2, 1) := by decide +kernel
theorem dX10_errs_9 : decode cX10_errs 9 = .ok (.iaload, 1) := by decide +kernel
theorem dX10_errs_10 : decode cX10_errs 10 = .ok (.iconst 1, 1) := by decide +kernel
theorem dX10_errs_11 : decode cX10_errs 11 = .ok (.iadd, 1) := by decide +kernel
theorem dX10_errs_12 : decode cX10_errs 12 = .ok (.iastore, 1) := by decide +kernel
theorem dX10_errs_13 : decode cX10_errs 13 = .ok (.iload_n 1, 1) := by decide +kernel
theorem dX10_errs_14 : decode cX10_errs 14 = .ok (.ireturn, 1) := by decide +kernel
theorem dX10_held_0 : decode cX10_held 0 = .ok (.iload_n 0, 1) := by decide +kernel
theorem dX10_held_1 : decode cX10_held 1 = .ok (.iload_n 1, 1) := by decide +kernel
theorem dX10_held_2 : decode cX10_held 2 = .ok (.if_icmp .ge 7, 3) := by decide +kernel
theorem dX10_held_5 : decode cX10_held 5 = .ok (.iload_n 1, 1) := by decide +kernel
theorem dX10_held_6 : decode cX10_held 6 = .ok (.goto 13, 3) := by decide +kernel
theorem dX10_held_9 : decode cX10_held 9 = .ok (.iload_n 0, 1) := by decide +kernel
theorem dX10_held_10 : decode cX10_held 10 = .ok (.iload_n 2, 1) := by decide +kernel
theorem dX10_held_11 : decode cX10_held 11 = .ok (.if_icmp .le 7, 3) := by decide +kernel
theorem dX10_held_14 : decode cX10_held 14 = .ok (.iload_n 2, 1) := by decide +kernel
theorem dX10_held_15 : decode cX10_held 15 = .ok (.goto 4, 3) := by decide +kernel
theorem dX10_held_18 : decode cX10_held 18 = .ok (.iload_n 0, 1) := by decide +kernel
theorem dX10_held_19 : decode cX10_held 19 = .ok (.ireturn, 1) := by decide +kernel
theorem dX10_moveAll_0 : decode cX10_moveAll 0 = .ok (.iconst 0, 1) := by decide +kernel
theorem dX10_moveAll_1 : decode cX10_moveAll 1 = .ok (.istore_n 3, 1) := by decide +kernel
theorem dX10_moveAll_2 : decode cX10_moveAll 2 = .ok (.iload_n 3, 1) := by decide +kernel
theorem dX10_moveAll_3 : decode cX10_moveAll 3 = .ok (.sipush 213, 3) := by decide +kernel
theorem dX10_moveAll_6 : decode cX10_moveAll 6 = .ok (.if_icmp .ge 15, 3) := by decide +kernel
theorem dX10_moveAll_9 : decode cX10_moveAll 9 = .ok (.aload_n 2, 1) := by decide +kernel
theorem dX10_moveAll_10 : decode cX10_moveAll 10 = .ok (.iload_n 3, 1) := by decide +kernel
theorem dX10_moveAll_11 : decode cX10_moveAll 11 = .ok (.aload_n 1, 1) := by decide +kernel
theorem dX10_moveAll_12 : decode cX10_moveAll 12 = .ok (.iload_n 3, 1) := by decide +kernel
theorem dX10_moveAll_13 : decode cX10_moveAll 13 = .ok (.iaload, 1) := by decide +kernel
theorem dX10_moveAll_14 : decode cX10_moveAll 14 = .ok (.iastore, 1) := by decide +kernel
theorem dX10_moveAll_15 : decode cX10_moveAll 15 = .ok (.iinc 3 1, 3) := by decide +kernel
theorem dX10_moveAll_18 : decode cX10_moveAll 18 = .ok (.goto (-16), 3) := by decide +kernel
theorem dX10_moveAll_21 : decode cX10_moveAll 21 = .ok (.return_, 1) := by decide +kernel
theorem dX10_its_0 : decode cX10_its 0 = .ok (.aload_n 0, 1) := by decide +kernel
theorem dX10_its_1 : decode cX10_its 1 = .ok (.getfield 7, 3) := by decide +kernel
theorem dX10_its_4 : decode cX10_its 4 = .ok (.bipush 13, 2) := by decide +kernel
theorem dX10_its_6 : decode cX10_its 6 = .ok (.iconst 5, 1) := by decide +kernel
theorem dX10_its_7 : decode cX10_its 7 = .ok (.iload_n 1, 1) := by decide +kernel
theorem dX10_its_8 : decode cX10_its 8 = .ok (.imul, 1) := by decide +kernel
theorem dX10_its_9 : decode cX10_its 9 = .ok (.iadd, 1) := by decide +kernel
theorem dX10_its_10 : decode cX10_its 10 = .ok (.iload_n 2, 1) := by decide +kernel
theorem dX10_its_11 : decode cX10_its 11 = .ok (.iadd, 1) := by decide +kernel
theorem dX10_its_12 : decode cX10_its 12 = .ok (.iaload, 1) := by decide +kernel
theorem dX10_its_13 : decode cX10_its 13 = .ok (.ireturn, 1) := by decide +kernel
theorem dX10_gets_0 : decode cX10_gets 0 = .ok (.aload_n 0, 1) := by decide +kernel
theorem dX10_gets_1 : decode cX10_gets 1 = .ok (.getfield 7, 3) := by decide +kernel
theorem dX10_gets_4 : decode cX10_gets 4 = .ok (.bipush 13, 2) := by decide +kernel
theorem dX10_gets_6 : decode cX10_gets 6 = .ok (.iconst 5, 1) := by decide +kernel
theorem dX10_gets_7 : decode cX10_gets 7 = .ok (.iload_n 1, 1) := by decide +kernel
theorem dX10_gets_8 : decode cX10_gets 8 = .ok (.imul, 1) := by decide +kernel
theorem dX10_gets_9 : decode cX10_gets 9 = .ok (.iadd, 1) := by decide +kernel
theorem dX10_gets_10 : decode cX10_gets 10 = .ok (.iload_n 2, 1) := by decide +kernel
theorem dX10_gets_11 : decode cX10_gets 11 = .ok (.iadd, 1) := by decide +kernel
theorem dX10_gets_12 : decode cX10_gets 12 = .ok (.iload_n 3, 1) := by decide +kernel
theorem dX10_gets_13 : decode cX10_gets 13 = .ok (.iastore, 1) := by decide +kernel
theorem dX10_gets_14 : decode cX10_gets 14 = .ok (.return_, 1) := by decide +kernel
theorem dX10_isCloth_0 : decode cX10_isCloth 0 = .ok (.iload_n 1, 1) := by decide +kernel
theorem dX10_isCloth_1 : decode cX10_isCloth 1 = .ok (.iconst 0, 1) := by decide +kernel
theorem dX10_isCloth_2 : decode cX10_isCloth 2 = .ok (.aload_n 0, 1) := by decide +kernel
theorem dX10_isCloth_3 : decode cX10_isCloth 3 = .ok (.getfield 7, 3) := by decide +kernel
theorem dX10_isCloth_6 : decode cX10_isCloth 6 = .ok (.iconst 2, 1) := by decide +kernel
theorem dX10_isCloth_7 : decode cX10_isCloth 7 = .ok (.iaload, 1) := by decide +kernel
theorem dX10_isCloth_8 : decode cX10_isCloth 8 = .ok (.iconst 1, 1) := by decide +kernel
theorem dX10_isCloth_9 : decode cX10_isCloth 9 = .ok (.isub, 1) := by decide +kernel
theorem dX10_isCloth_10 : decode cX10_isCloth 10 = .ok (.invokestatic 44, 3) := by decide +kernel
theorem dX10_isCloth_13 : decode cX10_isCloth 13 = .ok (.ireturn, 1) := by decide +kernel
theorem dX10_becomes_0 : decode cX10_becomes 0 = .ok (.aload_n 0, 1) := by decide +kernel
theorem dX10_becomes_1 : decode cX10_becomes 1 = .ok (.getfield 7, 3) := by decide +kernel
theorem dX10_becomes_4 : decode cX10_becomes 4 = .ok (.iload_n 1, 1) := by decide +kernel
theorem dX10_becomes_5 : decode cX10_becomes 5 = .ok (.iaload, 1) := by decide +kernel
theorem dX10_becomes_6 : decode cX10_becomes 6 = .ok (.istore_n 3, 1) := by decide +kernel
theorem dX10_becomes_7 : decode cX10_becomes 7 = .ok (.aload_n 0, 1) := by decide +kernel
theorem dX10_becomes_8 : decode cX10_becomes 8 = .ok (.getfield 7, 3) := by decide +kernel
theorem dX10_becomes_11 : decode cX10_becomes 11 = .ok (.iload_n 1, 1) := by decide +kernel
theorem dX10_becomes_12 : decode cX10_becomes 12 = .ok (.iload_n 2, 1) := by decide +kernel
theorem dX10_becomes_13 : decode cX10_becomes 13 = .ok (.iastore, 1) := by decide +kernel
theorem dX10_becomes_14 : decode cX10_becomes 14 = .ok (.iload_n 3, 1) := by decide +kernel
theorem dX10_becomes_15 : decode cX10_becomes 15 = .ok (.ireturn, 1) := by decide +kernel
theorem dX10_set_0 : decode cX10_set 0 = .ok (.iload_n 1, 1) := by decide +kernel
theorem dX10_set_1 : decode cX10_set 1 = .ok (.iconst 0, 1) := by decide +kernel
theorem dX10_set_2 : decode cX10_set 2 = .ok (.iconst 5, 1) := by decide +kernel
theorem dX10_set_3 : decode cX10_set 3 = .ok (.invokestatic 44, 3) := by decide +kernel
theorem dX10_set_6 : decode cX10_set 6 = .ok (.ifCond .eq 40, 3) := by decide +kernel
theorem dX10_set_9 : decode cX10_set 9 = .ok (.iload_n 2, 1) := by decide +kernel
theorem dX10_set_10 : decode cX10_set 10 = .ok (.iconst 0, 1) := by decide +kernel
theorem dX10_set_11 : decode cX10_set 11 = .ok (.iload_n 1, 1) := by decide +kernel
theorem dX10_set_12 : decode cX10_set 12 = .ok (.ifCond .ne 7, 3) := by decide +kernel
theorem dX10_set_15 : decode cX10_set 15 = .ok (.iconst 1, 1) := by decide +kernel
theorem dX10_set_16 : decode cX10_set 16 = .ok (.goto 24, 3) := by decide +kernel
theorem dX10_set_19 : decode cX10_set 19 = .ok (.iload_n 1, 1) := by decide +kernel
theorem dX10_set_20 : decode cX10_set 20 = .ok (.iconst 3, 1) := by decide +kernel
theorem dX10_set_21 : decode cX10_set 21 = .ok (.if_icmp .ne 7, 3) := by decide +kernel
theorem dX10_set_24 : decode cX10_set 24 = .ok (.iconst 2, 1) := by decide +kernel
theorem dX10_set_25 : decode cX10_set 25 = .ok (.goto 15, 3) := by decide +kernel
theorem dX10_set_28 : decode cX10_set 28 = .ok (.iload_n 1, 1) := by decide +kernel
theorem dX10_set_29 : decode cX10_set 29 = .ok (.iconst 4, 1) := by decide +kernel
theorem dX10_set_30 : decode cX10_set 30 = .ok (.if_icmp .ne 8, 3) := by decide +kernel
theorem dX10_set_33 : decode cX10_set 33 = .ok (.bipush 99, 2) := by decide +kernel
theorem dX10_set_35 : decode cX10_set 35 = .ok (.goto 5, 3) := by decide +kernel
theorem dX10_set_38 : decode cX10_set 38 = .ok (.bipush 9, 2) := by decide +kernel
theorem dX10_set_40 : decode cX10_set 40 = .ok (.invokestatic 44, 3) := by decide +kernel
theorem dX10_set_43 : decode cX10_set 43 = .ok (.ifCond .ne 10, 3) := by decide +kernel
theorem dX10_set_46 : decode cX10_set 46 = .ok (.aload_n 0, 1) := by decide +kernel
theorem dX10_set_47 : decode cX10_set 47 = .ok (.ldc 48, 2) := by decide +kernel
theorem dX10_set_49 : decode cX10_set 49 = .ok (.invokevirtual 49, 3) := by decide +kernel
theorem dX10_set_52 : decode cX10_set 52 = .ok (.ireturn, 1) := by decide +kernel
theorem dX10_set_53 : decode cX10_set 53 = .ok (.aload_n 0, 1) := by decide +kernel
theorem dX10_set_54 : decode cX10_set 54 = .ok (.bipush 7, 2) := by decide +kernel
theorem dX10_set_56 : decode cX10_set 56 = .ok (.iload_n 1, 1) := by decide +kernel
theorem dX10_set_57 : decode cX10_set 57 = .ok (.iadd, 1) := by decide +kernel
theorem dX10_set_58 : decode cX10_set 58 = .ok (.iload_n 2, 1) := by decide +kernel
theorem dX10_set_59 : decode cX10_set 59 = .ok (.invokevirtual 53, 3) := by decide +kernel
theorem dX10_set_62 : decode cX10_set 62 = .ok (.ireturn, 1) := by decide +kernel
theorem dX10_machine_0 : decode cX10_machine 0 = .ok (.iload_n 1, 1) := by decide +kernel
theorem dX10_machine_1 : decode cX10_machine 1 = .ok (.iconst 0, 1) := by decide +kernel
theorem dX10_machine_2 : decode cX10_machine 2 = .ok (.iconst 5, 1) := by decide +kernel
theorem dX10_machine_3 : decode cX10_machine 3 = .ok (.invokestatic 44, 3) := by decide +kernel
theorem dX10_machine_6 : decode cX10_machine 6 = .ok (.ifCond .eq 15, 3) := by decide +kernel
theorem dX10_machine_9 : decode cX10_machine 9 = .ok (.aload_n 0, 1) := by decide +kernel
theorem dX10_machine_10 : decode cX10_machine 10 = .ok (.getfield 7, 3) := by decide +kernel
theorem dX10_machine_13 : decode cX10_machine 13 = .ok (.bipush 7, 2) := by decide +kernel
theorem dX10_machine_15 : decode cX10_machine 15 = .ok (.iload_n 1, 1) := by decide +kernel
theorem dX10_machine_16 : decode cX10_machine 16 = .ok (.iadd, 1) := by decide +kernel
theorem dX10_machine_17 : decode cX10_machine 17 = .ok (.iaload, 1) := by decide +kernel
theorem dX10_machine_18 : decode cX10_machine 18 = .ok (.goto 9, 3) := by decide +kernel
theorem dX10_machine_21 : decode cX10_machine 21 = .ok (.aload_n 0, 1) := by decide +kernel
theorem dX10_machine_22 : decode cX10_machine 22 = .ok (.ldc 48, 2) := by decide +kernel
theorem dX10_machine_24 : decode cX10_machine 24 = .ok (.invokevirtual 49, 3) := by decide +kernel
theorem dX10_machine_27 : decode cX10_machine 27 = .ok (.ireturn, 1) := by decide +kernel
theorem dX10_cloth_0 : decode cX10_cloth 0 = .ok (.iload_n 1, 1) := by decide +kernel
theorem dX10_cloth_1 : decode cX10_cloth 1 = .ok (.iconst 0, 1) := by decide +kernel
theorem dX10_cloth_2 : decode cX10_cloth 2 = .ok (.bipush 69, 2) := by decide +kernel
theorem dX10_cloth_4 : decode cX10_cloth 4 = .ok (.invokestatic 44, 3) := by decide +kernel
theorem dX10_cloth_7 : decode cX10_cloth 7 = .ok (.ifCond .eq 13, 3) := by decide +kernel
theorem dX10_cloth_10 : decode cX10_cloth 10 = .ok (.iload_n 2, 1) := by decide +kernel
theorem dX10_cloth_11 : decode cX10_cloth 11 = .ok (.iconst 0, 1) := by decide +kernel
theorem dX10_cloth_12 : decode cX10_cloth 12 = .ok (.bipush 9, 2) := by decide +kernel
theorem dX10_cloth_14 : decode cX10_cloth 14 = .ok (.invokestatic 44, 3) := by decide +kernel
theorem dX10_cloth_17 : decode cX10_cloth 17 = .ok (.ifCond .ne 10, 3) := by decide +kernel
theorem dX10_cloth_20 : decode cX10_cloth 20 = .ok (.aload_n 0, 1) := by decide +kernel
theorem dX10_cloth_21 : decode cX10_cloth 21 = .ok (.ldc 48, 2) := by decide +kernel
theorem dX10_cloth_23 : decode cX10_cloth 23 = .ok (.invokevirtual 49, 3) := by decide +kernel
theorem dX10_cloth_26 : decode cX10_cloth 26 = .ok (.ireturn, 1) := by decide +kernel
theorem dX10_cloth_27 : decode cX10_cloth 27 = .ok (.aload_n 0, 1) := by decide +kernel
theorem dX10_cloth_28 : decode cX10_cloth 28 = .ok (.getfield 7, 3) := by decide +kernel
theorem dX10_cloth_31 : decode cX10_cloth 31 = .ok (.iconst 2, 1) := by decide +kernel
theorem dX10_cloth_32 : decode cX10_cloth 32 = .ok (.iaload, 1) := by decide +kernel
theorem dX10_cloth_33 : decode cX10_cloth 33 = .ok (.bipush 6, 2) := by decide +kernel
theorem dX10_cloth_35 : decode cX10_cloth 35 = .ok (.if_icmp .ne 10, 3) := by decide +kernel
theorem dX10_cloth_38 : decode cX10_cloth 38 = .ok (.aload_n 0, 1) := by decide +kernel
theorem dX10_cloth_39 : decode cX10_cloth 39 = .ok (.ldc 57, 2) := by decide +kernel
theorem dX10_cloth_41 : decode cX10_cloth 41 = .ok (.invokevirtual 49, 3) := by decide +kernel
theorem dX10_cloth_44 : decode cX10_cloth 44 = .ok (.ireturn, 1) := by decide +kernel
theorem dX10_cloth_45 : decode cX10_cloth 45 = .ok (.aload_n 0, 1) := by decide +kernel
theorem dX10_cloth_46 : decode cX10_cloth 46 = .ok (.getfield 7, 3) := by decide +kernel
theorem dX10_cloth_49 : decode cX10_cloth 49 = .ok (.iconst 2, 1) := by decide +kernel
theorem dX10_cloth_50 : decode cX10_cloth 50 = .ok (.iaload, 1) := by decide +kernel
theorem dX10_cloth_51 : decode cX10_cloth 51 = .ok (.istore_n 3, 1) := by decide +kernel
theorem dX10_cloth_52 : decode cX10_cloth 52 = .ok (.aload_n 0, 1) := by decide +kernel
theorem dX10_cloth_53 : decode cX10_cloth 53 = .ok (.iload_n 3, 1) := by decide +kernel
theorem dX10_cloth_54 : decode cX10_cloth 54 = .ok (.iconst 0, 1) := by decide +kernel
theorem dX10_cloth_55 : decode cX10_cloth 55 = .ok (.iload_n 1, 1) := by decide +kernel
theorem dX10_cloth_56 : decode cX10_cloth 56 = .ok (.bipush 10, 2) := by decide +kernel
theorem dX10_cloth_58 : decode cX10_cloth 58 = .ok (.idiv, 1) := by decide +kernel
theorem dX10_cloth_59 : decode cX10_cloth 59 = .ok (.invokevirtual 58, 3) := by decide +kernel
theorem dX10_cloth_62 : decode cX10_cloth 62 = .ok (.aload_n 0, 1) := by decide +kernel
theorem dX10_cloth_63 : decode cX10_cloth 63 = .ok (.iload_n 3, 1) := by decide +kernel
theorem dX10_cloth_64 : decode cX10_cloth 64 = .ok (.iconst 1, 1) := by decide +kernel
theorem dX10_cloth_65 : decode cX10_cloth 65 = .ok (.iload_n 1, 1) := by decide +kernel
theorem dX10_cloth_66 : decode cX10_cloth 66 = .ok (.bipush 10, 2) := by decide +kernel
theorem dX10_cloth_68 : decode cX10_cloth 68 = .ok (.irem, 1) := by decide +kernel
theorem dX10_cloth_69 : decode cX10_cloth 69 = .ok (.invokevirtual 58, 3) := by decide +kernel
theorem dX10_cloth_72 : decode cX10_cloth 72 = .ok (.aload_n 0, 1) := by decide +kernel
theorem dX10_cloth_73 : decode cX10_cloth 73 = .ok (.iload_n 3, 1) := by decide +kernel
theorem dX10_cloth_74 : decode cX10_cloth 74 = .ok (.iconst 2, 1) := by decide +kernel
theorem dX10_cloth_75 : decode cX10_cloth 75 = .ok (.iload_n 2, 1) := by decide +kernel
theorem dX10_cloth_76 : decode cX10_cloth 76 = .ok (.invokevirtual 58, 3) := by decide +kernel
theorem dX10_cloth_79 : decode cX10_cloth 79 = .ok (.aload_n 0, 1) := by decide +kernel
theorem dX10_cloth_80 : decode cX10_cloth 80 = .ok (.iload_n 3, 1) := by decide +kernel
theorem dX10_cloth_81 : decode cX10_cloth 81 = .ok (.iconst 3, 1) := by decide +kernel
theorem dX10_cloth_82 : decode cX10_cloth 82 = .ok (.iconst 0, 1) := by decide +kernel
theorem dX10_cloth_83 : decode cX10_cloth 83 = .ok (.invokevirtual 58, 3) := by decide +kernel
theorem dX10_cloth_86 : decode cX10_cloth 86 = .ok (.aload_n 0, 1) := by decide +kernel
theorem dX10_cloth_87 : decode cX10_cloth 87 = .ok (.iload_n 3, 1) := by decide +kernel
theorem dX10_cloth_88 : decode cX10_cloth 88 = .ok (.iconst 4, 1) := by decide +kernel
theorem dX10_cloth_89 : decode cX10_cloth 89 = .ok (.iconst 0, 1) := by decide +kernel
theorem dX10_cloth_90 : decode cX10_cloth 90 = .ok (.invokevirtual 58, 3) := by decide +kernel
theorem dX10_cloth_93 : decode cX10_cloth 93 = .ok (.aload_n 0, 1) := by decide +kernel
theorem dX10_cloth_94 : decode cX10_cloth 94 = .ok (.getfield 7, 3) := by decide +kernel
theorem dX10_cloth_97 : decode cX10_cloth 97 = .ok (.iconst 2, 1) := by decide +kernel
theorem dX10_cloth_98 : decode cX10_cloth 98 = .ok (.dup2, 1) := by decide +kernel
theorem dX10_cloth_99 : decode cX10_cloth 99 = .ok (.iaload, 1) := by decide +kernel
theorem dX10_cloth_100 : decode cX10_cloth 100 = .ok (.iconst 1, 1) := by decide +kernel
theorem dX10_cloth_101 : decode cX10_cloth 101 = .ok (.iadd, 1) := by decide +kernel
theorem dX10_cloth_102 : decode cX10_cloth 102 = .ok (.iastore, 1) := by decide +kernel
theorem dX10_cloth_103 : decode cX10_cloth 103 = .ok (.iload_n 3, 1) := by decide +kernel
theorem dX10_cloth_104 : decode cX10_cloth 104 = .ok (.ireturn, 1) := by decide +kernel
theorem dX10_ofCloth_0 : decode cX10_ofCloth 0 = .ok (.aload_n 0, 1) := by decide +kernel
theorem dX10_ofCloth_1 : decode cX10_ofCloth 1 = .ok (.iload_n 1, 1) := by decide +kernel
theorem dX10_ofCloth_2 : decode cX10_ofCloth 2 = .ok (.invokevirtual 62, 3) := by decide +kernel
theorem dX10_ofCloth_5 : decode cX10_ofCloth 5 = .ok (.ifCond .eq 13, 3) := by decide +kernel
theorem dX10_ofCloth_8 : decode cX10_ofCloth 8 = .ok (.iload_n 2, 1) := by decide +kernel
theorem dX10_ofCloth_9 : decode cX10_ofCloth 9 = .ok (.iconst 0, 1) := by decide +kernel
theorem dX10_ofCloth_10 : decode cX10_ofCloth 10 = .ok (.bipush 8, 2) := by decide +kernel
theorem dX10_ofCloth_12 : decode cX10_ofCloth 12 = .ok (.invokestatic 44, 3) := by decide +kernel
theorem dX10_ofCloth_15 : decode cX10_ofCloth 15 = .ok (.ifCond .ne 10, 3) := by decide +kernel
theorem dX10_ofCloth_18 : decode cX10_ofCloth 18 = .ok (.aload_n 0, 1) := by decide +kernel
theorem dX10_ofCloth_19 : decode cX10_ofCloth 19 = .ok (.ldc 48, 2) := by decide +kernel
theorem dX10_ofCloth_21 : decode cX10_ofCloth 21 = .ok (.invokevirtual 49, 3) := by decide +kernel
theorem dX10_ofCloth_24 : decode cX10_ofCloth 24 = .ok (.ireturn, 1) := by decide +kernel
theorem dX10_ofCloth_25 : decode cX10_ofCloth 25 = .ok (.iload_n 2, 1) := by decide +kernel
theorem dX10_ofCloth_26 : decode cX10_ofCloth 26 = .ok (.tableswitch 54 5 8 #[30, 36, 42, 48], 30) := by decide +kernel
theorem dX10_ofCloth_56 : decode cX10_ofCloth 56 = .ok (.aload_n 0, 1) := by decide +kernel
theorem dX10_ofCloth_57 : decode cX10_ofCloth 57 = .ok (.iload_n 1, 1) := by decide +kernel
theorem dX10_ofCloth_58 : decode cX10_ofCloth 58 = .ok (.invokevirtual 66, 3) := by decide +kernel
theorem dX10_ofCloth_61 : decode cX10_ofCloth 61 = .ok (.ireturn, 1) := by decide +kernel
theorem dX10_ofCloth_62 : decode cX10_ofCloth 62 = .ok (.aload_n 0, 1) := by decide +kernel
theorem dX10_ofCloth_63 : decode cX10_ofCloth 63 = .ok (.iload_n 1, 1) := by decide +kernel
theorem dX10_ofCloth_64 : decode cX10_ofCloth 64 = .ok (.invokevirtual 69, 3) := by decide +kernel
theorem dX10_ofCloth_67 : decode cX10_ofCloth 67 = .ok (.ireturn, 1) := by decide +kernel
theorem dX10_ofCloth_68 : decode cX10_ofCloth 68 = .ok (.aload_n 0, 1) := by decide +kernel
theorem dX10_ofCloth_69 : decode cX10_ofCloth 69 = .ok (.iload_n 1, 1) := by decide +kernel
theorem dX10_ofCloth_70 : decode cX10_ofCloth 70 = .ok (.invokevirtual 72, 3) := by decide +kernel
theorem dX10_ofCloth_73 : decode cX10_ofCloth 73 = .ok (.ireturn, 1) := by decide +kernel
theorem dX10_ofCloth_74 : decode cX10_ofCloth 74 = .ok (.aload_n 0, 1) := by decide +kernel
theorem dX10_ofCloth_75 : decode cX10_ofCloth 75 = .ok (.iload_n 1, 1) := by decide +kernel
theorem dX10_ofCloth_76 : decode cX10_ofCloth 76 = .ok (.invokevirtual 75, 3) := by decide +kernel
theorem dX10_ofCloth_79 : decode cX10_ofCloth 79 = .ok (.ireturn, 1) := by decide +kernel
theorem dX10_ofCloth_80 : decode cX10_ofCloth 80 = .ok (.aload_n 0, 1) := by decide +kernel
theorem dX10_ofCloth_81 : decode cX10_ofCloth 81 = .ok (.iload_n 1, 1) := by decide +kernel
theorem dX10_ofCloth_82 : decode cX10_ofCloth 82 = .ok (.iload_n 2, 1) := by decide +kernel
theorem dX10_ofCloth_83 : decode cX10_ofCloth 83 = .ok (.invokevirtual 78, 3) := by decide +kernel
theorem dX10_ofCloth_86 : decode cX10_ofCloth 86 = .ok (.ireturn, 1) := by decide +kernel
theorem dX10_change_0 : decode cX10_change 0 = .ok (.aload_n 0, 1) := by decide +kernel
theorem dX10_change_1 : decode cX10_change 1 = .ok (.iload_n 1, 1) := by decide +kernel
theorem dX10_change_2 : decode cX10_change 2 = .ok (.invokevirtual 62, 3) := by decide +kernel
theorem dX10_change_5 : decode cX10_change 5 = .ok (.ifCond .eq 50, 3) := by decide +kernel
theorem dX10_change_8 : decode cX10_change 8 = .ok (.iload_n 2, 1) := by decide +kernel
theorem dX10_change_9 : decode cX10_change 9 = .ok (.iconst 0, 1) := by decide +kernel
theorem dX10_change_10 : decode cX10_change 10 = .ok (.iconst 2, 1) := by decide +kernel
theorem dX10_change_11 : decode cX10_change 11 = .ok (.invokestatic 44, 3) := by decide +kernel
theorem dX10_change_14 : decode cX10_change 14 = .ok (.ifCond .eq 41, 3) := by decide +kernel
theorem dX10_change_17 : decode cX10_change 17 = .ok (.iload_n 3, 1) := by decide +kernel
theorem dX10_change_18 : decode cX10_change 18 = .ok (.iconst 0, 1) := by decide +kernel
theorem dX10_change_19 : decode cX10_change 19 = .ok (.iload_n 2, 1) := by decide +kernel
theorem dX10_change_20 : decode cX10_change 20 = .ok (.ifCond .ne 8, 3) := by decide +kernel
theorem dX10_change_23 : decode cX10_change 23 = .ok (.bipush 9, 2) := by decide +kernel
theorem dX10_change_25 : decode cX10_change 25 = .ok (.goto 6, 3) := by decide +kernel
theorem dX10_change_28 : decode cX10_change 28 = .ok (.sipush 9999, 3) := by decide +kernel
theorem dX10_change_31 : decode cX10_change 31 = .ok (.invokestatic 44, 3) := by decide +kernel
theorem dX10_change_34 : decode cX10_change 34 = .ok (.ifCond .eq 21, 3) := by decide +kernel
theorem dX10_change_37 : decode cX10_change 37 = .ok (.aload_n 0, 1) := by decide +kernel
theorem dX10_change_38 : decode cX10_change 38 = .ok (.bipush 13, 2) := by decide +kernel
theorem dX10_change_40 : decode cX10_change 40 = .ok (.iconst 5, 1) := by decide +kernel
theorem dX10_change_41 : decode cX10_change 41 = .ok (.iload_n 1, 1) := by decide +kernel
theorem dX10_change_42 : decode cX10_change 42 = .ok (.imul, 1) := by decide +kernel
theorem dX10_change_43 : decode cX10_change 43 = .ok (.iadd, 1) := by decide +kernel
theorem dX10_change_44 : decode cX10_change 44 = .ok (.iconst 2, 1) := by decide +kernel
theorem dX10_change_45 : decode cX10_change 45 = .ok (.iadd, 1) := by decide +kernel
theorem dX10_change_46 : decode cX10_change 46 = .ok (.iload_n 2, 1) := by decide +kernel
theorem dX10_change_47 : decode cX10_change 47 = .ok (.iadd, 1) := by decide +kernel
theorem dX10_change_48 : decode cX10_change 48 = .ok (.iload_n 3, 1) := by decide +kernel
theorem dX10_change_49 : decode cX10_change 49 = .ok (.invokevirtual 53, 3) := by decide +kernel
theorem dX10_change_52 : decode cX10_change 52 = .ok (.goto 9, 3) := by decide +kernel
theorem dX10_change_55 : decode cX10_change 55 = .ok (.aload_n 0, 1) := by decide +kernel
theorem dX10_change_56 : decode cX10_change 56 = .ok (.ldc 48, 2) := by decide +kernel
theorem dX10_change_58 : decode cX10_change 58 = .ok (.invokevirtual 49, 3) := by decide +kernel
theorem dX10_change_61 : decode cX10_change 61 = .ok (.ireturn, 1) := by decide +kernel
theorem dX10_become_0 : decode cX10_become 0 = .ok (.aload_n 0, 1) := by decide +kernel
theorem dX10_become_1 : decode cX10_become 1 = .ok (.iload_n 1, 1) := by decide +kernel
theorem dX10_become_2 : decode cX10_become 2 = .ok (.invokevirtual 62, 3) := by decide +kernel
theorem dX10_become_5 : decode cX10_become 5 = .ok (.ifCond .eq 13, 3) := by decide +kernel
theorem dX10_become_8 : decode cX10_become 8 = .ok (.iload_n 2, 1) := by decide +kernel
theorem dX10_become_9 : decode cX10_become 9 = .ok (.iconst 0, 1) := by decide +kernel
theorem dX10_become_10 : decode cX10_become 10 = .ok (.bipush 69, 2) := by decide +kernel
theorem dX10_become_12 : decode cX10_become 12 = .ok (.invokestatic 44, 3) := by decide +kernel
theorem dX10_become_15 : decode cX10_become 15 = .ok (.ifCond .ne 10, 3) := by decide +kernel
theorem dX10_become_18 : decode cX10_become 18 = .ok (.aload_n 0, 1) := by decide +kernel
theorem dX10_become_19 : decode cX10_become 19 = .ok (.ldc 48, 2) := by decide +kernel
theorem dX10_become_21 : decode cX10_become 21 = .ok (.invokevirtual 49, 3) := by decide +kernel
theorem dX10_become_24 : decode cX10_become 24 = .ok (.ireturn, 1) := by decide +kernel
theorem dX10_become_25 : decode cX10_become 25 = .ok (.aload_n 0, 1) := by decide +kernel
theorem dX10_become_26 : decode cX10_become 26 = .ok (.iload_n 1, 1) := by decide +kernel
theorem dX10_become_27 : decode cX10_become 27 = .ok (.iconst 1, 1) := by decide +kernel
theorem dX10_become_28 : decode cX10_become 28 = .ok (.iload_n 2, 1) := by decide +kernel
theorem dX10_become_29 : decode cX10_become 29 = .ok (.bipush 10, 2) := by decide +kernel
theorem dX10_become_31 : decode cX10_become 31 = .ok (.irem, 1) := by decide +kernel
theorem dX10_become_32 : decode cX10_become 32 = .ok (.invokevirtual 58, 3) := by decide +kernel
theorem dX10_become_35 : decode cX10_become 35 = .ok (.aload_n 0, 1) := by decide +kernel
theorem dX10_become_36 : decode cX10_become 36 = .ok (.bipush 13, 2) := by decide +kernel
theorem dX10_become_38 : decode cX10_become 38 = .ok (.iconst 5, 1) := by decide +kernel
theorem dX10_become_39 : decode cX10_become 39 = .ok (.iload_n 1, 1) := by decide +kernel
theorem dX10_become_40 : decode cX10_become 40 = .ok (.imul, 1) := by decide +kernel
theorem dX10_become_41 : decode cX10_become 41 = .ok (.iadd, 1) := by decide +kernel
theorem dX10_become_42 : decode cX10_become 42 = .ok (.iload_n 2, 1) := by decide +kernel
theorem dX10_become_43 : decode cX10_become 43 = .ok (.bipush 10, 2) := by decide +kernel
theorem dX10_become_45 : decode cX10_become 45 = .ok (.idiv, 1) := by decide +kernel
theorem dX10_become_46 : decode cX10_become 46 = .ok (.invokevirtual 53, 3) := by decide +kernel
theorem dX10_become_49 : decode cX10_become 49 = .ok (.ireturn, 1) := by decide +kernel
theorem dX10_above_0 : decode cX10_above 0 = .ok (.iload_n 0, 1) := by decide +kernel
theorem dX10_above_1 : decode cX10_above 1 = .ok (.ifCond .ne 7, 3) := by decide +kernel
theorem dX10_above_4 : decode cX10_above 4 = .ok (.iconst (-1), 1) := by decide +kernel
theorem dX10_above_5 : decode cX10_above 5 = .ok (.goto 15, 3) := by decide +kernel
theorem dX10_above_8 : decode cX10_above 8 = .ok (.iload_n 0, 1) := by decide +kernel
theorem dX10_above_9 : decode cX10_above 9 = .ok (.iconst 3, 1) := by decide +kernel
theorem dX10_above_10 : decode cX10_above 10 = .ok (.if_icmp .le 9, 3) := by decide +kernel
theorem dX10_above_13 : decode cX10_above 13 = .ok (.iload_n 0, 1) := by decide +kernel
theorem dX10_above_14 : decode cX10_above 14 = .ok (.iconst 3, 1) := by decide +kernel
theorem dX10_above_15 : decode cX10_above 15 = .ok (.isub, 1) := by decide +kernel
theorem dX10_above_16 : decode cX10_above 16 = .ok (.goto 4, 3) := by decide +kernel
theorem dX10_above_19 : decode cX10_above 19 = .ok (.iconst 0, 1) := by decide +kernel
theorem dX10_above_20 : decode cX10_above 20 = .ok (.ireturn, 1) := by decide +kernel
theorem dX10_as_0 : decode cX10_as 0 = .ok (.aload_n 0, 1) := by decide +kernel
theorem dX10_as_1 : decode cX10_as 1 = .ok (.iload_n 1, 1) := by decide +kernel
theorem dX10_as_2 : decode cX10_as 2 = .ok (.invokevirtual 62, 3) := by decide +kernel
theorem dX10_as_5 : decode cX10_as 5 = .ok (.ifCond .eq 13, 3) := by decide +kernel
theorem dX10_as_8 : decode cX10_as 8 = .ok (.iload_n 2, 1) := by decide +kernel
theorem dX10_as_9 : decode cX10_as 9 = .ok (.iconst 0, 1) := by decide +kernel
theorem dX10_as_10 : decode cX10_as 10 = .ok (.bipush 6, 2) := by decide +kernel
theorem dX10_as_12 : decode cX10_as 12 = .ok (.invokestatic 44, 3) := by decide +kernel
theorem dX10_as_15 : decode cX10_as 15 = .ok (.ifCond .ne 10, 3) := by decide +kernel
theorem dX10_as_18 : decode cX10_as 18 = .ok (.aload_n 0, 1) := by decide +kernel
theorem dX10_as_19 : decode cX10_as 19 = .ok (.ldc 48, 2) := by decide +kernel
theorem dX10_as_21 : decode cX10_as 21 = .ok (.invokevirtual 49, 3) := by decide +kernel
theorem dX10_as_24 : decode cX10_as 24 = .ok (.ireturn, 1) := by decide +kernel
theorem dX10_as_25 : decode cX10_as 25 = .ok (.aload_n 0, 1) := by decide +kernel
theorem dX10_as_26 : decode cX10_as 26 = .ok (.iload_n 1, 1) := by decide +kernel
theorem dX10_as_27 : decode cX10_as 27 = .ok (.iconst 0, 1) := by decide +kernel
theorem dX10_as_28 : decode cX10_as 28 = .ok (.invokevirtual 78, 3) := by decide +kernel
theorem dX10_as_31 : decode cX10_as 31 = .ok (.istore_n 3, 1) := by decide +kernel
theorem dX10_as_32 : decode cX10_as 32 = .ok (.iload_n 3, 1) := by decide +kernel
theorem dX10_as_33 : decode cX10_as 33 = .ok (.ifCond .lt 16, 3) := by decide +kernel
theorem dX10_as_36 : decode cX10_as 36 = .ok (.iload_n 3, 1) := by decide +kernel
theorem dX10_as_37 : decode cX10_as 37 = .ok (.iload_n 2, 1) := by decide +kernel
theorem dX10_as_38 : decode cX10_as 38 = .ok (.if_icmp .eq 11, 3) := by decide +kernel
theorem dX10_as_41 : decode cX10_as 41 = .ok (.iload_n 3, 1) := by decide +kernel
theorem dX10_as_42 : decode cX10_as 42 = .ok (.invokestatic 81, 3) := by decide +kernel
theorem dX10_as_45 : decode cX10_as 45 = .ok (.istore_n 3, 1) := by decide +kernel
theorem dX10_as_46 : decode cX10_as 46 = .ok (.goto (-14), 3) := by decide +kernel
theorem dX10_as_49 : decode cX10_as 49 = .ok (.iload_n 3, 1) := by decide +kernel
theorem dX10_as_50 : decode cX10_as 50 = .ok (.ifCond .ge 12, 3) := by decide +kernel
theorem dX10_as_53 : decode cX10_as 53 = .ok (.aload_n 0, 1) := by decide +kernel
theorem dX10_as_54 : decode cX10_as 54 = .ok (.ldc 84, 2) := by decide +kernel
theorem dX10_as_56 : decode cX10_as 56 = .ok (.invokevirtual 49, 3) := by decide +kernel
theorem dX10_as_59 : decode cX10_as 59 = .ok (.goto 9, 3) := by decide +kernel
theorem dX10_as_62 : decode cX10_as 62 = .ok (.aload_n 0, 1) := by decide +kernel
theorem dX10_as_63 : decode cX10_as 63 = .ok (.iload_n 1, 1) := by decide +kernel
theorem dX10_as_64 : decode cX10_as 64 = .ok (.iconst 1, 1) := by decide +kernel
theorem dX10_as_65 : decode cX10_as 65 = .ok (.invokevirtual 78, 3) := by decide +kernel
theorem dX10_as_68 : decode cX10_as 68 = .ok (.ireturn, 1) := by decide +kernel
theorem dX10_byteAt_0 : decode cX10_byteAt 0 = .ok (.iload_n 1, 1) := by decide +kernel
theorem dX10_byteAt_1 : decode cX10_byteAt 1 = .ok (.aload_n 0, 1) := by decide +kernel
theorem dX10_byteAt_2 : decode cX10_byteAt 2 = .ok (.getfield 85, 3) := by decide +kernel
theorem dX10_byteAt_5 : decode cX10_byteAt 5 = .ok (.if_icmp .ge 23, 3) := by decide +kernel
theorem dX10_byteAt_8 : decode cX10_byteAt 8 = .ok (.aload_n 0, 1) := by decide +kernel
theorem dX10_byteAt_9 : decode cX10_byteAt 9 = .ok (.getfield 7, 3) := by decide +kernel
theorem dX10_byteAt_12 : decode cX10_byteAt 12 = .ok (.bipush 113, 2) := by decide +kernel
theorem dX10_byteAt_14 : decode cX10_byteAt 14 = .ok (.bipush 50, 2) := by decide +kernel
theorem dX10_byteAt_16 : decode cX10_byteAt 16 = .ok (.aload_n 0, 1) := by decide +kernel
theorem dX10_byteAt_17 : decode cX10_byteAt 17 = .ok (.getfield 89, 3) := by decide +kernel
theorem dX10_byteAt_20 : decode cX10_byteAt 20 = .ok (.imul, 1) := by decide +kernel
theorem dX10_byteAt_21 : decode cX10_byteAt 21 = .ok (.iadd, 1) := by decide +kernel
theorem dX10_byteAt_22 : decode cX10_byteAt 22 = .ok (.iload_n 1, 1) := by decide +kernel
theorem dX10_byteAt_23 : decode cX10_byteAt 23 = .ok (.iadd, 1) := by decide +kernel
theorem dX10_byteAt_24 : decode cX10_byteAt 24 = .ok (.iaload, 1) := by decide +kernel
theorem dX10_byteAt_25 : decode cX10_byteAt 25 = .ok (.goto 4, 3) := by decide +kernel
theorem dX10_byteAt_28 : decode cX10_byteAt 28 = .ok (.iconst (-1), 1) := by decide +kernel
theorem dX10_byteAt_29 : decode cX10_byteAt 29 = .ok (.ireturn, 1) := by decide +kernel
theorem dX10_isDigit_0 : decode cX10_isDigit 0 = .ok (.iload_n 0, 1) := by decide +kernel
theorem dX10_isDigit_1 : decode cX10_isDigit 1 = .ok (.bipush 48, 2) := by decide +kernel
theorem dX10_isDigit_3 : decode cX10_isDigit 3 = .ok (.bipush 57, 2) := by decide +kernel
theorem dX10_isDigit_5 : decode cX10_isDigit 5 = .ok (.invokestatic 44, 3) := by decide +kernel
theorem dX10_isDigit_8 : decode cX10_isDigit 8 = .ok (.ireturn, 1) := by decide +kernel
theorem dX10_fails_0 : decode cX10_fails 0 = .ok (.aload_n 0, 1) := by decide +kernel
theorem dX10_fails_1 : decode cX10_fails 1 = .ok (.iconst 0, 1) := by decide +kernel
theorem dX10_fails_2 : decode cX10_fails 2 = .ok (.putfield 92, 3) := by decide +kernel
theorem dX10_fails_5 : decode cX10_fails 5 = .ok (.iconst 0, 1) := by decide +kernel
theorem dX10_fails_6 : decode cX10_fails 6 = .ok (.ireturn, 1) := by decide +kernel
theorem dX10_number_0 : decode cX10_number 0 = .ok (.iconst 0, 1) := by decide +kernel
theorem dX10_number_1 : decode cX10_number 1 = .ok (.istore_n 1, 1) := by decide +kernel
theorem dX10_number_2 : decode cX10_number 2 = .ok (.iconst 0, 1) := by decide +kernel
theorem dX10_number_3 : decode cX10_number 3 = .ok (.istore_n 2, 1) := by decide +kernel
theorem dX10_number_4 : decode cX10_number 4 = .ok (.iload_n 2, 1) := by decide +kernel
theorem dX10_number_5 : decode cX10_number 5 = .ok (.iconst 4, 1) := by decide +kernel
theorem dX10_number_6 : decode cX10_number 6 = .ok (.if_icmp .ge 50, 3) := by decide +kernel
theorem dX10_number_9 : decode cX10_number 9 = .ok (.aload_n 0, 1) := by decide +kernel
theorem dX10_number_10 : decode cX10_number 10 = .ok (.aload_n 0, 1) := by decide +kernel
theorem dX10_number_11 : decode cX10_number 11 = .ok (.getfield 96, 3) := by decide +kernel
theorem dX10_number_14 : decode cX10_number 14 = .ok (.invokevirtual 99, 3) := by decide +kernel
theorem dX10_number_17 : decode cX10_number 17 = .ok (.invokestatic 102, 3) := by decide +kernel
theorem dX10_number_20 : decode cX10_number 20 = .ok (.ifCond .eq 36, 3) := by decide +kernel
theorem dX10_number_23 : decode cX10_number 23 = .ok (.bipush 10, 2) := by decide +kernel
theorem dX10_number_25 : decode cX10_number 25 = .ok (.iload_n 1, 1) := by decide +kernel
theorem dX10_number_26 : decode cX10_number 26 = .ok (.imul, 1) := by decide +kernel
theorem dX10_number_27 : decode cX10_number 27 = .ok (.aload_n 0, 1) := by decide +kernel
theorem dX10_number_28 : decode cX10_number 28 = .ok (.aload_n 0, 1) := by decide +kernel
theorem dX10_number_29 : decode cX10_number 29 = .ok (.getfield 96, 3) := by decide +kernel
theorem dX10_number_32 : decode cX10_number 32 = .ok (.invokevirtual 99, 3) := by decide +kernel
theorem dX10_number_35 : decode cX10_number 35 = .ok (.iadd, 1) := by decide +kernel
theorem dX10_number_36 : decode cX10_number 36 = .ok (.bipush 48, 2) := by decide +kernel
theorem dX10_number_38 : decode cX10_number 38 = .ok (.isub, 1) := by decide +kernel
theorem dX10_number_39 : decode cX10_number 39 = .ok (.istore_n 1, 1) := by decide +kernel
theorem dX10_number_40 : decode cX10_number 40 = .ok (.aload_n 0, 1) := by decide +kernel
theorem dX10_number_41 : decode cX10_number 41 = .ok (.dup, 1) := by decide +kernel
theorem dX10_number_42 : decode cX10_number 42 = .ok (.getfield 96, 3) := by decide +kernel
theorem dX10_number_45 : decode cX10_number 45 = .ok (.iconst 1, 1) := by decide +kernel
theorem dX10_number_46 : decode cX10_number 46 = .ok (.iadd, 1) := by decide +kernel
theorem dX10_number_47 : decode cX10_number 47 = .ok (.putfield 96, 3) := by decide +kernel
theorem dX10_number_50 : decode cX10_number 50 = .ok (.iinc 2 1, 3) := by decide +kernel
theorem dX10_number_53 : decode cX10_number 53 = .ok (.goto (-49), 3) := by decide +kernel
theorem dX10_number_56 : decode cX10_number 56 = .ok (.iload_n 1, 1) := by decide +kernel
theorem dX10_number_57 : decode cX10_number 57 = .ok (.ireturn, 1) := by decide +kernel
theorem dX10_named_0 : decode cX10_named 0 = .ok (.iload_n 1, 1) := by decide +kernel
theorem dX10_named_1 : decode cX10_named 1 = .ok (.bipush 116, 2) := by decide +kernel
theorem dX10_named_3 : decode cX10_named 3 = .ok (.if_icmp .ne 7, 3) := by decide +kernel
theorem dX10_named_6 : decode cX10_named 6 = .ok (.iconst 1, 1) := by decide +kernel
theorem dX10_named_7 : decode cX10_named 7 = .ok (.goto 4, 3) := by decide +kernel
theorem dX10_named_10 : decode cX10_named 10 = .ok (.iconst 0, 1) := by decide +kernel
theorem dX10_named_11 : decode cX10_named 11 = .ok (.istore_n 2, 1) := by decide +kernel
theorem dX10_named_12 : decode cX10_named 12 = .ok (.iload_n 1, 1) := by decide +kernel
theorem dX10_named_13 : decode cX10_named 13 = .ok (.bipush 109, 2) := by decide +kernel
theorem dX10_named_15 : decode cX10_named 15 = .ok (.if_icmp .ne 7, 3) := by decide +kernel
theorem dX10_named_18 : decode cX10_named 18 = .ok (.iconst 1, 1) := by decide +kernel
theorem dX10_named_19 : decode cX10_named 19 = .ok (.goto 4, 3) := by decide +kernel
theorem dX10_named_22 : decode cX10_named 22 = .ok (.iconst 0, 1) := by decide +kernel
theorem dX10_named_23 : decode cX10_named 23 = .ok (.istore_n 3, 1) := by decide +kernel
theorem dX10_named_24 : decode cX10_named 24 = .ok (.iload_n 1, 1) := by decide +kernel
theorem dX10_named_25 : decode cX10_named 25 = .ok (.aload_n 0, 1) := by decide +kernel
theorem dX10_named_26 : decode cX10_named 26 = .ok (.getfield 89, 3) := by decide +kernel
theorem dX10_named_29 : decode cX10_named 29 = .ok (.ifCond .ne 8, 3) := by decide +kernel
theorem dX10_named_32 : decode cX10_named 32 = .ok (.bipush 107, 2) := by decide +kernel
theorem dX10_named_34 : decode cX10_named 34 = .ok (.goto 5, 3) := by decide +kernel
theorem dX10_named_37 : decode cX10_named 37 = .ok (.bipush 108, 2) := by decide +kernel
theorem dX10_named_39 : decode cX10_named 39 = .ok (.if_icmp .ne 7, 3) := by decide +kernel
theorem dX10_named_42 : decode cX10_named 42 = .ok (.iconst 1, 1) := by decide +kernel
theorem dX10_named_43 : decode cX10_named 43 = .ok (.goto 4, 3) := by decide +kernel
theorem dX10_named_46 : decode cX10_named 46 = .ok (.iconst 0, 1) := by decide +kernel
theorem dX10_named_47 : decode cX10_named 47 = .ok (.istore 4, 2) := by decide +kernel
theorem dX10_named_49 : decode cX10_named 49 = .ok (.iload_n 2, 1) := by decide +kernel
theorem dX10_named_50 : decode cX10_named 50 = .ok (.ifCond .ne 17, 3) := by decide +kernel
theorem dX10_named_53 : decode cX10_named 53 = .ok (.iload_n 3, 1) := by decide +kernel
theorem dX10_named_54 : decode cX10_named 54 = .ok (.ifCond .ne 13, 3) := by decide +kernel
theorem dX10_named_57 : decode cX10_named 57 = .ok (.iload 4, 2) := by decide +kernel
theorem dX10_named_59 : decode cX10_named 59 = .ok (.ifCond .ne 8, 3) := by decide +kernel
theorem dX10_named_62 : decode cX10_named 62 = .ok (.aload_n 0, 1) := by decide +kernel
theorem dX10_named_63 : decode cX10_named 63 = .ok (.invokevirtual 105, 3) := by decide +kernel
theorem dX10_named_66 : decode cX10_named 66 = .ok (.ireturn, 1) := by decide +kernel
theorem dX10_named_67 : decode cX10_named 67 = .ok (.aload_n 0, 1) := by decide +kernel
theorem dX10_named_68 : decode cX10_named 68 = .ok (.dup, 1) := by decide +kernel
theorem dX10_named_69 : decode cX10_named 69 = .ok (.getfield 96, 3) := by decide +kernel
theorem dX10_named_72 : decode cX10_named 72 = .ok (.iconst 1, 1) := by decide +kernel
theorem dX10_named_73 : decode cX10_named 73 = .ok (.iadd, 1) := by decide +kernel
theorem dX10_named_74 : decode cX10_named 74 = .ok (.putfield 96, 3) := by decide +kernel
theorem dX10_named_77 : decode cX10_named 77 = .ok (.iload_n 2, 1) := by decide +kernel
theorem dX10_named_78 : decode cX10_named 78 = .ok (.ifCond .eq 10, 3) := by decide +kernel
theorem dX10_named_81 : decode cX10_named 81 = .ok (.aload_n 0, 1) := by decide +kernel
theorem dX10_named_82 : decode cX10_named 82 = .ok (.getfield 109, 3) := by decide +kernel
theorem dX10_named_85 : decode cX10_named 85 = .ok (.goto 18, 3) := by decide +kernel
theorem dX10_named_88 : decode cX10_named 88 = .ok (.iload_n 3, 1) := by decide +kernel
theorem dX10_named_89 : decode cX10_named 89 = .ok (.ifCond .eq 10, 3) := by decide +kernel
theorem dX10_named_92 : decode cX10_named 92 = .ok (.aload_n 0, 1) := by decide +kernel
theorem dX10_named_93 : decode cX10_named 93 = .ok (.getfield 112, 3) := by decide +kernel
theorem dX10_named_96 : decode cX10_named 96 = .ok (.goto 7, 3) := by decide +kernel
theorem dX10_named_99 : decode cX10_named 99 = .ok (.aload_n 0, 1) := by decide +kernel
theorem dX10_named_100 : decode cX10_named 100 = .ok (.getfield 115, 3) := by decide +kernel
theorem dX10_named_103 : decode cX10_named 103 = .ok (.ireturn, 1) := by decide +kernel
theorem dX10_factor_0 : decode cX10_factor 0 = .ok (.aload_n 0, 1) := by decide +kernel
theorem dX10_factor_1 : decode cX10_factor 1 = .ok (.aload_n 0, 1) := by decide +kernel
theorem dX10_factor_2 : decode cX10_factor 2 = .ok (.getfield 96, 3) := by decide +kernel
theorem dX10_factor_5 : decode cX10_factor 5 = .ok (.invokevirtual 99, 3) := by decide +kernel
theorem dX10_factor_8 : decode cX10_factor 8 = .ok (.istore_n 1, 1) := by decide +kernel
theorem dX10_factor_9 : decode cX10_factor 9 = .ok (.iload_n 1, 1) := by decide +kernel
theorem dX10_factor_10 : decode cX10_factor 10 = .ok (.invokestatic 102, 3) := by decide +kernel
theorem dX10_factor_13 : decode cX10_factor 13 = .ok (.ifCond .eq 8, 3) := by decide +kernel
theorem dX10_factor_16 : decode cX10_factor 16 = .ok (.aload_n 0, 1) := by decide +kernel
theorem dX10_factor_17 : decode cX10_factor 17 = .ok (.invokevirtual 118, 3) := by decide +kernel
theorem dX10_factor_20 : decode cX10_factor 20 = .ok (.ireturn, 1) := by decide +kernel
theorem dX10_factor_21 : decode cX10_factor 21 = .ok (.iload_n 1, 1) := by decide +kernel
theorem dX10_factor_22 : decode cX10_factor 22 = .ok (.bipush 33, 2) := by decide +kernel
theorem dX10_factor_24 : decode cX10_factor 24 = .ok (.if_icmp .eq 15, 3) := by decide +kernel
theorem dX10_factor_27 : decode cX10_factor 27 = .ok (.iload_n 1, 1) := by decide +kernel
theorem dX10_factor_28 : decode cX10_factor 28 = .ok (.bipush 40, 2) := by decide +kernel
theorem dX10_factor_30 : decode cX10_factor 30 = .ok (.if_icmp .eq 9, 3) := by decide +kernel
theorem dX10_factor_33 : decode cX10_factor 33 = .ok (.aload_n 0, 1) := by decide +kernel
theorem dX10_factor_34 : decode cX10_factor 34 = .ok (.iload_n 1, 1) := by decide +kernel
theorem dX10_factor_35 : decode cX10_factor 35 = .ok (.invokevirtual 121, 3) := by decide +kernel
theorem dX10_factor_38 : decode cX10_factor 38 = .ok (.ireturn, 1) := by decide +kernel
theorem dX10_factor_39 : decode cX10_factor 39 = .ok (.aload_n 0, 1) := by decide +kernel
theorem dX10_factor_40 : decode cX10_factor 40 = .ok (.getfield 124, 3) := by decide +kernel
theorem dX10_factor_43 : decode cX10_factor 43 = .ok (.iconst 5, 1) := by decide +kernel
theorem dX10_factor_44 : decode cX10_factor 44 = .ok (.if_icmp .ne 8, 3) := by decide +kernel
theorem dX10_factor_47 : decode cX10_factor 47 = .ok (.aload_n 0, 1) := by decide +kernel
theorem dX10_factor_48 : decode cX10_factor 48 = .ok (.invokevirtual 105, 3) := by decide +kernel
theorem dX10_factor_51 : decode cX10_factor 51 = .ok (.ireturn, 1) := by decide +kernel
theorem dX10_factor_52 : decode cX10_factor 52 = .ok (.aload_n 0, 1) := by decide +kernel
theorem dX10_factor_53 : decode cX10_factor 53 = .ok (.dup, 1) := by decide +kernel
theorem dX10_factor_54 : decode cX10_factor 54 = .ok (.getfield 124, 3) := by decide +kernel
theorem dX10_factor_57 : decode cX10_factor 57 = .ok (.iconst 1, 1) := by decide +kernel
theorem dX10_factor_58 : decode cX10_factor 58 = .ok (.iadd, 1) := by decide +kernel
theorem dX10_factor_59 : decode cX10_factor 59 = .ok (.putfield 124, 3) := by decide +kernel
theorem dX10_factor_62 : decode cX10_factor 62 = .ok (.aload_n 0, 1) := by decide +kernel
theorem dX10_factor_63 : decode cX10_factor 63 = .ok (.dup, 1) := by decide +kernel
theorem dX10_factor_64 : decode cX10_factor 64 = .ok (.getfield 96, 3) := by decide +kernel
theorem dX10_factor_67 : decode cX10_factor 67 = .ok (.iconst 1, 1) := by decide +kernel
theorem dX10_factor_68 : decode cX10_factor 68 = .ok (.iadd, 1) := by decide +kernel
theorem dX10_factor_69 : decode cX10_factor 69 = .ok (.putfield 96, 3) := by decide +kernel
theorem dX10_factor_72 : decode cX10_factor 72 = .ok (.iload_n 1, 1) := by decide +kernel
theorem dX10_factor_73 : decode cX10_factor 73 = .ok (.bipush 33, 2) := by decide +kernel
theorem dX10_factor_75 : decode cX10_factor 75 = .ok (.if_icmp .ne 10, 3) := by decide +kernel
theorem dX10_factor_78 : decode cX10_factor 78 = .ok (.aload_n 0, 1) := by decide +kernel
theorem dX10_factor_79 : decode cX10_factor 79 = .ok (.invokevirtual 127, 3) := by decide +kernel
theorem dX10_factor_82 : decode cX10_factor 82 = .ok (.goto 7, 3) := by decide +kernel
theorem dX10_factor_85 : decode cX10_factor 85 = .ok (.aload_n 0, 1) := by decide +kernel
theorem dX10_factor_86 : decode cX10_factor 86 = .ok (.invokevirtual 130, 3) := by decide +kernel
theorem dX10_factor_89 : decode cX10_factor 89 = .ok (.istore_n 2, 1) := by decide +kernel
theorem dX10_factor_90 : decode cX10_factor 90 = .ok (.aload_n 0, 1) := by decide +kernel
theorem dX10_factor_91 : decode cX10_factor 91 = .ok (.dup, 1) := by decide +kernel
theorem dX10_factor_92 : decode cX10_factor 92 = .ok (.getfield 124, 3) := by decide +kernel
theorem dX10_factor_95 : decode cX10_factor 95 = .ok (.iconst 1, 1) := by decide +kernel
theorem dX10_factor_96 : decode cX10_factor 96 = .ok (.isub, 1) := by decide +kernel
theorem dX10_factor_97 : decode cX10_factor 97 = .ok (.putfield 124, 3) := by decide +kernel
theorem dX10_factor_100 : decode cX10_factor 100 = .ok (.iload_n 1, 1) := by decide +kernel
theorem dX10_factor_101 : decode cX10_factor 101 = .ok (.bipush 33, 2) := by decide +kernel
theorem dX10_factor_103 : decode cX10_factor 103 = .ok (.if_icmp .ne 13, 3) := by decide +kernel
theorem dX10_factor_106 : decode cX10_factor 106 = .ok (.iload_n 2, 1) := by decide +kernel
theorem dX10_factor_107 : decode cX10_factor 107 = .ok (.ifCond .ne 7, 3) := by decide +kernel
theorem dX10_factor_110 : decode cX10_factor 110 = .ok (.iconst 1, 1) := by decide +kernel
theorem dX10_factor_111 : decode cX10_factor 111 = .ok (.goto 4, 3) := by decide +kernel
theorem dX10_factor_114 : decode cX10_factor 114 = .ok (.iconst 0, 1) := by decide +kernel
theorem dX10_factor_115 : decode cX10_factor 115 = .ok (.ireturn, 1) := by decide +kernel
theorem dX10_factor_116 : decode cX10_factor 116 = .ok (.aload_n 0, 1) := by decide +kernel
theorem dX10_factor_117 : decode cX10_factor 117 = .ok (.getfield 92, 3) := by decide +kernel
theorem dX10_factor_120 : decode cX10_factor 120 = .ok (.ifCond .eq 28, 3) := by decide +kernel
theorem dX10_factor_123 : decode cX10_factor 123 = .ok (.aload_n 0, 1) := by decide +kernel
theorem dX10_factor_124 : decode cX10_factor 124 = .ok (.aload_n 0, 1) := by decide +kernel
theorem dX10_factor_125 : decode cX10_factor 125 = .ok (.getfield 96, 3) := by decide +kernel
theorem dX10_factor_128 : decode cX10_factor 128 = .ok (.invokevirtual 99, 3) := by decide +kernel
theorem dX10_factor_131 : decode cX10_factor 131 = .ok (.bipush 41, 2) := by decide +kernel
theorem dX10_factor_133 : decode cX10_factor 133 = .ok (.if_icmp .ne 15, 3) := by decide +kernel
theorem dX10_factor_136 : decode cX10_factor 136 = .ok (.aload_n 0, 1) := by decide +kernel
theorem dX10_factor_137 : decode cX10_factor 137 = .ok (.dup, 1) := by decide +kernel
theorem dX10_factor_138 : decode cX10_factor 138 = .ok (.getfield 96, 3) := by decide +kernel
theorem dX10_factor_141 : decode cX10_factor 141 = .ok (.iconst 1, 1) := by decide +kernel
theorem dX10_factor_142 : decode cX10_factor 142 = .ok (.iadd, 1) := by decide +kernel
theorem dX10_factor_143 : decode cX10_factor 143 = .ok (.putfield 96, 3) := by decide +kernel
theorem dX10_factor_146 : decode cX10_factor 146 = .ok (.iload_n 2, 1) := by decide +kernel
theorem dX10_factor_147 : decode cX10_factor 147 = .ok (.ireturn, 1) := by decide +kernel
theorem dX10_factor_148 : decode cX10_factor 148 = .ok (.aload_n 0, 1) := by decide +kernel
theorem dX10_factor_149 : decode cX10_factor 149 = .ok (.invokevirtual 105, 3) := by decide +kernel
theorem dX10_factor_152 : decode cX10_factor 152 = .ok (.ireturn, 1) := by decide +kernel
theorem dX10_product_0 : decode cX10_product 0 = .ok (.aload_n 0, 1) := by decide +kernel
theorem dX10_product_1 : decode cX10_product 1 = .ok (.invokevirtual 127, 3) := by decide +kernel
theorem dX10_product_4 : decode cX10_product 4 = .ok (.istore_n 1, 1) := by decide +kernel
theorem dX10_product_5 : decode cX10_product 5 = .ok (.aload_n 0, 1) := by decide +kernel
theorem dX10_product_6 : decode cX10_product 6 = .ok (.getfield 92, 3) := by decide +kernel
theorem dX10_product_9 : decode cX10_product 9 = .ok (.ifCond .eq 105, 3) := by decide +kernel
theorem dX10_product_12 : decode cX10_product 12 = .ok (.aload_n 0, 1) := by decide +kernel
theorem dX10_product_13 : decode cX10_product 13 = .ok (.aload_n 0, 1) := by decide +kernel
theorem dX10_product_14 : decode cX10_product 14 = .ok (.getfield 96, 3) := by decide +kernel
theorem dX10_product_17 : decode cX10_product 17 = .ok (.invokevirtual 99, 3) := by decide +kernel
theorem dX10_product_20 : decode cX10_product 20 = .ok (.bipush 42, 2) := by decide +kernel
theorem dX10_product_22 : decode cX10_product 22 = .ok (.if_icmp .eq 29, 3) := by decide +kernel
theorem dX10_product_25 : decode cX10_product 25 = .ok (.aload_n 0, 1) := by decide +kernel
theorem dX10_product_26 : decode cX10_product 26 = .ok (.aload_n 0, 1) := by decide +kernel
theorem dX10_product_27 : decode cX10_product 27 = .ok (.getfield 96, 3) := by decide +kernel
theorem dX10_product_30 : decode cX10_product 30 = .ok (.invokevirtual 99, 3) := by decide +kernel
theorem dX10_product_33 : decode cX10_product 33 = .ok (.bipush 47, 2) := by decide +kernel
theorem dX10_product_35 : decode cX10_product 35 = .ok (.if_icmp .eq 16, 3) := by decide +kernel
theorem dX10_product_38 : decode cX10_product 38 = .ok (.aload_n 0, 1) := by decide +kernel
theorem dX10_product_39 : decode cX10_product 39 = .ok (.aload_n 0, 1) := by decide +kernel
theorem dX10_product_40 : decode cX10_product 40 = .ok (.getfield 96, 3) := by decide +kernel
theorem dX10_product_43 : decode cX10_product 43 = .ok (.invokevirtual 99, 3) := by decide +kernel
theorem dX10_product_46 : decode cX10_product 46 = .ok (.bipush 37, 2) := by decide +kernel
theorem dX10_product_48 : decode cX10_product 48 = .ok (.if_icmp .ne 66, 3) := by decide +kernel
theorem dX10_product_51 : decode cX10_product 51 = .ok (.aload_n 0, 1) := by decide +kernel
theorem dX10_product_52 : decode cX10_product 52 = .ok (.aload_n 0, 1) := by decide +kernel
theorem dX10_product_53 : decode cX10_product 53 = .ok (.getfield 96, 3) := by decide +kernel
theorem dX10_product_56 : decode cX10_product 56 = .ok (.invokevirtual 99, 3) := by decide +kernel
theorem dX10_product_59 : decode cX10_product 59 = .ok (.istore_n 2, 1) := by decide +kernel
theorem dX10_product_60 : decode cX10_product 60 = .ok (.aload_n 0, 1) := by decide +kernel
theorem dX10_product_61 : decode cX10_product 61 = .ok (.dup, 1) := by decide +kernel
theorem dX10_product_62 : decode cX10_product 62 = .ok (.getfield 96, 3) := by decide +kernel
theorem dX10_product_65 : decode cX10_product 65 = .ok (.iconst 1, 1) := by decide +kernel
theorem dX10_product_66 : decode cX10_product 66 = .ok (.iadd, 1) := by decide +kernel
theorem dX10_product_67 : decode cX10_product 67 = .ok (.putfield 96, 3) := by decide +kernel
theorem dX10_product_70 : decode cX10_product 70 = .ok (.aload_n 0, 1) := by decide +kernel
theorem dX10_product_71 : decode cX10_product 71 = .ok (.invokevirtual 127, 3) := by decide +kernel
theorem dX10_product_74 : decode cX10_product 74 = .ok (.istore_n 3, 1) := by decide +kernel
theorem dX10_product_75 : decode cX10_product 75 = .ok (.iload_n 2, 1) := by decide +kernel
theorem dX10_product_76 : decode cX10_product 76 = .ok (.bipush 42, 2) := by decide +kernel
theorem dX10_product_78 : decode cX10_product 78 = .ok (.if_icmp .ne 9, 3) := by decide +kernel
theorem dX10_product_81 : decode cX10_product 81 = .ok (.iload_n 1, 1) := by decide +kernel
theorem dX10_product_82 : decode cX10_product 82 = .ok (.iload_n 3, 1) := by decide +kernel
theorem dX10_product_83 : decode cX10_product 83 = .ok (.imul, 1) := by decide +kernel
theorem dX10_product_84 : decode cX10_product 84 = .ok (.goto 26, 3) := by decide +kernel
theorem dX10_product_87 : decode cX10_product 87 = .ok (.iload_n 3, 1) := by decide +kernel
theorem dX10_product_88 : decode cX10_product 88 = .ok (.ifCond .ne 7, 3) := by decide +kernel
theorem dX10_product_91 : decode cX10_product 91 = .ok (.iconst 0, 1) := by decide +kernel
theorem dX10_product_92 : decode cX10_product 92 = .ok (.goto 18, 3) := by decide +kernel
theorem dX10_product_95 : decode cX10_product 95 = .ok (.iload_n 2, 1) := by decide +kernel
theorem dX10_product_96 : decode cX10_product 96 = .ok (.bipush 47, 2) := by decide +kernel
theorem dX10_product_98 : decode cX10_product 98 = .ok (.if_icmp .ne 9, 3) := by decide +kernel
theorem dX10_product_101 : decode cX10_product 101 = .ok (.iload_n 1, 1) := by decide +kernel
theorem dX10_product_102 : decode cX10_product 102 = .ok (.iload_n 3, 1) := by decide +kernel
theorem dX10_product_103 : decode cX10_product 103 = .ok (.idiv, 1) := by decide +kernel
theorem dX10_product_104 : decode cX10_product 104 = .ok (.goto 6, 3) := by decide +kernel
theorem dX10_product_107 : decode cX10_product 107 = .ok (.iload_n 1, 1) := by decide +kernel
theorem dX10_product_108 : decode cX10_product 108 = .ok (.iload_n 3, 1) := by decide +kernel
theorem dX10_product_109 : decode cX10_product 109 = .ok (.irem, 1) := by decide +kernel
theorem dX10_product_110 : decode cX10_product 110 = .ok (.istore_n 1, 1) := by decide +kernel
theorem dX10_product_111 : decode cX10_product 111 = .ok (.goto (-106), 3) := by decide +kernel
theorem dX10_product_114 : decode cX10_product 114 = .ok (.iload_n 1, 1) := by decide +kernel
theorem dX10_product_115 : decode cX10_product 115 = .ok (.ireturn, 1) := by decide +kernel
theorem dX10_sum_0 : decode cX10_sum 0 = .ok (.aload_n 0, 1) := by decide +kernel
theorem dX10_sum_1 : decode cX10_sum 1 = .ok (.invokevirtual 133, 3) := by decide +kernel
theorem dX10_sum_4 : decode cX10_sum 4 = .ok (.istore_n 1, 1) := by decide +kernel
theorem dX10_sum_5 : decode cX10_sum 5 = .ok (.aload_n 0, 1) := by decide +kernel
theorem dX10_sum_6 : decode cX10_sum 6 = .ok (.getfield 92, 3) := by decide +kernel
theorem dX10_sum_9 : decode cX10_sum 9 = .ok (.ifCond .eq 72, 3) := by decide +kernel
theorem dX10_sum_12 : decode cX10_sum 12 = .ok (.aload_n 0, 1) := by decide +kernel
theorem dX10_sum_13 : decode cX10_sum 13 = .ok (.aload_n 0, 1) := by decide +kernel
theorem dX10_sum_14 : decode cX10_sum 14 = .ok (.getfield 96, 3) := by decide +kernel
theorem dX10_sum_17 : decode cX10_sum 17 = .ok (.invokevirtual 99, 3) := by decide +kernel
theorem dX10_sum_20 : decode cX10_sum 20 = .ok (.bipush 43, 2) := by decide +kernel
theorem dX10_sum_22 : decode cX10_sum 22 = .ok (.if_icmp .eq 16, 3) := by decide +kernel
theorem dX10_sum_25 : decode cX10_sum 25 = .ok (.aload_n 0, 1) := by decide +kernel
theorem dX10_sum_26 : decode cX10_sum 26 = .ok (.aload_n 0, 1) := by decide +kernel
theorem dX10_sum_27 : decode cX10_sum 27 = .ok (.getfield 96, 3) := by decide +kernel
theorem dX10_sum_30 : decode cX10_sum 30 = .ok (.invokevirtual 99, 3) := by decide +kernel
theorem dX10_sum_33 : decode cX10_sum 33 = .ok (.bipush 45, 2) := by decide +kernel
theorem dX10_sum_35 : decode cX10_sum 35 = .ok (.if_icmp .ne 46, 3) := by decide +kernel
theorem dX10_sum_38 : decode cX10_sum 38 = .ok (.aload_n 0, 1) := by decide +kernel
theorem dX10_sum_39 : decode cX10_sum 39 = .ok (.aload_n 0, 1) := by decide +kernel
theorem dX10_sum_40 : decode cX10_sum 40 = .ok (.getfield 96, 3) := by decide +kernel
theorem dX10_sum_43 : decode cX10_sum 43 = .ok (.invokevirtual 99, 3) := by decide +kernel
theorem dX10_sum_46 : decode cX10_sum 46 = .ok (.istore_n 2, 1) := by decide +kernel
theorem dX10_sum_47 : decode cX10_sum 47 = .ok (.aload_n 0, 1) := by decide +kernel
theorem dX10_sum_48 : decode cX10_sum 48 = .ok (.dup, 1) := by decide +kernel
theorem dX10_sum_49 : decode cX10_sum 49 = .ok (.getfield 96, 3) := by decide +kernel
theorem dX10_sum_52 : decode cX10_sum 52 = .ok (.iconst 1, 1) := by decide +kernel
theorem dX10_sum_53 : decode cX10_sum 53 = .ok (.iadd, 1) := by decide +kernel
theorem dX10_sum_54 : decode cX10_sum 54 = .ok (.putfield 96, 3) := by decide +kernel
theorem dX10_sum_57 : decode cX10_sum 57 = .ok (.aload_n 0, 1) := by decide +kernel
theorem dX10_sum_58 : decode cX10_sum 58 = .ok (.invokevirtual 133, 3) := by decide +kernel
theorem dX10_sum_61 : decode cX10_sum 61 = .ok (.istore_n 3, 1) := by decide +kernel
theorem dX10_sum_62 : decode cX10_sum 62 = .ok (.iload_n 2, 1) := by decide +kernel
theorem dX10_sum_63 : decode cX10_sum 63 = .ok (.bipush 43, 2) := by decide +kernel
theorem dX10_sum_65 : decode cX10_sum 65 = .ok (.if_icmp .ne 9, 3) := by decide +kernel
theorem dX10_sum_68 : decode cX10_sum 68 = .ok (.iload_n 1, 1) := by decide +kernel
theorem dX10_sum_69 : decode cX10_sum 69 = .ok (.iload_n 3, 1) := by decide +kernel
theorem dX10_sum_70 : decode cX10_sum 70 = .ok (.iadd, 1) := by decide +kernel
theorem dX10_sum_71 : decode cX10_sum 71 = .ok (.goto 6, 3) := by decide +kernel
theorem dX10_sum_74 : decode cX10_sum 74 = .ok (.iload_n 1, 1) := by decide +kernel
theorem dX10_sum_75 : decode cX10_sum 75 = .ok (.iload_n 3, 1) := by decide +kernel
theorem dX10_sum_76 : decode cX10_sum 76 = .ok (.isub, 1) := by decide +kernel
theorem dX10_sum_77 : decode cX10_sum 77 = .ok (.istore_n 1, 1) := by decide +kernel
theorem dX10_sum_78 : decode cX10_sum 78 = .ok (.goto (-73), 3) := by decide +kernel
theorem dX10_sum_81 : decode cX10_sum 81 = .ok (.iload_n 1, 1) := by decide +kernel
theorem dX10_sum_82 : decode cX10_sum 82 = .ok (.ireturn, 1) := by decide +kernel
theorem dX10_compared_0 : decode cX10_compared 0 = .ok (.aload_n 0, 1) := by decide +kernel
theorem dX10_compared_1 : decode cX10_compared 1 = .ok (.invokevirtual 136, 3) := by decide +kernel
theorem dX10_compared_4 : decode cX10_compared 4 = .ok (.istore_n 1, 1) := by decide +kernel
theorem dX10_compared_5 : decode cX10_compared 5 = .ok (.aload_n 0, 1) := by decide +kernel
theorem dX10_compared_6 : decode cX10_compared 6 = .ok (.getfield 92, 3) := by decide +kernel
theorem dX10_compared_9 : decode cX10_compared 9 = .ok (.ifCond .eq 14, 3) := by decide +kernel
theorem dX10_compared_12 : decode cX10_compared 12 = .ok (.aload_n 0, 1) := by decide +kernel
theorem dX10_compared_13 : decode cX10_compared 13 = .ok (.aload_n 0, 1) := by decide +kernel
theorem dX10_compared_14 : decode cX10_compared 14 = .ok (.getfield 96, 3) := by decide +kernel
theorem dX10_compared_17 : decode cX10_compared 17 = .ok (.invokevirtual 99, 3) := by decide +kernel
theorem dX10_compared_20 : decode cX10_compared 20 = .ok (.goto 4, 3) := by decide +kernel
theorem dX10_compared_23 : decode cX10_compared 23 = .ok (.iconst (-1), 1) := by decide +kernel
theorem dX10_compared_24 : decode cX10_compared 24 = .ok (.istore_n 2, 1) := by decide +kernel
theorem dX10_compared_25 : decode cX10_compared 25 = .ok (.iload_n 2, 1) := by decide +kernel
theorem dX10_compared_26 : decode cX10_compared 26 = .ok (.bipush 60, 2) := by decide +kernel
theorem dX10_compared_28 : decode cX10_compared 28 = .ok (.if_icmp .eq 17, 3) := by decide +kernel
theorem dX10_compared_31 : decode cX10_compared 31 = .ok (.iload_n 2, 1) := by decide +kernel
theorem dX10_compared_32 : decode cX10_compared 32 = .ok (.bipush 61, 2) := by decide +kernel
theorem dX10_compared_34 : decode cX10_compared 34 = .ok (.if_icmp .eq 11, 3) := by decide +kernel
theorem dX10_compared_37 : decode cX10_compared 37 = .ok (.iload_n 2, 1) := by decide +kernel
theorem dX10_compared_38 : decode cX10_compared 38 = .ok (.bipush 62, 2) := by decide +kernel
theorem dX10_compared_40 : decode cX10_compared 40 = .ok (.if_icmp .eq 5, 3) := by decide +kernel
theorem dX10_compared_43 : decode cX10_compared 43 = .ok (.iload_n 1, 1) := by decide +kernel
theorem dX10_compared_44 : decode cX10_compared 44 = .ok (.ireturn, 1) := by decide +kernel
theorem dX10_compared_45 : decode cX10_compared 45 = .ok (.aload_n 0, 1) := by decide +kernel
theorem dX10_compared_46 : decode cX10_compared 46 = .ok (.dup, 1) := by decide +kernel
theorem dX10_compared_47 : decode cX10_compared 47 = .ok (.getfield 96, 3) := by decide +kernel
theorem dX10_compared_50 : decode cX10_compared 50 = .ok (.iconst 1, 1) := by decide +kernel
theorem dX10_compared_51 : decode cX10_compared 51 = .ok (.iadd, 1) := by decide +kernel
theorem dX10_compared_52 : decode cX10_compared 52 = .ok (.putfield 96, 3) := by decide +kernel
theorem dX10_compared_55 : decode cX10_compared 55 = .ok (.aload_n 0, 1) := by decide +kernel
theorem dX10_compared_56 : decode cX10_compared 56 = .ok (.invokevirtual 136, 3) := by decide +kernel
theorem dX10_compared_59 : decode cX10_compared 59 = .ok (.istore_n 3, 1) := by decide +kernel
theorem dX10_compared_60 : decode cX10_compared 60 = .ok (.iload_n 2, 1) := by decide +kernel
theorem dX10_compared_61 : decode cX10_compared 61 = .ok (.bipush 60, 2) := by decide +kernel
theorem dX10_compared_63 : decode cX10_compared 63 = .ok (.if_icmp .ne 16, 3) := by decide +kernel
theorem dX10_compared_66 : decode cX10_compared 66 = .ok (.iload_n 1, 1) := by decide +kernel
theorem dX10_compared_67 : decode cX10_compared 67 = .ok (.iload_n 3, 1) := by decide +kernel
theorem dX10_compared_68 : decode cX10_compared 68 = .ok (.if_icmp .ge 7, 3) := by decide +kernel
theorem dX10_compared_71 : decode cX10_compared 71 = .ok (.iconst 1, 1) := by decide +kernel
theorem dX10_compared_72 : decode cX10_compared 72 = .ok (.goto 36, 3) := by decide +kernel
theorem dX10_compared_75 : decode cX10_compared 75 = .ok (.iconst 0, 1) := by decide +kernel
theorem dX10_compared_76 : decode cX10_compared 76 = .ok (.goto 32, 3) := by decide +kernel
theorem dX10_compared_79 : decode cX10_compared 79 = .ok (.iload_n 2, 1) := by decide +kernel
theorem dX10_compared_80 : decode cX10_compared 80 = .ok (.bipush 61, 2) := by decide +kernel
theorem dX10_compared_82 : decode cX10_compared 82 = .ok (.if_icmp .ne 16, 3) := by decide +kernel
theorem dX10_compared_85 : decode cX10_compared 85 = .ok (.iload_n 1, 1) := by decide +kernel
theorem dX10_compared_86 : decode cX10_compared 86 = .ok (.iload_n 3, 1) := by decide +kernel
theorem dX10_compared_87 : decode cX10_compared 87 = .ok (.if_icmp .ne 7, 3) := by decide +kernel
theorem dX10_compared_90 : decode cX10_compared 90 = .ok (.iconst 1, 1) := by decide +kernel
theorem dX10_compared_91 : decode cX10_compared 91 = .ok (.goto 17, 3) := by decide +kernel
theorem dX10_compared_94 : decode cX10_compared 94 = .ok (.iconst 0, 1) := by decide +kernel
theorem dX10_compared_95 : decode cX10_compared 95 = .ok (.goto 13, 3) := by decide +kernel
theorem dX10_compared_98 : decode cX10_compared 98 = .ok (.iload_n 1, 1) := by decide +kernel
theorem dX10_compared_99 : decode cX10_compared 99 = .ok (.iload_n 3, 1) := by decide +kernel
theorem dX10_compared_100 : decode cX10_compared 100 = .ok (.if_icmp .le 7, 3) := by decide +kernel
theorem dX10_compared_103 : decode cX10_compared 103 = .ok (.iconst 1, 1) := by decide +kernel
theorem dX10_compared_104 : decode cX10_compared 104 = .ok (.goto 4, 3) := by decide +kernel
theorem dX10_compared_107 : decode cX10_compared 107 = .ok (.iconst 0, 1) := by decide +kernel
theorem dX10_compared_108 : decode cX10_compared 108 = .ok (.istore 4, 2) := by decide +kernel
theorem dX10_compared_110 : decode cX10_compared 110 = .ok (.iload 4, 2) := by decide +kernel
theorem dX10_compared_112 : decode cX10_compared 112 = .ok (.ifCond .eq 7, 3) := by decide +kernel
theorem dX10_compared_115 : decode cX10_compared 115 = .ok (.iconst 1, 1) := by decide +kernel
theorem dX10_compared_116 : decode cX10_compared 116 = .ok (.goto 4, 3) := by decide +kernel
theorem dX10_compared_119 : decode cX10_compared 119 = .ok (.iconst 0, 1) := by decide +kernel
theorem dX10_compared_120 : decode cX10_compared 120 = .ok (.ireturn, 1) := by decide +kernel
theorem dX10_both_0 : decode cX10_both 0 = .ok (.aload_n 0, 1) := by decide +kernel
theorem dX10_both_1 : decode cX10_both 1 = .ok (.invokevirtual 139, 3) := by decide +kernel
theorem dX10_both_4 : decode cX10_both 4 = .ok (.istore_n 1, 1) := by decide +kernel
theorem dX10_both_5 : decode cX10_both 5 = .ok (.aload_n 0, 1) := by decide +kernel
theorem dX10_both_6 : decode cX10_both 6 = .ok (.getfield 92, 3) := by decide +kernel
theorem dX10_both_9 : decode cX10_both 9 = .ok (.ifCond .eq 48, 3) := by decide +kernel
theorem dX10_both_12 : decode cX10_both 12 = .ok (.aload_n 0, 1) := by decide +kernel
theorem dX10_both_13 : decode cX10_both 13 = .ok (.aload_n 0, 1) := by decide +kernel
theorem dX10_both_14 : decode cX10_both 14 = .ok (.getfield 96, 3) := by decide +kernel
theorem dX10_both_17 : decode cX10_both 17 = .ok (.invokevirtual 99, 3) := by decide +kernel
theorem dX10_both_20 : decode cX10_both 20 = .ok (.bipush 38, 2) := by decide +kernel
theorem dX10_both_22 : decode cX10_both 22 = .ok (.if_icmp .ne 35, 3) := by decide +kernel
theorem dX10_both_25 : decode cX10_both 25 = .ok (.aload_n 0, 1) := by decide +kernel
theorem dX10_both_26 : decode cX10_both 26 = .ok (.dup, 1) := by decide +kernel
theorem dX10_both_27 : decode cX10_both 27 = .ok (.getfield 96, 3) := by decide +kernel
theorem dX10_both_30 : decode cX10_both 30 = .ok (.iconst 1, 1) := by decide +kernel
theorem dX10_both_31 : decode cX10_both 31 = .ok (.iadd, 1) := by decide +kernel
theorem dX10_both_32 : decode cX10_both 32 = .ok (.putfield 96, 3) := by decide +kernel
theorem dX10_both_35 : decode cX10_both 35 = .ok (.aload_n 0, 1) := by decide +kernel
theorem dX10_both_36 : decode cX10_both 36 = .ok (.invokevirtual 139, 3) := by decide +kernel
theorem dX10_both_39 : decode cX10_both 39 = .ok (.istore_n 2, 1) := by decide +kernel
theorem dX10_both_40 : decode cX10_both 40 = .ok (.iload_n 1, 1) := by decide +kernel
theorem dX10_both_41 : decode cX10_both 41 = .ok (.ifCond .eq 11, 3) := by decide +kernel
theorem dX10_both_44 : decode cX10_both 44 = .ok (.iload_n 2, 1) := by decide +kernel
theorem dX10_both_45 : decode cX10_both 45 = .ok (.ifCond .eq 7, 3) := by decide +kernel
theorem dX10_both_48 : decode cX10_both 48 = .ok (.iconst 1, 1) := by decide +kernel
theorem dX10_both_49 : decode cX10_both 49 = .ok (.goto 4, 3) := by decide +kernel
theorem dX10_both_52 : decode cX10_both 52 = .ok (.iconst 0, 1) := by decide +kernel
theorem dX10_both_53 : decode cX10_both 53 = .ok (.istore_n 1, 1) := by decide +kernel
theorem dX10_both_54 : decode cX10_both 54 = .ok (.goto (-49), 3) := by decide +kernel
theorem dX10_both_57 : decode cX10_both 57 = .ok (.iload_n 1, 1) := by decide +kernel
theorem dX10_both_58 : decode cX10_both 58 = .ok (.ireturn, 1) := by decide +kernel
theorem dX10_whole_0 : decode cX10_whole 0 = .ok (.aload_n 0, 1) := by decide +kernel
theorem dX10_whole_1 : decode cX10_whole 1 = .ok (.invokevirtual 142, 3) := by decide +kernel
theorem dX10_whole_4 : decode cX10_whole 4 = .ok (.istore_n 1, 1) := by decide +kernel
theorem dX10_whole_5 : decode cX10_whole 5 = .ok (.aload_n 0, 1) := by decide +kernel
theorem dX10_whole_6 : decode cX10_whole 6 = .ok (.getfield 92, 3) := by decide +kernel
theorem dX10_whole_9 : decode cX10_whole 9 = .ok (.ifCond .eq 48, 3) := by decide +kernel
theorem dX10_whole_12 : decode cX10_whole 12 = .ok (.aload_n 0, 1) := by decide +kernel
theorem dX10_whole_13 : decode cX10_whole 13 = .ok (.aload_n 0, 1) := by decide +kernel
theorem dX10_whole_14 : decode cX10_whole 14 = .ok (.getfield 96, 3) := by decide +kernel
theorem dX10_whole_17 : decode cX10_whole 17 = .ok (.invokevirtual 99, 3) := by decide +kernel
theorem dX10_whole_20 : decode cX10_whole 20 = .ok (.bipush 124, 2) := by decide +kernel
theorem dX10_whole_22 : decode cX10_whole 22 = .ok (.if_icmp .ne 35, 3) := by decide +kernel
theorem dX10_whole_25 : decode cX10_whole 25 = .ok (.aload_n 0, 1) := by decide +kernel
theorem dX10_whole_26 : decode cX10_whole 26 = .ok (.dup, 1) := by decide +kernel
theorem dX10_whole_27 : decode cX10_whole 27 = .ok (.getfield 96, 3) := by decide +kernel
theorem dX10_whole_30 : decode cX10_whole 30 = .ok (.iconst 1, 1) := by decide +kernel
theorem dX10_whole_31 : decode cX10_whole 31 = .ok (.iadd, 1) := by decide +kernel
theorem dX10_whole_32 : decode cX10_whole 32 = .ok (.putfield 96, 3) := by decide +kernel
theorem dX10_whole_35 : decode cX10_whole 35 = .ok (.aload_n 0, 1) := by decide +kernel
theorem dX10_whole_36 : decode cX10_whole 36 = .ok (.invokevirtual 142, 3) := by decide +kernel
theorem dX10_whole_39 : decode cX10_whole 39 = .ok (.istore_n 2, 1) := by decide +kernel
theorem dX10_whole_40 : decode cX10_whole 40 = .ok (.iload_n 1, 1) := by decide +kernel
theorem dX10_whole_41 : decode cX10_whole 41 = .ok (.ifCond .ne 7, 3) := by decide +kernel
theorem dX10_whole_44 : decode cX10_whole 44 = .ok (.iload_n 2, 1) := by decide +kernel
theorem dX10_whole_45 : decode cX10_whole 45 = .ok (.ifCond .eq 7, 3) := by decide +kernel
theorem dX10_whole_48 : decode cX10_whole 48 = .ok (.iconst 1, 1) := by decide +kernel
theorem dX10_whole_49 : decode cX10_whole 49 = .ok (.goto 4, 3) := by decide +kernel
theorem dX10_whole_52 : decode cX10_whole 52 = .ok (.iconst 0, 1) := by decide +kernel
theorem dX10_whole_53 : decode cX10_whole 53 = .ok (.istore_n 1, 1) := by decide +kernel
theorem dX10_whole_54 : decode cX10_whole 54 = .ok (.goto (-49), 3) := by decide +kernel
theorem dX10_whole_57 : decode cX10_whole 57 = .ok (.iload_n 1, 1) := by decide +kernel
theorem dX10_whole_58 : decode cX10_whole 58 = .ok (.ireturn, 1) := by decide +kernel
theorem dX10_walks_0 : decode cX10_walks 0 = .ok (.aload_n 0, 1) := by decide +kernel
theorem dX10_walks_1 : decode cX10_walks 1 = .ok (.iload_n 1, 1) := by decide +kernel
theorem dX10_walks_2 : decode cX10_walks 2 = .ok (.putfield 89, 3) := by decide +kernel
theorem dX10_walks_5 : decode cX10_walks 5 = .ok (.aload_n 0, 1) := by decide +kernel
theorem dX10_walks_6 : decode cX10_walks 6 = .ok (.iconst 0, 1) := by decide +kernel
theorem dX10_walks_7 : decode cX10_walks 7 = .ok (.putfield 96, 3) := by decide +kernel
theorem dX10_walks_10 : decode cX10_walks 10 = .ok (.aload_n 0, 1) := by decide +kernel
theorem dX10_walks_11 : decode cX10_walks 11 = .ok (.aload_n 0, 1) := by decide +kernel
theorem dX10_walks_12 : decode cX10_walks 12 = .ok (.getfield 7, 3) := by decide +kernel
theorem dX10_walks_15 : decode cX10_walks 15 = .ok (.iconst 5, 1) := by decide +kernel
theorem dX10_walks_16 : decode cX10_walks 16 = .ok (.iload_n 1, 1) := by decide +kernel
theorem dX10_walks_17 : decode cX10_walks 17 = .ok (.iadd, 1) := by decide +kernel
theorem dX10_walks_18 : decode cX10_walks 18 = .ok (.iaload, 1) := by decide +kernel
theorem dX10_walks_19 : decode cX10_walks 19 = .ok (.putfield 85, 3) := by decide +kernel
theorem dX10_walks_22 : decode cX10_walks 22 = .ok (.aload_n 0, 1) := by decide +kernel
theorem dX10_walks_23 : decode cX10_walks 23 = .ok (.iconst 0, 1) := by decide +kernel
theorem dX10_walks_24 : decode cX10_walks 24 = .ok (.putfield 124, 3) := by decide +kernel
theorem dX10_walks_27 : decode cX10_walks 27 = .ok (.aload_n 0, 1) := by decide +kernel
theorem dX10_walks_28 : decode cX10_walks 28 = .ok (.iconst 1, 1) := by decide +kernel
theorem dX10_walks_29 : decode cX10_walks 29 = .ok (.putfield 92, 3) := by decide +kernel
theorem dX10_walks_32 : decode cX10_walks 32 = .ok (.aload_n 0, 1) := by decide +kernel
theorem dX10_walks_33 : decode cX10_walks 33 = .ok (.iload_n 2, 1) := by decide +kernel
theorem dX10_walks_34 : decode cX10_walks 34 = .ok (.putfield 109, 3) := by decide +kernel
theorem dX10_walks_37 : decode cX10_walks 37 = .ok (.aload_n 0, 1) := by decide +kernel
theorem dX10_walks_38 : decode cX10_walks 38 = .ok (.iload_n 3, 1) := by decide +kernel
theorem dX10_walks_39 : decode cX10_walks 39 = .ok (.putfield 112, 3) := by decide +kernel
theorem dX10_walks_42 : decode cX10_walks 42 = .ok (.aload_n 0, 1) := by decide +kernel
theorem dX10_walks_43 : decode cX10_walks 43 = .ok (.iload 4, 2) := by decide +kernel
theorem dX10_walks_45 : decode cX10_walks 45 = .ok (.putfield 115, 3) := by decide +kernel
theorem dX10_walks_48 : decode cX10_walks 48 = .ok (.aload_n 0, 1) := by decide +kernel
theorem dX10_walks_49 : decode cX10_walks 49 = .ok (.invokevirtual 130, 3) := by decide +kernel
theorem dX10_walks_52 : decode cX10_walks 52 = .ok (.istore 5, 2) := by decide +kernel
theorem dX10_walks_54 : decode cX10_walks 54 = .ok (.aload_n 0, 1) := by decide +kernel
theorem dX10_walks_55 : decode cX10_walks 55 = .ok (.aload_n 0, 1) := by decide +kernel
theorem dX10_walks_56 : decode cX10_walks 56 = .ok (.getfield 92, 3) := by decide +kernel
theorem dX10_walks_59 : decode cX10_walks 59 = .ok (.ifCond .eq 18, 3) := by decide +kernel
theorem dX10_walks_62 : decode cX10_walks 62 = .ok (.aload_n 0, 1) := by decide +kernel
theorem dX10_walks_63 : decode cX10_walks 63 = .ok (.getfield 96, 3) := by decide +kernel
theorem dX10_walks_66 : decode cX10_walks 66 = .ok (.aload_n 0, 1) := by decide +kernel
theorem dX10_walks_67 : decode cX10_walks 67 = .ok (.getfield 85, 3) := by decide +kernel
theorem dX10_walks_70 : decode cX10_walks 70 = .ok (.if_icmp .ne 7, 3) := by decide +kernel
theorem dX10_walks_73 : decode cX10_walks 73 = .ok (.iconst 1, 1) := by decide +kernel
theorem dX10_walks_74 : decode cX10_walks 74 = .ok (.goto 4, 3) := by decide +kernel
theorem dX10_walks_77 : decode cX10_walks 77 = .ok (.iconst 0, 1) := by decide +kernel
theorem dX10_walks_78 : decode cX10_walks 78 = .ok (.putfield 92, 3) := by decide +kernel
theorem dX10_walks_81 : decode cX10_walks 81 = .ok (.iload 5, 2) := by decide +kernel
theorem dX10_walks_83 : decode cX10_walks 83 = .ok (.ireturn, 1) := by decide +kernel
theorem dX10_lawOf_0 : decode cX10_lawOf 0 = .ok (.iload_n 1, 1) := by decide +kernel
theorem dX10_lawOf_1 : decode cX10_lawOf 1 = .ok (.ifCond .ne 8, 3) := by decide +kernel
theorem dX10_lawOf_4 : decode cX10_lawOf 4 = .ok (.bipush (-9), 2) := by decide +kernel
theorem dX10_lawOf_6 : decode cX10_lawOf 6 = .ok (.goto 4, 3) := by decide +kernel
theorem dX10_lawOf_9 : decode cX10_lawOf 9 = .ok (.iconst 0, 1) := by decide +kernel
theorem dX10_lawOf_10 : decode cX10_lawOf 10 = .ok (.istore 5, 2) := by decide +kernel
theorem dX10_lawOf_12 : decode cX10_lawOf 12 = .ok (.iload_n 1, 1) := by decide +kernel
theorem dX10_lawOf_13 : decode cX10_lawOf 13 = .ok (.ifCond .ne 8, 3) := by decide +kernel
theorem dX10_lawOf_16 : decode cX10_lawOf 16 = .ok (.bipush 19, 2) := by decide +kernel
theorem dX10_lawOf_18 : decode cX10_lawOf 18 = .ok (.goto 5, 3) := by decide +kernel
theorem dX10_lawOf_21 : decode cX10_lawOf 21 = .ok (.bipush 9, 2) := by decide +kernel
theorem dX10_lawOf_23 : decode cX10_lawOf 23 = .ok (.istore 6, 2) := by decide +kernel
theorem dX10_lawOf_25 : decode cX10_lawOf 25 = .ok (.aload_n 0, 1) := by decide +kernel
theorem dX10_lawOf_26 : decode cX10_lawOf 26 = .ok (.getfield 7, 3) := by decide +kernel
theorem dX10_lawOf_29 : decode cX10_lawOf 29 = .ok (.iconst 5, 1) := by decide +kernel
theorem dX10_lawOf_30 : decode cX10_lawOf 30 = .ok (.iload_n 1, 1) := by decide +kernel
theorem dX10_lawOf_31 : decode cX10_lawOf 31 = .ok (.iadd, 1) := by decide +kernel
theorem dX10_lawOf_32 : decode cX10_lawOf 32 = .ok (.iaload, 1) := by decide +kernel
theorem dX10_lawOf_33 : decode cX10_lawOf 33 = .ok (.ifCond .lt 20, 3) := by decide +kernel
theorem dX10_lawOf_36 : decode cX10_lawOf 36 = .ok (.aload_n 0, 1) := by decide +kernel
theorem dX10_lawOf_37 : decode cX10_lawOf 37 = .ok (.iload_n 1, 1) := by decide +kernel
theorem dX10_lawOf_38 : decode cX10_lawOf 38 = .ok (.iload_n 2, 1) := by decide +kernel
theorem dX10_lawOf_39 : decode cX10_lawOf 39 = .ok (.iload_n 3, 1) := by decide +kernel
theorem dX10_lawOf_40 : decode cX10_lawOf 40 = .ok (.iload 4, 2) := by decide +kernel
theorem dX10_lawOf_42 : decode cX10_lawOf 42 = .ok (.invokevirtual 145, 3) := by decide +kernel
theorem dX10_lawOf_45 : decode cX10_lawOf 45 = .ok (.iload 5, 2) := by decide +kernel
theorem dX10_lawOf_47 : decode cX10_lawOf 47 = .ok (.iload 6, 2) := by decide +kernel
theorem dX10_lawOf_49 : decode cX10_lawOf 49 = .ok (.invokestatic 149, 3) := by decide +kernel
theorem dX10_lawOf_52 : decode cX10_lawOf 52 = .ok (.ireturn, 1) := by decide +kernel
theorem dX10_lawOf_53 : decode cX10_lawOf 53 = .ok (.iload_n 1, 1) := by decide +kernel
theorem dX10_lawOf_54 : decode cX10_lawOf 54 = .ok (.ifCond .ne 18, 3) := by decide +kernel
theorem dX10_lawOf_57 : decode cX10_lawOf 57 = .ok (.iconst 2, 1) := by decide +kernel
theorem dX10_lawOf_58 : decode cX10_lawOf 58 = .ok (.iload_n 2, 1) := by decide +kernel
theorem dX10_lawOf_59 : decode cX10_lawOf 59 = .ok (.iconst 2, 1) := by decide +kernel
theorem dX10_lawOf_60 : decode cX10_lawOf 60 = .ok (.idiv, 1) := by decide +kernel
theorem dX10_lawOf_61 : decode cX10_lawOf 61 = .ok (.iadd, 1) := by decide +kernel
theorem dX10_lawOf_62 : decode cX10_lawOf 62 = .ok (.iload 5, 2) := by decide +kernel
theorem dX10_lawOf_64 : decode cX10_lawOf 64 = .ok (.iload 6, 2) := by decide +kernel
theorem dX10_lawOf_66 : decode cX10_lawOf 66 = .ok (.invokestatic 149, 3) := by decide +kernel
theorem dX10_lawOf_69 : decode cX10_lawOf 69 = .ok (.goto 4, 3) := by decide +kernel
theorem dX10_lawOf_72 : decode cX10_lawOf 72 = .ok (.iconst 4, 1) := by decide +kernel
theorem dX10_lawOf_73 : decode cX10_lawOf 73 = .ok (.ireturn, 1) := by decide +kernel
theorem dX10_law_0 : decode cX10_law 0 = .ok (.iload_n 1, 1) := by decide +kernel
theorem dX10_law_1 : decode cX10_law 1 = .ok (.iconst 0, 1) := by decide +kernel
theorem dX10_law_2 : decode cX10_law 2 = .ok (.iconst 1, 1) := by decide +kernel
theorem dX10_law_3 : decode cX10_law 3 = .ok (.invokestatic 44, 3) := by decide +kernel
theorem dX10_law_6 : decode cX10_law 6 = .ok (.ifCond .eq 15, 3) := by decide +kernel
theorem dX10_law_9 : decode cX10_law 9 = .ok (.aload_n 0, 1) := by decide +kernel
theorem dX10_law_10 : decode cX10_law 10 = .ok (.iload_n 1, 1) := by decide +kernel
theorem dX10_law_11 : decode cX10_law 11 = .ok (.iload_n 2, 1) := by decide +kernel
theorem dX10_law_12 : decode cX10_law 12 = .ok (.iload_n 3, 1) := by decide +kernel
theorem dX10_law_13 : decode cX10_law 13 = .ok (.iload 4, 2) := by decide +kernel
theorem dX10_law_15 : decode cX10_law 15 = .ok (.invokevirtual 153, 3) := by decide +kernel
theorem dX10_law_18 : decode cX10_law 18 = .ok (.goto 9, 3) := by decide +kernel
theorem dX10_law_21 : decode cX10_law 21 = .ok (.aload_n 0, 1) := by decide +kernel
theorem dX10_law_22 : decode cX10_law 22 = .ok (.ldc 48, 2) := by decide +kernel
theorem dX10_law_24 : decode cX10_law 24 = .ok (.invokevirtual 49, 3) := by decide +kernel
theorem dX10_law_27 : decode cX10_law 27 = .ok (.ireturn, 1) := by decide +kernel
theorem dX10_feed_0 : decode cX10_feed 0 = .ok (.iload_n 3, 1) := by decide +kernel
theorem dX10_feed_1 : decode cX10_feed 1 = .ok (.iconst 1, 1) := by decide +kernel
theorem dX10_feed_2 : decode cX10_feed 2 = .ok (.bipush 8, 2) := by decide +kernel
theorem dX10_feed_4 : decode cX10_feed 4 = .ok (.invokestatic 44, 3) := by decide +kernel
theorem dX10_feed_7 : decode cX10_feed 7 = .ok (.ifCond .ne 10, 3) := by decide +kernel
theorem dX10_feed_10 : decode cX10_feed 10 = .ok (.aload_n 0, 1) := by decide +kernel
theorem dX10_feed_11 : decode cX10_feed 11 = .ok (.ldc 48, 2) := by decide +kernel
theorem dX10_feed_13 : decode cX10_feed 13 = .ok (.invokevirtual 49, 3) := by decide +kernel
theorem dX10_feed_16 : decode cX10_feed 16 = .ok (.ireturn, 1) := by decide +kernel
theorem dX10_feed_17 : decode cX10_feed 17 = .ok (.aload_n 0, 1) := by decide +kernel
theorem dX10_feed_18 : decode cX10_feed 18 = .ok (.getfield 7, 3) := by decide +kernel
theorem dX10_feed_21 : decode cX10_feed 21 = .ok (.iconst 3, 1) := by decide +kernel
theorem dX10_feed_22 : decode cX10_feed 22 = .ok (.iaload, 1) := by decide +kernel
theorem dX10_feed_23 : decode cX10_feed 23 = .ok (.iload_n 3, 1) := by decide +kernel
theorem dX10_feed_24 : decode cX10_feed 24 = .ok (.iadd, 1) := by decide +kernel
theorem dX10_feed_25 : decode cX10_feed 25 = .ok (.bipush 50, 2) := by decide +kernel
theorem dX10_feed_27 : decode cX10_feed 27 = .ok (.if_icmp .le 10, 3) := by decide +kernel
theorem dX10_feed_30 : decode cX10_feed 30 = .ok (.aload_n 0, 1) := by decide +kernel
theorem dX10_feed_31 : decode cX10_feed 31 = .ok (.ldc 57, 2) := by decide +kernel
theorem dX10_feed_33 : decode cX10_feed 33 = .ok (.invokevirtual 49, 3) := by decide +kernel
theorem dX10_feed_36 : decode cX10_feed 36 = .ok (.ireturn, 1) := by decide +kernel
theorem dX10_feed_37 : decode cX10_feed 37 = .ok (.iconst 0, 1) := by decide +kernel
theorem dX10_feed_38 : decode cX10_feed 38 = .ok (.istore 4, 2) := by decide +kernel
theorem dX10_feed_40 : decode cX10_feed 40 = .ok (.iload 4, 2) := by decide +kernel
theorem dX10_feed_42 : decode cX10_feed 42 = .ok (.iload_n 3, 1) := by decide +kernel
theorem dX10_feed_43 : decode cX10_feed 43 = .ok (.if_icmp .ge 45, 3) := by decide +kernel
theorem dX10_feed_46 : decode cX10_feed 46 = .ok (.aload_n 0, 1) := by decide +kernel
theorem dX10_feed_47 : decode cX10_feed 47 = .ok (.getfield 7, 3) := by decide +kernel
theorem dX10_feed_50 : decode cX10_feed 50 = .ok (.bipush 43, 2) := by decide +kernel
theorem dX10_feed_52 : decode cX10_feed 52 = .ok (.aload_n 0, 1) := by decide +kernel
theorem dX10_feed_53 : decode cX10_feed 53 = .ok (.getfield 7, 3) := by decide +kernel
theorem dX10_feed_56 : decode cX10_feed 56 = .ok (.iconst 3, 1) := by decide +kernel
theorem dX10_feed_57 : decode cX10_feed 57 = .ok (.iaload, 1) := by decide +kernel
theorem dX10_feed_58 : decode cX10_feed 58 = .ok (.iadd, 1) := by decide +kernel
theorem dX10_feed_59 : decode cX10_feed 59 = .ok (.lload_n 1, 1) := by decide +kernel
theorem dX10_feed_60 : decode cX10_feed 60 = .ok (.bipush 8, 2) := by decide +kernel
theorem dX10_feed_62 : decode cX10_feed 62 = .ok (.iload 4, 2) := by decide +kernel
theorem dX10_feed_64 : decode cX10_feed 64 = .ok (.imul, 1) := by decide +kernel
theorem dX10_feed_65 : decode cX10_feed 65 = .ok (.lshr, 1) := by decide +kernel
theorem dX10_feed_66 : decode cX10_feed 66 = .ok (.ldc2_w 156, 3) := by decide +kernel
theorem dX10_feed_69 : decode cX10_feed 69 = .ok (.land, 1) := by decide +kernel
theorem dX10_feed_70 : decode cX10_feed 70 = .ok (.l2i, 1) := by decide +kernel
theorem dX10_feed_71 : decode cX10_feed 71 = .ok (.iastore, 1) := by decide +kernel
theorem dX10_feed_72 : decode cX10_feed 72 = .ok (.aload_n 0, 1) := by decide +kernel
theorem dX10_feed_73 : decode cX10_feed 73 = .ok (.getfield 7, 3) := by decide +kernel
theorem dX10_feed_76 : decode cX10_feed 76 = .ok (.iconst 3, 1) := by decide +kernel
theorem dX10_feed_77 : decode cX10_feed 77 = .ok (.dup2, 1) := by decide +kernel
theorem dX10_feed_78 : decode cX10_feed 78 = .ok (.iaload, 1) := by decide +kernel
theorem dX10_feed_79 : decode cX10_feed 79 = .ok (.iconst 1, 1) := by decide +kernel
theorem dX10_feed_80 : decode cX10_feed 80 = .ok (.iadd, 1) := by decide +kernel
theorem dX10_feed_81 : decode cX10_feed 81 = .ok (.iastore, 1) := by decide +kernel
theorem dX10_feed_82 : decode cX10_feed 82 = .ok (.iinc 4 1, 3) := by decide +kernel
theorem dX10_feed_85 : decode cX10_feed 85 = .ok (.goto (-45), 3) := by decide +kernel
theorem dX10_feed_88 : decode cX10_feed 88 = .ok (.aload_n 0, 1) := by decide +kernel
theorem dX10_feed_89 : decode cX10_feed 89 = .ok (.getfield 7, 3) := by decide +kernel
theorem dX10_feed_92 : decode cX10_feed 92 = .ok (.iconst 3, 1) := by decide +kernel
theorem dX10_feed_93 : decode cX10_feed 93 = .ok (.iaload, 1) := by decide +kernel
theorem dX10_feed_94 : decode cX10_feed 94 = .ok (.ireturn, 1) := by decide +kernel
theorem dX10_text_0 : decode cX10_text 0 = .ok (.iload_n 1, 1) := by decide +kernel
theorem dX10_text_1 : decode cX10_text 1 = .ok (.iconst 0, 1) := by decide +kernel
theorem dX10_text_2 : decode cX10_text 2 = .ok (.iconst 1, 1) := by decide +kernel
theorem dX10_text_3 : decode cX10_text 3 = .ok (.invokestatic 44, 3) := by decide +kernel
theorem dX10_text_6 : decode cX10_text 6 = .ok (.ifCond .ne 10, 3) := by decide +kernel
theorem dX10_text_9 : decode cX10_text 9 = .ok (.aload_n 0, 1) := by decide +kernel
theorem dX10_text_10 : decode cX10_text 10 = .ok (.ldc 48, 2) := by decide +kernel
theorem dX10_text_12 : decode cX10_text 12 = .ok (.invokevirtual 49, 3) := by decide +kernel
theorem dX10_text_15 : decode cX10_text 15 = .ok (.ireturn, 1) := by decide +kernel
theorem dX10_text_16 : decode cX10_text 16 = .ok (.aload_n 0, 1) := by decide +kernel
theorem dX10_text_17 : decode cX10_text 17 = .ok (.aload_n 0, 1) := by decide +kernel
theorem dX10_text_18 : decode cX10_text 18 = .ok (.getfield 7, 3) := by decide +kernel
theorem dX10_text_21 : decode cX10_text 21 = .ok (.aload_n 0, 1) := by decide +kernel
theorem dX10_text_22 : decode cX10_text 22 = .ok (.getfield 19, 3) := by decide +kernel
theorem dX10_text_25 : decode cX10_text 25 = .ok (.invokevirtual 158, 3) := by decide +kernel
theorem dX10_text_28 : decode cX10_text 28 = .ok (.iconst 0, 1) := by decide +kernel
theorem dX10_text_29 : decode cX10_text 29 = .ok (.istore_n 2, 1) := by decide +kernel
theorem dX10_text_30 : decode cX10_text 30 = .ok (.iload_n 2, 1) := by decide +kernel
theorem dX10_text_31 : decode cX10_text 31 = .ok (.bipush 50, 2) := by decide +kernel
theorem dX10_text_33 : decode cX10_text 33 = .ok (.if_icmp .ge 32, 3) := by decide +kernel
theorem dX10_text_36 : decode cX10_text 36 = .ok (.aload_n 0, 1) := by decide +kernel
theorem dX10_text_37 : decode cX10_text 37 = .ok (.getfield 7, 3) := by decide +kernel
theorem dX10_text_40 : decode cX10_text 40 = .ok (.bipush 113, 2) := by decide +kernel
theorem dX10_text_42 : decode cX10_text 42 = .ok (.bipush 50, 2) := by decide +kernel
theorem dX10_text_44 : decode cX10_text 44 = .ok (.iload_n 1, 1) := by decide +kernel
theorem dX10_text_45 : decode cX10_text 45 = .ok (.imul, 1) := by decide +kernel
theorem dX10_text_46 : decode cX10_text 46 = .ok (.iadd, 1) := by decide +kernel
theorem dX10_text_47 : decode cX10_text 47 = .ok (.iload_n 2, 1) := by decide +kernel
theorem dX10_text_48 : decode cX10_text 48 = .ok (.iadd, 1) := by decide +kernel
theorem dX10_text_49 : decode cX10_text 49 = .ok (.aload_n 0, 1) := by decide +kernel
theorem dX10_text_50 : decode cX10_text 50 = .ok (.getfield 7, 3) := by decide +kernel
theorem dX10_text_53 : decode cX10_text 53 = .ok (.bipush 43, 2) := by decide +kernel
theorem dX10_text_55 : decode cX10_text 55 = .ok (.iload_n 2, 1) := by decide +kernel
theorem dX10_text_56 : decode cX10_text 56 = .ok (.iadd, 1) := by decide +kernel
theorem dX10_text_57 : decode cX10_text 57 = .ok (.iaload, 1) := by decide +kernel
theorem dX10_text_58 : decode cX10_text 58 = .ok (.iastore, 1) := by decide +kernel
theorem dX10_text_59 : decode cX10_text 59 = .ok (.iinc 2 1, 3) := by decide +kernel
theorem dX10_text_62 : decode cX10_text 62 = .ok (.goto (-32), 3) := by decide +kernel
theorem dX10_text_65 : decode cX10_text 65 = .ok (.aload_n 0, 1) := by decide +kernel
theorem dX10_text_66 : decode cX10_text 66 = .ok (.getfield 7, 3) := by decide +kernel
theorem dX10_text_69 : decode cX10_text 69 = .ok (.iconst 5, 1) := by decide +kernel
theorem dX10_text_70 : decode cX10_text 70 = .ok (.iload_n 1, 1) := by decide +kernel
theorem dX10_text_71 : decode cX10_text 71 = .ok (.iadd, 1) := by decide +kernel
theorem dX10_text_72 : decode cX10_text 72 = .ok (.aload_n 0, 1) := by decide +kernel
theorem dX10_text_73 : decode cX10_text 73 = .ok (.getfield 7, 3) := by decide +kernel
theorem dX10_text_76 : decode cX10_text 76 = .ok (.iconst 3, 1) := by decide +kernel
theorem dX10_text_77 : decode cX10_text 77 = .ok (.iaload, 1) := by decide +kernel
theorem dX10_text_78 : decode cX10_text 78 = .ok (.iastore, 1) := by decide +kernel
theorem dX10_text_79 : decode cX10_text 79 = .ok (.aload_n 0, 1) := by decide +kernel
theorem dX10_text_80 : decode cX10_text 80 = .ok (.iload_n 1, 1) := by decide +kernel
theorem dX10_text_81 : decode cX10_text 81 = .ok (.iconst 1, 1) := by decide +kernel
theorem dX10_text_82 : decode cX10_text 82 = .ok (.iconst 1, 1) := by decide +kernel
theorem dX10_text_83 : decode cX10_text 83 = .ok (.iconst 1, 1) := by decide +kernel
theorem dX10_text_84 : decode cX10_text 84 = .ok (.invokevirtual 145, 3) := by decide +kernel
theorem dX10_text_87 : decode cX10_text 87 = .ok (.istore_n 2, 1) := by decide +kernel
theorem dX10_text_88 : decode cX10_text 88 = .ok (.aload_n 0, 1) := by decide +kernel
theorem dX10_text_89 : decode cX10_text 89 = .ok (.getfield 92, 3) := by decide +kernel
theorem dX10_text_92 : decode cX10_text 92 = .ok (.ifCond .eq 12, 3) := by decide +kernel
theorem dX10_text_95 : decode cX10_text 95 = .ok (.iload_n 2, 1) := by decide +kernel
theorem dX10_text_96 : decode cX10_text 96 = .ok (.iload_n 2, 1) := by decide +kernel
theorem dX10_text_97 : decode cX10_text 97 = .ok (.if_icmp .ne 7, 3) := by decide +kernel
theorem dX10_text_100 : decode cX10_text 100 = .ok (.iconst 1, 1) := by decide +kernel
theorem dX10_text_101 : decode cX10_text 101 = .ok (.goto 4, 3) := by decide +kernel
theorem dX10_text_104 : decode cX10_text 104 = .ok (.iconst 0, 1) := by decide +kernel
theorem dX10_text_105 : decode cX10_text 105 = .ok (.istore_n 3, 1) := by decide +kernel
theorem dX10_text_106 : decode cX10_text 106 = .ok (.aload_n 0, 1) := by decide +kernel
theorem dX10_text_107 : decode cX10_text 107 = .ok (.getfield 96, 3) := by decide +kernel
theorem dX10_text_110 : decode cX10_text 110 = .ok (.istore 4, 2) := by decide +kernel
theorem dX10_text_112 : decode cX10_text 112 = .ok (.iload_n 3, 1) := by decide +kernel
theorem dX10_text_113 : decode cX10_text 113 = .ok (.ifCond .ne 15, 3) := by decide +kernel
theorem dX10_text_116 : decode cX10_text 116 = .ok (.aload_n 0, 1) := by decide +kernel
theorem dX10_text_117 : decode cX10_text 117 = .ok (.aload_n 0, 1) := by decide +kernel
theorem dX10_text_118 : decode cX10_text 118 = .ok (.getfield 19, 3) := by decide +kernel
theorem dX10_text_121 : decode cX10_text 121 = .ok (.aload_n 0, 1) := by decide +kernel
theorem dX10_text_122 : decode cX10_text 122 = .ok (.getfield 7, 3) := by decide +kernel
theorem dX10_text_125 : decode cX10_text 125 = .ok (.invokevirtual 158, 3) := by decide +kernel
theorem dX10_text_128 : decode cX10_text 128 = .ok (.aload_n 0, 1) := by decide +kernel
theorem dX10_text_129 : decode cX10_text 129 = .ok (.getfield 7, 3) := by decide +kernel
theorem dX10_text_132 : decode cX10_text 132 = .ok (.iconst 3, 1) := by decide +kernel
theorem dX10_text_133 : decode cX10_text 133 = .ok (.iconst 0, 1) := by decide +kernel
theorem dX10_text_134 : decode cX10_text 134 = .ok (.iastore, 1) := by decide +kernel
theorem dX10_text_135 : decode cX10_text 135 = .ok (.iload_n 3, 1) := by decide +kernel
theorem dX10_text_136 : decode cX10_text 136 = .ok (.ifCond .eq 7, 3) := by decide +kernel
theorem dX10_text_139 : decode cX10_text 139 = .ok (.iconst 1, 1) := by decide +kernel
theorem dX10_text_140 : decode cX10_text 140 = .ok (.goto 8, 3) := by decide +kernel
theorem dX10_text_143 : decode cX10_text 143 = .ok (.bipush (-10), 2) := by decide +kernel
theorem dX10_text_145 : decode cX10_text 145 = .ok (.iload 4, 2) := by decide +kernel
theorem dX10_text_147 : decode cX10_text 147 = .ok (.isub, 1) := by decide +kernel
theorem dX10_text_148 : decode cX10_text 148 = .ok (.ireturn, 1) := by decide +kernel
theorem dX10_wants_0 : decode cX10_wants 0 = .ok (.aload_n 0, 1) := by decide +kernel
theorem dX10_wants_1 : decode cX10_wants 1 = .ok (.iload_n 1, 1) := by decide +kernel
theorem dX10_wants_2 : decode cX10_wants 2 = .ok (.iconst 1, 1) := by decide +kernel
theorem dX10_wants_3 : decode cX10_wants 3 = .ok (.invokevirtual 78, 3) := by decide +kernel
theorem dX10_wants_6 : decode cX10_wants 6 = .ok (.istore_n 2, 1) := by decide +kernel
theorem dX10_wants_7 : decode cX10_wants 7 = .ok (.aload_n 0, 1) := by decide +kernel
theorem dX10_wants_8 : decode cX10_wants 8 = .ok (.iconst 0, 1) := by decide +kernel
theorem dX10_wants_9 : decode cX10_wants 9 = .ok (.aload_n 0, 1) := by decide +kernel
theorem dX10_wants_10 : decode cX10_wants 10 = .ok (.iload_n 1, 1) := by decide +kernel
theorem dX10_wants_11 : decode cX10_wants 11 = .ok (.iconst 2, 1) := by decide +kernel
theorem dX10_wants_12 : decode cX10_wants 12 = .ok (.invokevirtual 78, 3) := by decide +kernel
theorem dX10_wants_15 : decode cX10_wants 15 = .ok (.iload_n 2, 1) := by decide +kernel
theorem dX10_wants_16 : decode cX10_wants 16 = .ok (.aload_n 0, 1) := by decide +kernel
theorem dX10_wants_17 : decode cX10_wants 17 = .ok (.iload_n 1, 1) := by decide +kernel
theorem dX10_wants_18 : decode cX10_wants 18 = .ok (.iconst 0, 1) := by decide +kernel
theorem dX10_wants_19 : decode cX10_wants 19 = .ok (.invokevirtual 78, 3) := by decide +kernel
theorem dX10_wants_22 : decode cX10_wants 22 = .ok (.invokevirtual 153, 3) := by decide +kernel
theorem dX10_wants_25 : decode cX10_wants 25 = .ok (.istore_n 3, 1) := by decide +kernel
theorem dX10_wants_26 : decode cX10_wants 26 = .ok (.aload_n 0, 1) := by decide +kernel
theorem dX10_wants_27 : decode cX10_wants 27 = .ok (.iload_n 1, 1) := by decide +kernel
theorem dX10_wants_28 : decode cX10_wants 28 = .ok (.iconst 0, 1) := by decide +kernel
theorem dX10_wants_29 : decode cX10_wants 29 = .ok (.invokevirtual 78, 3) := by decide +kernel
theorem dX10_wants_32 : decode cX10_wants 32 = .ok (.tableswitch 80 1 6 #[40, 48, 74, 44, 59, 74], 40) := by decide +kernel
theorem dX10_wants_72 : decode cX10_wants 72 = .ok (.iload_n 3, 1) := by decide +kernel
theorem dX10_wants_73 : decode cX10_wants 73 = .ok (.iconst 2, 1) := by decide +kernel
theorem dX10_wants_74 : decode cX10_wants 74 = .ok (.isub, 1) := by decide +kernel
theorem dX10_wants_75 : decode cX10_wants 75 = .ok (.ireturn, 1) := by decide +kernel
theorem dX10_wants_76 : decode cX10_wants 76 = .ok (.iload_n 3, 1) := by decide +kernel
theorem dX10_wants_77 : decode cX10_wants 77 = .ok (.iconst 1, 1) := by decide +kernel
theorem dX10_wants_78 : decode cX10_wants 78 = .ok (.isub, 1) := by decide +kernel
theorem dX10_wants_79 : decode cX10_wants 79 = .ok (.ireturn, 1) := by decide +kernel
theorem dX10_wants_80 : decode cX10_wants 80 = .ok (.iload_n 3, 1) := by decide +kernel
theorem dX10_wants_81 : decode cX10_wants 81 = .ok (.aload_n 0, 1) := by decide +kernel
theorem dX10_wants_82 : decode cX10_wants 82 = .ok (.iload_n 1, 1) := by decide +kernel
theorem dX10_wants_83 : decode cX10_wants 83 = .ok (.iconst 2, 1) := by decide +kernel
theorem dX10_wants_84 : decode cX10_wants 84 = .ok (.invokevirtual 78, 3) := by decide +kernel
theorem dX10_wants_87 : decode cX10_wants 87 = .ok (.iconst 2, 1) := by decide +kernel
theorem dX10_wants_88 : decode cX10_wants 88 = .ok (.idiv, 1) := by decide +kernel
theorem dX10_wants_89 : decode cX10_wants 89 = .ok (.iadd, 1) := by decide +kernel
theorem dX10_wants_90 : decode cX10_wants 90 = .ok (.ireturn, 1) := by decide +kernel
theorem dX10_wants_91 : decode cX10_wants 91 = .ok (.iload_n 3, 1) := by decide +kernel
theorem dX10_wants_92 : decode cX10_wants 92 = .ok (.aload_n 0, 1) := by decide +kernel
theorem dX10_wants_93 : decode cX10_wants 93 = .ok (.iload_n 1, 1) := by decide +kernel
theorem dX10_wants_94 : decode cX10_wants 94 = .ok (.iconst 2, 1) := by decide +kernel
theorem dX10_wants_95 : decode cX10_wants 95 = .ok (.invokevirtual 78, 3) := by decide +kernel
theorem dX10_wants_98 : decode cX10_wants 98 = .ok (.iconst 2, 1) := by decide +kernel
theorem dX10_wants_99 : decode cX10_wants 99 = .ok (.idiv, 1) := by decide +kernel
theorem dX10_wants_100 : decode cX10_wants 100 = .ok (.iadd, 1) := by decide +kernel
theorem dX10_wants_101 : decode cX10_wants 101 = .ok (.iload_n 2, 1) := by decide +kernel
theorem dX10_wants_102 : decode cX10_wants 102 = .ok (.iconst 2, 1) := by decide +kernel
theorem dX10_wants_103 : decode cX10_wants 103 = .ok (.irem, 1) := by decide +kernel
theorem dX10_wants_104 : decode cX10_wants 104 = .ok (.isub, 1) := by decide +kernel
theorem dX10_wants_105 : decode cX10_wants 105 = .ok (.ireturn, 1) := by decide +kernel
theorem dX10_wants_106 : decode cX10_wants 106 = .ok (.iload_n 3, 1) := by decide +kernel
theorem dX10_wants_107 : decode cX10_wants 107 = .ok (.iload_n 2, 1) := by decide +kernel
theorem dX10_wants_108 : decode cX10_wants 108 = .ok (.iconst 3, 1) := by decide +kernel
theorem dX10_wants_109 : decode cX10_wants 109 = .ok (.irem, 1) := by decide +kernel
theorem dX10_wants_110 : decode cX10_wants 110 = .ok (.iadd, 1) := by decide +kernel
theorem dX10_wants_111 : decode cX10_wants 111 = .ok (.ireturn, 1) := by decide +kernel
theorem dX10_wants_112 : decode cX10_wants 112 = .ok (.iload_n 3, 1) := by decide +kernel
theorem dX10_wants_113 : decode cX10_wants 113 = .ok (.ireturn, 1) := by decide +kernel
theorem dX10_bears_0 : decode cX10_bears 0 = .ok (.aload_n 0, 1) := by decide +kernel
theorem dX10_bears_1 : decode cX10_bears 1 = .ok (.iload_n 1, 1) := by decide +kernel
theorem dX10_bears_2 : decode cX10_bears 2 = .ok (.iconst 0, 1) := by decide +kernel
theorem dX10_bears_3 : decode cX10_bears 3 = .ok (.invokevirtual 78, 3) := by decide +kernel
theorem dX10_bears_6 : decode cX10_bears 6 = .ok (.tableswitch 53 1 6 #[38, 53, 40, 38, 40, 42], 38) := by decide +kernel
theorem dX10_bears_44 : decode cX10_bears 44 = .ok (.iconst 0, 1) := by decide +kernel
theorem dX10_bears_45 : decode cX10_bears 45 = .ok (.ireturn, 1) := by decide +kernel
theorem dX10_bears_46 : decode cX10_bears 46 = .ok (.iconst 2, 1) := by decide +kernel
theorem dX10_bears_47 : decode cX10_bears 47 = .ok (.ireturn, 1) := by decide +kernel
theorem dX10_bears_48 : decode cX10_bears 48 = .ok (.iconst 2, 1) := by decide +kernel
theorem dX10_bears_49 : decode cX10_bears 49 = .ok (.aload_n 0, 1) := by decide +kernel
theorem dX10_bears_50 : decode cX10_bears 50 = .ok (.iload_n 1, 1) := by decide +kernel
theorem dX10_bears_51 : decode cX10_bears 51 = .ok (.iconst 1, 1) := by decide +kernel
theorem dX10_bears_52 : decode cX10_bears 52 = .ok (.invokevirtual 78, 3) := by decide +kernel
theorem dX10_bears_55 : decode cX10_bears 55 = .ok (.iconst 4, 1) := by decide +kernel
theorem dX10_bears_56 : decode cX10_bears 56 = .ok (.idiv, 1) := by decide +kernel
theorem dX10_bears_57 : decode cX10_bears 57 = .ok (.iadd, 1) := by decide +kernel
theorem dX10_bears_58 : decode cX10_bears 58 = .ok (.ireturn, 1) := by decide +kernel
theorem dX10_bears_59 : decode cX10_bears 59 = .ok (.iconst 1, 1) := by decide +kernel
theorem dX10_bears_60 : decode cX10_bears 60 = .ok (.ireturn, 1) := by decide +kernel
theorem dX10_off_0 : decode cX10_off 0 = .ok (.aload_n 0, 1) := by decide +kernel
theorem dX10_off_1 : decode cX10_off 1 = .ok (.getfield 7, 3) := by decide +kernel
theorem dX10_off_4 : decode cX10_off 4 = .ok (.bipush 8, 2) := by decide +kernel
theorem dX10_off_6 : decode cX10_off 6 = .ok (.iaload, 1) := by decide +kernel
theorem dX10_off_7 : decode cX10_off 7 = .ok (.aload_n 0, 1) := by decide +kernel
theorem dX10_off_8 : decode cX10_off 8 = .ok (.getfield 7, 3) := by decide +kernel
theorem dX10_off_11 : decode cX10_off 11 = .ok (.bipush 9, 2) := by decide +kernel
theorem dX10_off_13 : decode cX10_off 13 = .ok (.iaload, 1) := by decide +kernel
theorem dX10_off_14 : decode cX10_off 14 = .ok (.isub, 1) := by decide +kernel
theorem dX10_off_15 : decode cX10_off 15 = .ok (.aload_n 0, 1) := by decide +kernel
theorem dX10_off_16 : decode cX10_off 16 = .ok (.getfield 7, 3) := by decide +kernel
theorem dX10_off_19 : decode cX10_off 19 = .ok (.bipush 11, 2) := by decide +kernel
theorem dX10_off_21 : decode cX10_off 21 = .ok (.iaload, 1) := by decide +kernel
theorem dX10_off_22 : decode cX10_off 22 = .ok (.bipush 20, 2) := by decide +kernel
theorem dX10_off_24 : decode cX10_off 24 = .ok (.idiv, 1) := by decide +kernel
theorem dX10_off_25 : decode cX10_off 25 = .ok (.isub, 1) := by decide +kernel
theorem dX10_off_26 : decode cX10_off 26 = .ok (.aload_n 0, 1) := by decide +kernel
theorem dX10_off_27 : decode cX10_off 27 = .ok (.iload_n 1, 1) := by decide +kernel
theorem dX10_off_28 : decode cX10_off 28 = .ok (.invokevirtual 66, 3) := by decide +kernel
theorem dX10_off_31 : decode cX10_off 31 = .ok (.isub, 1) := by decide +kernel
theorem dX10_off_32 : decode cX10_off 32 = .ok (.ireturn, 1) := by decide +kernel
theorem dX10_isSkipped_0 : decode cX10_isSkipped 0 = .ok (.aload_n 0, 1) := by decide +kernel
theorem dX10_isSkipped_1 : decode cX10_isSkipped 1 = .ok (.getfield 7, 3) := by decide +kernel
theorem dX10_isSkipped_4 : decode cX10_isSkipped 4 = .ok (.bipush 10, 2) := by decide +kernel
theorem dX10_isSkipped_6 : decode cX10_isSkipped 6 = .ok (.iaload, 1) := by decide +kernel
theorem dX10_isSkipped_7 : decode cX10_isSkipped 7 = .ok (.iconst 2, 1) := by decide +kernel
theorem dX10_isSkipped_8 : decode cX10_isSkipped 8 = .ok (.if_icmp .eq 48, 3) := by decide +kernel
theorem dX10_isSkipped_11 : decode cX10_isSkipped 11 = .ok (.aload_n 0, 1) := by decide +kernel
theorem dX10_isSkipped_12 : decode cX10_isSkipped 12 = .ok (.getfield 7, 3) := by decide +kernel
theorem dX10_isSkipped_15 : decode cX10_isSkipped 15 = .ok (.bipush 10, 2) := by decide +kernel
theorem dX10_isSkipped_17 : decode cX10_isSkipped 17 = .ok (.iaload, 1) := by decide +kernel
theorem dX10_isSkipped_18 : decode cX10_isSkipped 18 = .ok (.iconst 1, 1) := by decide +kernel
theorem dX10_isSkipped_19 : decode cX10_isSkipped 19 = .ok (.if_icmp .ne 41, 3) := by decide +kernel
theorem dX10_isSkipped_22 : decode cX10_isSkipped 22 = .ok (.aload_n 0, 1) := by decide +kernel
theorem dX10_isSkipped_23 : decode cX10_isSkipped 23 = .ok (.getfield 7, 3) := by decide +kernel
theorem dX10_isSkipped_26 : decode cX10_isSkipped 26 = .ok (.bipush 12, 2) := by decide +kernel
theorem dX10_isSkipped_28 : decode cX10_isSkipped 28 = .ok (.iaload, 1) := by decide +kernel
theorem dX10_isSkipped_29 : decode cX10_isSkipped 29 = .ok (.aload_n 0, 1) := by decide +kernel
theorem dX10_isSkipped_30 : decode cX10_isSkipped 30 = .ok (.iconst 1, 1) := by decide +kernel
theorem dX10_isSkipped_31 : decode cX10_isSkipped 31 = .ok (.aload_n 0, 1) := by decide +kernel
theorem dX10_isSkipped_32 : decode cX10_isSkipped 32 = .ok (.iload_n 1, 1) := by decide +kernel
theorem dX10_isSkipped_33 : decode cX10_isSkipped 33 = .ok (.iconst 2, 1) := by decide +kernel
theorem dX10_isSkipped_34 : decode cX10_isSkipped 34 = .ok (.invokevirtual 78, 3) := by decide +kernel
theorem dX10_isSkipped_37 : decode cX10_isSkipped 37 = .ok (.aload_n 0, 1) := by decide +kernel
theorem dX10_isSkipped_38 : decode cX10_isSkipped 38 = .ok (.iload_n 1, 1) := by decide +kernel
theorem dX10_isSkipped_39 : decode cX10_isSkipped 39 = .ok (.iconst 1, 1) := by decide +kernel
theorem dX10_isSkipped_40 : decode cX10_isSkipped 40 = .ok (.invokevirtual 78, 3) := by decide +kernel
theorem dX10_isSkipped_43 : decode cX10_isSkipped 43 = .ok (.aload_n 0, 1) := by decide +kernel
theorem dX10_isSkipped_44 : decode cX10_isSkipped 44 = .ok (.getfield 7, 3) := by decide +kernel
theorem dX10_isSkipped_47 : decode cX10_isSkipped 47 = .ok (.bipush 11, 2) := by decide +kernel
theorem dX10_isSkipped_49 : decode cX10_isSkipped 49 = .ok (.iaload, 1) := by decide +kernel
theorem dX10_isSkipped_50 : decode cX10_isSkipped 50 = .ok (.invokevirtual 153, 3) := by decide +kernel
theorem dX10_isSkipped_53 : decode cX10_isSkipped 53 = .ok (.if_icmp .le 7, 3) := by decide +kernel
theorem dX10_isSkipped_56 : decode cX10_isSkipped 56 = .ok (.iconst 1, 1) := by decide +kernel
theorem dX10_isSkipped_57 : decode cX10_isSkipped 57 = .ok (.goto 4, 3) := by decide +kernel
theorem dX10_isSkipped_60 : decode cX10_isSkipped 60 = .ok (.iconst 0, 1) := by decide +kernel
theorem dX10_isSkipped_61 : decode cX10_isSkipped 61 = .ok (.ireturn, 1) := by decide +kernel
theorem dX10_shows_0 : decode cX10_shows 0 = .ok (.aload_n 0, 1) := by decide +kernel
theorem dX10_shows_1 : decode cX10_shows 1 = .ok (.getfield 7, 3) := by decide +kernel
theorem dX10_shows_4 : decode cX10_shows 4 = .ok (.bipush 7, 2) := by decide +kernel
theorem dX10_shows_6 : decode cX10_shows 6 = .ok (.iaload, 1) := by decide +kernel
theorem dX10_shows_7 : decode cX10_shows 7 = .ok (.iconst 1, 1) := by decide +kernel
theorem dX10_shows_8 : decode cX10_shows 8 = .ok (.if_icmp .ne 5, 3) := by decide +kernel
theorem dX10_shows_11 : decode cX10_shows 11 = .ok (.iconst 4, 1) := by decide +kernel
theorem dX10_shows_12 : decode cX10_shows 12 = .ok (.ireturn, 1) := by decide +kernel
theorem dX10_shows_13 : decode cX10_shows 13 = .ok (.aload_n 0, 1) := by decide +kernel
theorem dX10_shows_14 : decode cX10_shows 14 = .ok (.iload_n 1, 1) := by decide +kernel
theorem dX10_shows_15 : decode cX10_shows 15 = .ok (.invokevirtual 162, 3) := by decide +kernel
theorem dX10_shows_18 : decode cX10_shows 18 = .ok (.ifCond .eq 5, 3) := by decide +kernel
theorem dX10_shows_21 : decode cX10_shows 21 = .ok (.iconst 3, 1) := by decide +kernel
theorem dX10_shows_22 : decode cX10_shows 22 = .ok (.ireturn, 1) := by decide +kernel
theorem dX10_shows_23 : decode cX10_shows 23 = .ok (.aload_n 0, 1) := by decide +kernel
theorem dX10_shows_24 : decode cX10_shows 24 = .ok (.iload_n 1, 1) := by decide +kernel
theorem dX10_shows_25 : decode cX10_shows 25 = .ok (.invokevirtual 72, 3) := by decide +kernel
theorem dX10_shows_28 : decode cX10_shows 28 = .ok (.istore_n 2, 1) := by decide +kernel
theorem dX10_shows_29 : decode cX10_shows 29 = .ok (.iload_n 2, 1) := by decide +kernel
theorem dX10_shows_30 : decode cX10_shows 30 = .ok (.aload_n 0, 1) := by decide +kernel
theorem dX10_shows_31 : decode cX10_shows 31 = .ok (.iload_n 1, 1) := by decide +kernel
theorem dX10_shows_32 : decode cX10_shows 32 = .ok (.invokevirtual 69, 3) := by decide +kernel
theorem dX10_shows_35 : decode cX10_shows 35 = .ok (.ineg, 1) := by decide +kernel
theorem dX10_shows_36 : decode cX10_shows 36 = .ok (.if_icmp .ge 7, 3) := by decide +kernel
theorem dX10_shows_39 : decode cX10_shows 39 = .ok (.iconst 1, 1) := by decide +kernel
theorem dX10_shows_40 : decode cX10_shows 40 = .ok (.goto 17, 3) := by decide +kernel
theorem dX10_shows_43 : decode cX10_shows 43 = .ok (.iload_n 2, 1) := by decide +kernel
theorem dX10_shows_44 : decode cX10_shows 44 = .ok (.aload_n 0, 1) := by decide +kernel
theorem dX10_shows_45 : decode cX10_shows 45 = .ok (.iload_n 1, 1) := by decide +kernel
theorem dX10_shows_46 : decode cX10_shows 46 = .ok (.invokevirtual 69, 3) := by decide +kernel
theorem dX10_shows_49 : decode cX10_shows 49 = .ok (.if_icmp .le 7, 3) := by decide +kernel
theorem dX10_shows_52 : decode cX10_shows 52 = .ok (.iconst 2, 1) := by decide +kernel
theorem dX10_shows_53 : decode cX10_shows 53 = .ok (.goto 4, 3) := by decide +kernel
theorem dX10_shows_56 : decode cX10_shows 56 = .ok (.iconst 0, 1) := by decide +kernel
theorem dX10_shows_57 : decode cX10_shows 57 = .ok (.ireturn, 1) := by decide +kernel
theorem dX10_yard_0 : decode cX10_yard 0 = .ok (.aload_n 0, 1) := by decide +kernel
theorem dX10_yard_1 : decode cX10_yard 1 = .ok (.iload_n 1, 1) := by decide +kernel
theorem dX10_yard_2 : decode cX10_yard 2 = .ok (.invokevirtual 75, 3) := by decide +kernel
theorem dX10_yard_5 : decode cX10_yard 5 = .ok (.ifCond .ne 7, 3) := by decide +kernel
theorem dX10_yard_8 : decode cX10_yard 8 = .ok (.iconst 0, 1) := by decide +kernel
theorem dX10_yard_9 : decode cX10_yard 9 = .ok (.goto 4, 3) := by decide +kernel
theorem dX10_yard_12 : decode cX10_yard 12 = .ok (.iconst 1, 1) := by decide +kernel
theorem dX10_yard_13 : decode cX10_yard 13 = .ok (.istore_n 2, 1) := by decide +kernel
theorem dX10_yard_14 : decode cX10_yard 14 = .ok (.aload_n 0, 1) := by decide +kernel
theorem dX10_yard_15 : decode cX10_yard 15 = .ok (.iload_n 1, 1) := by decide +kernel
theorem dX10_yard_16 : decode cX10_yard 16 = .ok (.iconst 0, 1) := by decide +kernel
theorem dX10_yard_17 : decode cX10_yard 17 = .ok (.invokevirtual 78, 3) := by decide +kernel
theorem dX10_yard_20 : decode cX10_yard 20 = .ok (.istore_n 3, 1) := by decide +kernel
theorem dX10_yard_21 : decode cX10_yard 21 = .ok (.iload_n 3, 1) := by decide +kernel
theorem dX10_yard_22 : decode cX10_yard 22 = .ok (.bipush 6, 2) := by decide +kernel
theorem dX10_yard_24 : decode cX10_yard 24 = .ok (.if_icmp .ne 7, 3) := by decide +kernel
theorem dX10_yard_27 : decode cX10_yard 27 = .ok (.iconst 0, 1) := by decide +kernel
theorem dX10_yard_28 : decode cX10_yard 28 = .ok (.goto 18, 3) := by decide +kernel
theorem dX10_yard_31 : decode cX10_yard 31 = .ok (.iload_n 3, 1) := by decide +kernel
theorem dX10_yard_32 : decode cX10_yard 32 = .ok (.iconst 2, 1) := by decide +kernel
theorem dX10_yard_33 : decode cX10_yard 33 = .ok (.if_icmp .eq 8, 3) := by decide +kernel
theorem dX10_yard_36 : decode cX10_yard 36 = .ok (.iload_n 3, 1) := by decide +kernel
theorem dX10_yard_37 : decode cX10_yard 37 = .ok (.iconst 5, 1) := by decide +kernel
theorem dX10_yard_38 : decode cX10_yard 38 = .ok (.if_icmp .ne 7, 3) := by decide +kernel
theorem dX10_yard_41 : decode cX10_yard 41 = .ok (.iconst 2, 1) := by decide +kernel
theorem dX10_yard_42 : decode cX10_yard 42 = .ok (.goto 4, 3) := by decide +kernel
theorem dX10_yard_45 : decode cX10_yard 45 = .ok (.iconst 1, 1) := by decide +kernel
theorem dX10_yard_46 : decode cX10_yard 46 = .ok (.istore 4, 2) := by decide +kernel
theorem dX10_yard_48 : decode cX10_yard 48 = .ok (.aload_n 0, 1) := by decide +kernel
theorem dX10_yard_49 : decode cX10_yard 49 = .ok (.iload_n 1, 1) := by decide +kernel
theorem dX10_yard_50 : decode cX10_yard 50 = .ok (.iconst 4, 1) := by decide +kernel
theorem dX10_yard_51 : decode cX10_yard 51 = .ok (.aload_n 0, 1) := by decide +kernel
theorem dX10_yard_52 : decode cX10_yard 52 = .ok (.iload_n 1, 1) := by decide +kernel
theorem dX10_yard_53 : decode cX10_yard 53 = .ok (.iconst 4, 1) := by decide +kernel
theorem dX10_yard_54 : decode cX10_yard 54 = .ok (.invokevirtual 78, 3) := by decide +kernel
theorem dX10_yard_57 : decode cX10_yard 57 = .ok (.iload_n 2, 1) := by decide +kernel
theorem dX10_yard_58 : decode cX10_yard 58 = .ok (.iadd, 1) := by decide +kernel
theorem dX10_yard_59 : decode cX10_yard 59 = .ok (.iconst 0, 1) := by decide +kernel
theorem dX10_yard_60 : decode cX10_yard 60 = .ok (.sipush 9999, 3) := by decide +kernel
theorem dX10_yard_63 : decode cX10_yard 63 = .ok (.invokestatic 149, 3) := by decide +kernel
theorem dX10_yard_66 : decode cX10_yard 66 = .ok (.invokevirtual 58, 3) := by decide +kernel
theorem dX10_yard_69 : decode cX10_yard 69 = .ok (.aload_n 0, 1) := by decide +kernel
theorem dX10_yard_70 : decode cX10_yard 70 = .ok (.iload_n 1, 1) := by decide +kernel
theorem dX10_yard_71 : decode cX10_yard 71 = .ok (.iconst 3, 1) := by decide +kernel
theorem dX10_yard_72 : decode cX10_yard 72 = .ok (.aload_n 0, 1) := by decide +kernel
theorem dX10_yard_73 : decode cX10_yard 73 = .ok (.iload_n 1, 1) := by decide +kernel
theorem dX10_yard_74 : decode cX10_yard 74 = .ok (.iconst 3, 1) := by decide +kernel
theorem dX10_yard_75 : decode cX10_yard 75 = .ok (.invokevirtual 78, 3) := by decide +kernel
theorem dX10_yard_78 : decode cX10_yard 78 = .ok (.iconst 1, 1) := by decide +kernel
theorem dX10_yard_79 : decode cX10_yard 79 = .ok (.iadd, 1) := by decide +kernel
theorem dX10_yard_80 : decode cX10_yard 80 = .ok (.iconst 0, 1) := by decide +kernel
theorem dX10_yard_81 : decode cX10_yard 81 = .ok (.sipush 9999, 3) := by decide +kernel
theorem dX10_yard_84 : decode cX10_yard 84 = .ok (.invokestatic 149, 3) := by decide +kernel
theorem dX10_yard_87 : decode cX10_yard 87 = .ok (.invokevirtual 58, 3) := by decide +kernel
theorem dX10_yard_90 : decode cX10_yard 90 = .ok (.aload_n 0, 1) := by decide +kernel
theorem dX10_yard_91 : decode cX10_yard 91 = .ok (.getfield 7, 3) := by decide +kernel
theorem dX10_yard_94 : decode cX10_yard 94 = .ok (.bipush 11, 2) := by decide +kernel
theorem dX10_yard_96 : decode cX10_yard 96 = .ok (.aload_n 0, 1) := by decide +kernel
theorem dX10_yard_97 : decode cX10_yard 97 = .ok (.getfield 7, 3) := by decide +kernel
theorem dX10_yard_100 : decode cX10_yard 100 = .ok (.bipush 11, 2) := by decide +kernel
theorem dX10_yard_102 : decode cX10_yard 102 = .ok (.iaload, 1) := by decide +kernel
theorem dX10_yard_103 : decode cX10_yard 103 = .ok (.iload 4, 2) := by decide +kernel
theorem dX10_yard_105 : decode cX10_yard 105 = .ok (.iadd, 1) := by decide +kernel
theorem dX10_yard_106 : decode cX10_yard 106 = .ok (.iconst 0, 1) := by decide +kernel
theorem dX10_yard_107 : decode cX10_yard 107 = .ok (.bipush 99, 2) := by decide +kernel
theorem dX10_yard_109 : decode cX10_yard 109 = .ok (.invokestatic 149, 3) := by decide +kernel
theorem dX10_yard_112 : decode cX10_yard 112 = .ok (.iastore, 1) := by decide +kernel
theorem dX10_yard_113 : decode cX10_yard 113 = .ok (.aload_n 0, 1) := by decide +kernel
theorem dX10_yard_114 : decode cX10_yard 114 = .ok (.getfield 7, 3) := by decide +kernel
theorem dX10_yard_117 : decode cX10_yard 117 = .ok (.iconst 0, 1) := by decide +kernel
theorem dX10_yard_118 : decode cX10_yard 118 = .ok (.dup2, 1) := by decide +kernel
theorem dX10_yard_119 : decode cX10_yard 119 = .ok (.iaload, 1) := by decide +kernel
theorem dX10_yard_120 : decode cX10_yard 120 = .ok (.bipush 10, 2) := by decide +kernel
theorem dX10_yard_122 : decode cX10_yard 122 = .ok (.aload_n 0, 1) := by decide +kernel
theorem dX10_yard_123 : decode cX10_yard 123 = .ok (.getfield 7, 3) := by decide +kernel
theorem dX10_yard_126 : decode cX10_yard 126 = .ok (.bipush 12, 2) := by decide +kernel
theorem dX10_yard_128 : decode cX10_yard 128 = .ok (.iaload, 1) := by decide +kernel
theorem dX10_yard_129 : decode cX10_yard 129 = .ok (.isub, 1) := by decide +kernel
theorem dX10_yard_130 : decode cX10_yard 130 = .ok (.iadd, 1) := by decide +kernel
theorem dX10_yard_131 : decode cX10_yard 131 = .ok (.iastore, 1) := by decide +kernel
theorem dX10_yard_132 : decode cX10_yard 132 = .ok (.iload_n 2, 1) := by decide +kernel
theorem dX10_yard_133 : decode cX10_yard 133 = .ok (.ireturn, 1) := by decide +kernel
theorem dX10_sews_0 : decode cX10_sews 0 = .ok (.iconst 0, 1) := by decide +kernel
theorem dX10_sews_1 : decode cX10_sews 1 = .ok (.istore_n 3, 1) := by decide +kernel
theorem dX10_sews_2 : decode cX10_sews 2 = .ok (.iconst 0, 1) := by decide +kernel
theorem dX10_sews_3 : decode cX10_sews 3 = .ok (.istore 4, 2) := by decide +kernel
theorem dX10_sews_5 : decode cX10_sews 5 = .ok (.iload 4, 2) := by decide +kernel
theorem dX10_sews_7 : decode cX10_sews 7 = .ok (.iload_n 2, 1) := by decide +kernel
theorem dX10_sews_8 : decode cX10_sews 8 = .ok (.if_icmp .ge 17, 3) := by decide +kernel
theorem dX10_sews_11 : decode cX10_sews 11 = .ok (.iload_n 3, 1) := by decide +kernel
theorem dX10_sews_12 : decode cX10_sews 12 = .ok (.aload_n 0, 1) := by decide +kernel
theorem dX10_sews_13 : decode cX10_sews 13 = .ok (.iload_n 1, 1) := by decide +kernel
theorem dX10_sews_14 : decode cX10_sews 14 = .ok (.invokevirtual 165, 3) := by decide +kernel
theorem dX10_sews_17 : decode cX10_sews 17 = .ok (.iadd, 1) := by decide +kernel
theorem dX10_sews_18 : decode cX10_sews 18 = .ok (.istore_n 3, 1) := by decide +kernel
theorem dX10_sews_19 : decode cX10_sews 19 = .ok (.iinc 4 1, 3) := by decide +kernel
theorem dX10_sews_22 : decode cX10_sews 22 = .ok (.goto (-17), 3) := by decide +kernel
theorem dX10_sews_25 : decode cX10_sews 25 = .ok (.iload_n 3, 1) := by decide +kernel
theorem dX10_sews_26 : decode cX10_sews 26 = .ok (.ireturn, 1) := by decide +kernel
theorem dX10_sew_0 : decode cX10_sew 0 = .ok (.aload_n 0, 1) := by decide +kernel
theorem dX10_sew_1 : decode cX10_sew 1 = .ok (.iload_n 1, 1) := by decide +kernel
theorem dX10_sew_2 : decode cX10_sew 2 = .ok (.invokevirtual 62, 3) := by decide +kernel
theorem dX10_sew_5 : decode cX10_sew 5 = .ok (.ifCond .eq 14, 3) := by decide +kernel
theorem dX10_sew_8 : decode cX10_sew 8 = .ok (.iload_n 2, 1) := by decide +kernel
theorem dX10_sew_9 : decode cX10_sew 9 = .ok (.iconst 1, 1) := by decide +kernel
theorem dX10_sew_10 : decode cX10_sew 10 = .ok (.sipush 200, 3) := by decide +kernel
theorem dX10_sew_13 : decode cX10_sew 13 = .ok (.invokestatic 44, 3) := by decide +kernel
theorem dX10_sew_16 : decode cX10_sew 16 = .ok (.ifCond .ne 10, 3) := by decide +kernel
theorem dX10_sew_19 : decode cX10_sew 19 = .ok (.aload_n 0, 1) := by decide +kernel
theorem dX10_sew_20 : decode cX10_sew 20 = .ok (.ldc 48, 2) := by decide +kernel
theorem dX10_sew_22 : decode cX10_sew 22 = .ok (.invokevirtual 49, 3) := by decide +kernel
theorem dX10_sew_25 : decode cX10_sew 25 = .ok (.ireturn, 1) := by decide +kernel
theorem dX10_sew_26 : decode cX10_sew 26 = .ok (.aload_n 0, 1) := by decide +kernel
theorem dX10_sew_27 : decode cX10_sew 27 = .ok (.getfield 7, 3) := by decide +kernel
theorem dX10_sew_30 : decode cX10_sew 30 = .ok (.iconst 0, 1) := by decide +kernel
theorem dX10_sew_31 : decode cX10_sew 31 = .ok (.iaload, 1) := by decide +kernel
theorem dX10_sew_32 : decode cX10_sew 32 = .ok (.iload_n 2, 1) := by decide +kernel
theorem dX10_sew_33 : decode cX10_sew 33 = .ok (.bipush 10, 2) := by decide +kernel
theorem dX10_sew_35 : decode cX10_sew 35 = .ok (.aload_n 0, 1) := by decide +kernel
theorem dX10_sew_36 : decode cX10_sew 36 = .ok (.getfield 7, 3) := by decide +kernel
theorem dX10_sew_39 : decode cX10_sew 39 = .ok (.bipush 12, 2) := by decide +kernel
theorem dX10_sew_41 : decode cX10_sew 41 = .ok (.iaload, 1) := by decide +kernel
theorem dX10_sew_42 : decode cX10_sew 42 = .ok (.isub, 1) := by decide +kernel
theorem dX10_sew_43 : decode cX10_sew 43 = .ok (.imul, 1) := by decide +kernel
theorem dX10_sew_44 : decode cX10_sew 44 = .ok (.iadd, 1) := by decide +kernel
theorem dX10_sew_45 : decode cX10_sew 45 = .ok (.ldc 168, 2) := by decide +kernel
theorem dX10_sew_47 : decode cX10_sew 47 = .ok (.if_icmp .le 12, 3) := by decide +kernel
theorem dX10_sew_50 : decode cX10_sew 50 = .ok (.aload_n 0, 1) := by decide +kernel
theorem dX10_sew_51 : decode cX10_sew 51 = .ok (.ldc 169, 2) := by decide +kernel
theorem dX10_sew_53 : decode cX10_sew 53 = .ok (.invokevirtual 49, 3) := by decide +kernel
theorem dX10_sew_56 : decode cX10_sew 56 = .ok (.goto 9, 3) := by decide +kernel
theorem dX10_sew_59 : decode cX10_sew 59 = .ok (.aload_n 0, 1) := by decide +kernel
theorem dX10_sew_60 : decode cX10_sew 60 = .ok (.iload_n 1, 1) := by decide +kernel
theorem dX10_sew_61 : decode cX10_sew 61 = .ok (.iload_n 2, 1) := by decide +kernel
theorem dX10_sew_62 : decode cX10_sew 62 = .ok (.invokevirtual 170, 3) := by decide +kernel
theorem dX10_sew_65 : decode cX10_sew 65 = .ok (.ireturn, 1) := by decide +kernel
theorem dX10_lasts_0 : decode cX10_lasts 0 = .ok (.iload_n 0, 1) := by decide +kernel
theorem dX10_lasts_1 : decode cX10_lasts 1 = .ok (.ifCond .ne 8, 3) := by decide +kernel
theorem dX10_lasts_4 : decode cX10_lasts 4 = .ok (.bipush 11, 2) := by decide +kernel
theorem dX10_lasts_6 : decode cX10_lasts 6 = .ok (.goto 33, 3) := by decide +kernel
theorem dX10_lasts_9 : decode cX10_lasts 9 = .ok (.iload_n 0, 1) := by decide +kernel
theorem dX10_lasts_10 : decode cX10_lasts 10 = .ok (.iconst 1, 1) := by decide +kernel
theorem dX10_lasts_11 : decode cX10_lasts 11 = .ok (.if_icmp .ne 8, 3) := by decide +kernel
theorem dX10_lasts_14 : decode cX10_lasts 14 = .ok (.bipush 20, 2) := by decide +kernel
theorem dX10_lasts_16 : decode cX10_lasts 16 = .ok (.goto 23, 3) := by decide +kernel
theorem dX10_lasts_19 : decode cX10_lasts 19 = .ok (.iload_n 0, 1) := by decide +kernel
theorem dX10_lasts_20 : decode cX10_lasts 20 = .ok (.iconst 2, 1) := by decide +kernel
theorem dX10_lasts_21 : decode cX10_lasts 21 = .ok (.if_icmp .ne 8, 3) := by decide +kernel
theorem dX10_lasts_24 : decode cX10_lasts 24 = .ok (.bipush 9, 2) := by decide +kernel
theorem dX10_lasts_26 : decode cX10_lasts 26 = .ok (.goto 13, 3) := by decide +kernel
theorem dX10_lasts_29 : decode cX10_lasts 29 = .ok (.iload_n 0, 1) := by decide +kernel
theorem dX10_lasts_30 : decode cX10_lasts 30 = .ok (.iconst 5, 1) := by decide +kernel
theorem dX10_lasts_31 : decode cX10_lasts 31 = .ok (.if_icmp .ge 7, 3) := by decide +kernel
theorem dX10_lasts_34 : decode cX10_lasts 34 = .ok (.iconst 2, 1) := by decide +kernel
theorem dX10_lasts_35 : decode cX10_lasts 35 = .ok (.goto 4, 3) := by decide +kernel
theorem dX10_lasts_38 : decode cX10_lasts 38 = .ok (.iconst 5, 1) := by decide +kernel
theorem dX10_lasts_39 : decode cX10_lasts 39 = .ok (.ireturn, 1) := by decide +kernel
theorem dX10_canDo_0 : decode cX10_canDo 0 = .ok (.iload_n 1, 1) := by decide +kernel
theorem dX10_canDo_1 : decode cX10_canDo 1 = .ok (.iconst 3, 1) := by decide +kernel
theorem dX10_canDo_2 : decode cX10_canDo 2 = .ok (.if_icmp .ne 23, 3) := by decide +kernel
theorem dX10_canDo_5 : decode cX10_canDo 5 = .ok (.aload_n 0, 1) := by decide +kernel
theorem dX10_canDo_6 : decode cX10_canDo 6 = .ok (.getfield 7, 3) := by decide +kernel
theorem dX10_canDo_9 : decode cX10_canDo 9 = .ok (.bipush 8, 2) := by decide +kernel
theorem dX10_canDo_11 : decode cX10_canDo 11 = .ok (.iaload, 1) := by decide +kernel
theorem dX10_canDo_12 : decode cX10_canDo 12 = .ok (.bipush 9, 2) := by decide +kernel
theorem dX10_canDo_14 : decode cX10_canDo 14 = .ok (.if_icmp .ge 7, 3) := by decide +kernel
theorem dX10_canDo_17 : decode cX10_canDo 17 = .ok (.iconst 1, 1) := by decide +kernel
theorem dX10_canDo_18 : decode cX10_canDo 18 = .ok (.goto 76, 3) := by decide +kernel
theorem dX10_canDo_21 : decode cX10_canDo 21 = .ok (.iconst 0, 1) := by decide +kernel
theorem dX10_canDo_22 : decode cX10_canDo 22 = .ok (.goto 72, 3) := by decide +kernel
theorem dX10_canDo_25 : decode cX10_canDo 25 = .ok (.iload_n 1, 1) := by decide +kernel
theorem dX10_canDo_26 : decode cX10_canDo 26 = .ok (.iconst 4, 1) := by decide +kernel
theorem dX10_canDo_27 : decode cX10_canDo 27 = .ok (.if_icmp .ne 21, 3) := by decide +kernel
theorem dX10_canDo_30 : decode cX10_canDo 30 = .ok (.aload_n 0, 1) := by decide +kernel
theorem dX10_canDo_31 : decode cX10_canDo 31 = .ok (.getfield 7, 3) := by decide +kernel
theorem dX10_canDo_34 : decode cX10_canDo 34 = .ok (.bipush 8, 2) := by decide +kernel
theorem dX10_canDo_36 : decode cX10_canDo 36 = .ok (.iaload, 1) := by decide +kernel
theorem dX10_canDo_37 : decode cX10_canDo 37 = .ok (.ifCond .le 7, 3) := by decide +kernel
theorem dX10_canDo_40 : decode cX10_canDo 40 = .ok (.iconst 1, 1) := by decide +kernel
theorem dX10_canDo_41 : decode cX10_canDo 41 = .ok (.goto 53, 3) := by decide +kernel
theorem dX10_canDo_44 : decode cX10_canDo 44 = .ok (.iconst 0, 1) := by decide +kernel
theorem dX10_canDo_45 : decode cX10_canDo 45 = .ok (.goto 49, 3) := by decide +kernel
theorem dX10_canDo_48 : decode cX10_canDo 48 = .ok (.iload_n 1, 1) := by decide +kernel
theorem dX10_canDo_49 : decode cX10_canDo 49 = .ok (.iconst 5, 1) := by decide +kernel
theorem dX10_canDo_50 : decode cX10_canDo 50 = .ok (.if_icmp .ne 23, 3) := by decide +kernel
theorem dX10_canDo_53 : decode cX10_canDo 53 = .ok (.aload_n 0, 1) := by decide +kernel
theorem dX10_canDo_54 : decode cX10_canDo 54 = .ok (.getfield 7, 3) := by decide +kernel
theorem dX10_canDo_57 : decode cX10_canDo 57 = .ok (.bipush 9, 2) := by decide +kernel
theorem dX10_canDo_59 : decode cX10_canDo 59 = .ok (.iaload, 1) := by decide +kernel
theorem dX10_canDo_60 : decode cX10_canDo 60 = .ok (.bipush 9, 2) := by decide +kernel
theorem dX10_canDo_62 : decode cX10_canDo 62 = .ok (.if_icmp .ge 7, 3) := by decide +kernel
theorem dX10_canDo_65 : decode cX10_canDo 65 = .ok (.iconst 1, 1) := by decide +kernel
theorem dX10_canDo_66 : decode cX10_canDo 66 = .ok (.goto 28, 3) := by decide +kernel
theorem dX10_canDo_69 : decode cX10_canDo 69 = .ok (.iconst 0, 1) := by decide +kernel
theorem dX10_canDo_70 : decode cX10_canDo 70 = .ok (.goto 24, 3) := by decide +kernel
theorem dX10_canDo_73 : decode cX10_canDo 73 = .ok (.iload_n 1, 1) := by decide +kernel
theorem dX10_canDo_74 : decode cX10_canDo 74 = .ok (.bipush 6, 2) := by decide +kernel
theorem dX10_canDo_76 : decode cX10_canDo 76 = .ok (.if_icmp .ne 13, 3) := by decide +kernel
theorem dX10_canDo_79 : decode cX10_canDo 79 = .ok (.aload_n 0, 1) := by decide +kernel
theorem dX10_canDo_80 : decode cX10_canDo 80 = .ok (.getfield 7, 3) := by decide +kernel
theorem dX10_canDo_83 : decode cX10_canDo 83 = .ok (.bipush 9, 2) := by decide +kernel
theorem dX10_canDo_85 : decode cX10_canDo 85 = .ok (.iaload, 1) := by decide +kernel
theorem dX10_canDo_86 : decode cX10_canDo 86 = .ok (.ifCond .le 7, 3) := by decide +kernel
theorem dX10_canDo_89 : decode cX10_canDo 89 = .ok (.iconst 1, 1) := by decide +kernel
theorem dX10_canDo_90 : decode cX10_canDo 90 = .ok (.goto 4, 3) := by decide +kernel
theorem dX10_canDo_93 : decode cX10_canDo 93 = .ok (.iconst 0, 1) := by decide +kernel
theorem dX10_canDo_94 : decode cX10_canDo 94 = .ok (.ireturn, 1) := by decide +kernel
theorem dX10_does_0 : decode cX10_does 0 = .ok (.iload_n 1, 1) := by decide +kernel
theorem dX10_does_1 : decode cX10_does 1 = .ok (.tableswitch 114 0 5 #[39, 50, 61, 72, 86, 100], 39) := by decide +kernel
theorem dX10_does_40 : decode cX10_does 40 = .ok (.aload_n 0, 1) := by decide +kernel
theorem dX10_does_41 : decode cX10_does 41 = .ok (.getfield 7, 3) := by decide +kernel
theorem dX10_does_44 : decode cX10_does 44 = .ok (.bipush 7, 2) := by decide +kernel
theorem dX10_does_46 : decode cX10_does 46 = .ok (.iconst 0, 1) := by decide +kernel
theorem dX10_does_47 : decode cX10_does 47 = .ok (.iastore, 1) := by decide +kernel
theorem dX10_does_48 : decode cX10_does 48 = .ok (.goto 78, 3) := by decide +kernel
theorem dX10_does_51 : decode cX10_does 51 = .ok (.aload_n 0, 1) := by decide +kernel
theorem dX10_does_52 : decode cX10_does 52 = .ok (.getfield 7, 3) := by decide +kernel
theorem dX10_does_55 : decode cX10_does 55 = .ok (.bipush 10, 2) := by decide +kernel
theorem dX10_does_57 : decode cX10_does 57 = .ok (.iconst 0, 1) := by decide +kernel
theorem dX10_does_58 : decode cX10_does 58 = .ok (.iastore, 1) := by decide +kernel
theorem dX10_does_59 : decode cX10_does 59 = .ok (.goto 67, 3) := by decide +kernel
theorem dX10_does_62 : decode cX10_does 62 = .ok (.aload_n 0, 1) := by decide +kernel
theorem dX10_does_63 : decode cX10_does 63 = .ok (.getfield 7, 3) := by decide +kernel
theorem dX10_does_66 : decode cX10_does 66 = .ok (.bipush 11, 2) := by decide +kernel
theorem dX10_does_68 : decode cX10_does 68 = .ok (.iconst 0, 1) := by decide +kernel
theorem dX10_does_69 : decode cX10_does 69 = .ok (.iastore, 1) := by decide +kernel
theorem dX10_does_70 : decode cX10_does 70 = .ok (.goto 56, 3) := by decide +kernel
theorem dX10_does_73 : decode cX10_does 73 = .ok (.aload_n 0, 1) := by decide +kernel
theorem dX10_does_74 : decode cX10_does 74 = .ok (.getfield 7, 3) := by decide +kernel
theorem dX10_does_77 : decode cX10_does 77 = .ok (.bipush 8, 2) := by decide +kernel
theorem dX10_does_79 : decode cX10_does 79 = .ok (.dup2, 1) := by decide +kernel
theorem dX10_does_80 : decode cX10_does 80 = .ok (.iaload, 1) := by decide +kernel
theorem dX10_does_81 : decode cX10_does 81 = .ok (.iconst 1, 1) := by decide +kernel
theorem dX10_does_82 : decode cX10_does 82 = .ok (.iadd, 1) := by decide +kernel
theorem dX10_does_83 : decode cX10_does 83 = .ok (.iastore, 1) := by decide +kernel
theorem dX10_does_84 : decode cX10_does 84 = .ok (.goto 42, 3) := by decide +kernel
theorem dX10_does_87 : decode cX10_does 87 = .ok (.aload_n 0, 1) := by decide +kernel
theorem dX10_does_88 : decode cX10_does 88 = .ok (.getfield 7, 3) := by decide +kernel
theorem dX10_does_91 : decode cX10_does 91 = .ok (.bipush 8, 2) := by decide +kernel
theorem dX10_does_93 : decode cX10_does 93 = .ok (.dup2, 1) := by decide +kernel
theorem dX10_does_94 : decode cX10_does 94 = .ok (.iaload, 1) := by decide +kernel
theorem dX10_does_95 : decode cX10_does 95 = .ok (.iconst 1, 1) := by decide +kernel
theorem dX10_does_96 : decode cX10_does 96 = .ok (.isub, 1) := by decide +kernel
theorem dX10_does_97 : decode cX10_does 97 = .ok (.iastore, 1) := by decide +kernel
theorem dX10_does_98 : decode cX10_does 98 = .ok (.goto 28, 3) := by decide +kernel
theorem dX10_does_101 : decode cX10_does 101 = .ok (.aload_n 0, 1) := by decide +kernel
theorem dX10_does_102 : decode cX10_does 102 = .ok (.getfield 7, 3) := by decide +kernel
theorem dX10_does_105 : decode cX10_does 105 = .ok (.bipush 9, 2) := by decide +kernel
theorem dX10_does_107 : decode cX10_does 107 = .ok (.dup2, 1) := by decide +kernel
theorem dX10_does_108 : decode cX10_does 108 = .ok (.iaload, 1) := by decide +kernel
theorem dX10_does_109 : decode cX10_does 109 = .ok (.iconst 1, 1) := by decide +kernel
theorem dX10_does_110 : decode cX10_does 110 = .ok (.iadd, 1) := by decide +kernel
theorem dX10_does_111 : decode cX10_does 111 = .ok (.iastore, 1) := by decide +kernel
theorem dX10_does_112 : decode cX10_does 112 = .ok (.goto 14, 3) := by decide +kernel
theorem dX10_does_115 : decode cX10_does 115 = .ok (.aload_n 0, 1) := by decide +kernel
theorem dX10_does_116 : decode cX10_does 116 = .ok (.getfield 7, 3) := by decide +kernel
theorem dX10_does_119 : decode cX10_does 119 = .ok (.bipush 9, 2) := by decide +kernel
theorem dX10_does_121 : decode cX10_does 121 = .ok (.dup2, 1) := by decide +kernel
theorem dX10_does_122 : decode cX10_does 122 = .ok (.iaload, 1) := by decide +kernel
theorem dX10_does_123 : decode cX10_does 123 = .ok (.iconst 1, 1) := by decide +kernel
theorem dX10_does_124 : decode cX10_does 124 = .ok (.isub, 1) := by decide +kernel
theorem dX10_does_125 : decode cX10_does 125 = .ok (.iastore, 1) := by decide +kernel
theorem dX10_does_126 : decode cX10_does 126 = .ok (.aload_n 0, 1) := by decide +kernel
theorem dX10_does_127 : decode cX10_does 127 = .ok (.getfield 7, 3) := by decide +kernel
theorem dX10_does_130 : decode cX10_does 130 = .ok (.iconst 0, 1) := by decide +kernel
theorem dX10_does_131 : decode cX10_does 131 = .ok (.dup2, 1) := by decide +kernel
theorem dX10_does_132 : decode cX10_does 132 = .ok (.iaload, 1) := by decide +kernel
theorem dX10_does_133 : decode cX10_does 133 = .ok (.iload_n 1, 1) := by decide +kernel
theorem dX10_does_134 : decode cX10_does 134 = .ok (.invokestatic 173, 3) := by decide +kernel
theorem dX10_does_137 : decode cX10_does 137 = .ok (.iadd, 1) := by decide +kernel
theorem dX10_does_138 : decode cX10_does 138 = .ok (.iastore, 1) := by decide +kernel
theorem dX10_does_139 : decode cX10_does 139 = .ok (.return_, 1) := by decide +kernel
theorem dX10_deed_0 : decode cX10_deed 0 = .ok (.iload_n 1, 1) := by decide +kernel
theorem dX10_deed_1 : decode cX10_deed 1 = .ok (.iconst 0, 1) := by decide +kernel
theorem dX10_deed_2 : decode cX10_deed 2 = .ok (.bipush 6, 2) := by decide +kernel
theorem dX10_deed_4 : decode cX10_deed 4 = .ok (.invokestatic 44, 3) := by decide +kernel
theorem dX10_deed_7 : decode cX10_deed 7 = .ok (.ifCond .ne 10, 3) := by decide +kernel
theorem dX10_deed_10 : decode cX10_deed 10 = .ok (.aload_n 0, 1) := by decide +kernel
theorem dX10_deed_11 : decode cX10_deed 11 = .ok (.ldc 48, 2) := by decide +kernel
theorem dX10_deed_13 : decode cX10_deed 13 = .ok (.invokevirtual 49, 3) := by decide +kernel
theorem dX10_deed_16 : decode cX10_deed 16 = .ok (.ireturn, 1) := by decide +kernel
theorem dX10_deed_17 : decode cX10_deed 17 = .ok (.aload_n 0, 1) := by decide +kernel
theorem dX10_deed_18 : decode cX10_deed 18 = .ok (.iload_n 1, 1) := by decide +kernel
theorem dX10_deed_19 : decode cX10_deed 19 = .ok (.invokevirtual 176, 3) := by decide +kernel
theorem dX10_deed_22 : decode cX10_deed 22 = .ok (.ifCond .eq 19, 3) := by decide +kernel
theorem dX10_deed_25 : decode cX10_deed 25 = .ok (.aload_n 0, 1) := by decide +kernel
theorem dX10_deed_26 : decode cX10_deed 26 = .ok (.getfield 7, 3) := by decide +kernel
theorem dX10_deed_29 : decode cX10_deed 29 = .ok (.iconst 0, 1) := by decide +kernel
theorem dX10_deed_30 : decode cX10_deed 30 = .ok (.iaload, 1) := by decide +kernel
theorem dX10_deed_31 : decode cX10_deed 31 = .ok (.iload_n 1, 1) := by decide +kernel
theorem dX10_deed_32 : decode cX10_deed 32 = .ok (.invokestatic 173, 3) := by decide +kernel
theorem dX10_deed_35 : decode cX10_deed 35 = .ok (.iadd, 1) := by decide +kernel
theorem dX10_deed_36 : decode cX10_deed 36 = .ok (.ldc 168, 2) := by decide +kernel
theorem dX10_deed_38 : decode cX10_deed 38 = .ok (.if_icmp .le 10, 3) := by decide +kernel
theorem dX10_deed_41 : decode cX10_deed 41 = .ok (.aload_n 0, 1) := by decide +kernel
theorem dX10_deed_42 : decode cX10_deed 42 = .ok (.ldc 169, 2) := by decide +kernel
theorem dX10_deed_44 : decode cX10_deed 44 = .ok (.invokevirtual 49, 3) := by decide +kernel
theorem dX10_deed_47 : decode cX10_deed 47 = .ok (.ireturn, 1) := by decide +kernel
theorem dX10_deed_48 : decode cX10_deed 48 = .ok (.aload_n 0, 1) := by decide +kernel
theorem dX10_deed_49 : decode cX10_deed 49 = .ok (.iload_n 1, 1) := by decide +kernel
theorem dX10_deed_50 : decode cX10_deed 50 = .ok (.invokevirtual 179, 3) := by decide +kernel
theorem dX10_deed_53 : decode cX10_deed 53 = .ok (.aload_n 0, 1) := by decide +kernel
theorem dX10_deed_54 : decode cX10_deed 54 = .ok (.getfield 7, 3) := by decide +kernel
theorem dX10_deed_57 : decode cX10_deed 57 = .ok (.iconst 0, 1) := by decide +kernel
theorem dX10_deed_58 : decode cX10_deed 58 = .ok (.iaload, 1) := by decide +kernel
theorem dX10_deed_59 : decode cX10_deed 59 = .ok (.ireturn, 1) := by decide +kernel
theorem dX10_drawn_0 : decode cX10_drawn 0 = .ok (.aload_n 0, 1) := by decide +kernel
theorem dX10_drawn_1 : decode cX10_drawn 1 = .ok (.getfield 7, 3) := by decide +kernel
theorem dX10_drawn_4 : decode cX10_drawn 4 = .ok (.iconst 1, 1) := by decide +kernel
theorem dX10_drawn_5 : decode cX10_drawn 5 = .ok (.aload_n 0, 1) := by decide +kernel
theorem dX10_drawn_6 : decode cX10_drawn 6 = .ok (.getfield 7, 3) := by decide +kernel
theorem dX10_drawn_9 : decode cX10_drawn 9 = .ok (.iconst 1, 1) := by decide +kernel
theorem dX10_drawn_10 : decode cX10_drawn 10 = .ok (.iaload, 1) := by decide +kernel
theorem dX10_drawn_11 : decode cX10_drawn 11 = .ok (.ldc 183, 2) := by decide +kernel
theorem dX10_drawn_13 : decode cX10_drawn 13 = .ok (.imul, 1) := by decide +kernel
theorem dX10_drawn_14 : decode cX10_drawn 14 = .ok (.sipush 12345, 3) := by decide +kernel
theorem dX10_drawn_17 : decode cX10_drawn 17 = .ok (.iadd, 1) := by decide +kernel
theorem dX10_drawn_18 : decode cX10_drawn 18 = .ok (.iastore, 1) := by decide +kernel
theorem dX10_drawn_19 : decode cX10_drawn 19 = .ok (.aload_n 0, 1) := by decide +kernel
theorem dX10_drawn_20 : decode cX10_drawn 20 = .ok (.getfield 7, 3) := by decide +kernel
theorem dX10_drawn_23 : decode cX10_drawn 23 = .ok (.iconst 1, 1) := by decide +kernel
theorem dX10_drawn_24 : decode cX10_drawn 24 = .ok (.iaload, 1) := by decide +kernel
theorem dX10_drawn_25 : decode cX10_drawn 25 = .ok (.bipush 8, 2) := by decide +kernel
theorem dX10_drawn_27 : decode cX10_drawn 27 = .ok (.iushr, 1) := by decide +kernel
theorem dX10_drawn_28 : decode cX10_drawn 28 = .ok (.iload_n 1, 1) := by decide +kernel
theorem dX10_drawn_29 : decode cX10_drawn 29 = .ok (.irem, 1) := by decide +kernel
theorem dX10_drawn_30 : decode cX10_drawn 30 = .ok (.ireturn, 1) := by decide +kernel
theorem dX10_loose_0 : decode cX10_loose 0 = .ok (.iload_n 1, 1) := by decide +kernel
theorem dX10_loose_1 : decode cX10_loose 1 = .ok (.iconst 1, 1) := by decide +kernel
theorem dX10_loose_2 : decode cX10_loose 2 = .ok (.bipush 40, 2) := by decide +kernel
theorem dX10_loose_4 : decode cX10_loose 4 = .ok (.invokestatic 44, 3) := by decide +kernel
theorem dX10_loose_7 : decode cX10_loose 7 = .ok (.ifCond .ne 10, 3) := by decide +kernel
theorem dX10_loose_10 : decode cX10_loose 10 = .ok (.aload_n 0, 1) := by decide +kernel
theorem dX10_loose_11 : decode cX10_loose 11 = .ok (.ldc 48, 2) := by decide +kernel
theorem dX10_loose_13 : decode cX10_loose 13 = .ok (.invokevirtual 49, 3) := by decide +kernel
theorem dX10_loose_16 : decode cX10_loose 16 = .ok (.ireturn, 1) := by decide +kernel
theorem dX10_loose_17 : decode cX10_loose 17 = .ok (.aload_n 0, 1) := by decide +kernel
theorem dX10_loose_18 : decode cX10_loose 18 = .ok (.getfield 7, 3) := by decide +kernel
theorem dX10_loose_21 : decode cX10_loose 21 = .ok (.iconst 0, 1) := by decide +kernel
theorem dX10_loose_22 : decode cX10_loose 22 = .ok (.iaload, 1) := by decide +kernel
theorem dX10_loose_23 : decode cX10_loose 23 = .ok (.bipush 30, 2) := by decide +kernel
theorem dX10_loose_25 : decode cX10_loose 25 = .ok (.iload_n 1, 1) := by decide +kernel
theorem dX10_loose_26 : decode cX10_loose 26 = .ok (.imul, 1) := by decide +kernel
theorem dX10_loose_27 : decode cX10_loose 27 = .ok (.iadd, 1) := by decide +kernel
theorem dX10_loose_28 : decode cX10_loose 28 = .ok (.ldc 168, 2) := by decide +kernel
theorem dX10_loose_30 : decode cX10_loose 30 = .ok (.if_icmp .le 10, 3) := by decide +kernel
theorem dX10_loose_33 : decode cX10_loose 33 = .ok (.aload_n 0, 1) := by decide +kernel
theorem dX10_loose_34 : decode cX10_loose 34 = .ok (.ldc 169, 2) := by decide +kernel
theorem dX10_loose_36 : decode cX10_loose 36 = .ok (.invokevirtual 49, 3) := by decide +kernel
theorem dX10_loose_39 : decode cX10_loose 39 = .ok (.ireturn, 1) := by decide +kernel
theorem dX10_loose_40 : decode cX10_loose 40 = .ok (.iconst 0, 1) := by decide +kernel
theorem dX10_loose_41 : decode cX10_loose 41 = .ok (.istore_n 2, 1) := by decide +kernel
theorem dX10_loose_42 : decode cX10_loose 42 = .ok (.iconst 0, 1) := by decide +kernel
theorem dX10_loose_43 : decode cX10_loose 43 = .ok (.istore_n 3, 1) := by decide +kernel
theorem dX10_loose_44 : decode cX10_loose 44 = .ok (.iload_n 3, 1) := by decide +kernel
theorem dX10_loose_45 : decode cX10_loose 45 = .ok (.iload_n 1, 1) := by decide +kernel
theorem dX10_loose_46 : decode cX10_loose 46 = .ok (.if_icmp .ge 79, 3) := by decide +kernel
theorem dX10_loose_49 : decode cX10_loose 49 = .ok (.aload_n 0, 1) := by decide +kernel
theorem dX10_loose_50 : decode cX10_loose 50 = .ok (.bipush 7, 2) := by decide +kernel
theorem dX10_loose_52 : decode cX10_loose 52 = .ok (.invokevirtual 184, 3) := by decide +kernel
theorem dX10_loose_55 : decode cX10_loose 55 = .ok (.istore 4, 2) := by decide +kernel
theorem dX10_loose_57 : decode cX10_loose 57 = .ok (.aload_n 0, 1) := by decide +kernel
theorem dX10_loose_58 : decode cX10_loose 58 = .ok (.aload_n 0, 1) := by decide +kernel
theorem dX10_loose_59 : decode cX10_loose 59 = .ok (.getfield 7, 3) := by decide +kernel
theorem dX10_loose_62 : decode cX10_loose 62 = .ok (.iconst 2, 1) := by decide +kernel
theorem dX10_loose_63 : decode cX10_loose 63 = .ok (.iaload, 1) := by decide +kernel
theorem dX10_loose_64 : decode cX10_loose 64 = .ok (.ifCond .le 12, 3) := by decide +kernel
theorem dX10_loose_67 : decode cX10_loose 67 = .ok (.aload_n 0, 1) := by decide +kernel
theorem dX10_loose_68 : decode cX10_loose 68 = .ok (.getfield 7, 3) := by decide +kernel
theorem dX10_loose_71 : decode cX10_loose 71 = .ok (.iconst 2, 1) := by decide +kernel
theorem dX10_loose_72 : decode cX10_loose 72 = .ok (.iaload, 1) := by decide +kernel
theorem dX10_loose_73 : decode cX10_loose 73 = .ok (.goto 4, 3) := by decide +kernel
theorem dX10_loose_76 : decode cX10_loose 76 = .ok (.iconst 1, 1) := by decide +kernel
theorem dX10_loose_77 : decode cX10_loose 77 = .ok (.invokevirtual 184, 3) := by decide +kernel
theorem dX10_loose_80 : decode cX10_loose 80 = .ok (.istore 5, 2) := by decide +kernel
theorem dX10_loose_82 : decode cX10_loose 82 = .ok (.aload_n 0, 1) := by decide +kernel
theorem dX10_loose_83 : decode cX10_loose 83 = .ok (.iload 4, 2) := by decide +kernel
theorem dX10_loose_85 : decode cX10_loose 85 = .ok (.invokevirtual 176, 3) := by decide +kernel
theorem dX10_loose_88 : decode cX10_loose 88 = .ok (.ifCond .eq 9, 3) := by decide +kernel
theorem dX10_loose_91 : decode cX10_loose 91 = .ok (.aload_n 0, 1) := by decide +kernel
theorem dX10_loose_92 : decode cX10_loose 92 = .ok (.iload 4, 2) := by decide +kernel
theorem dX10_loose_94 : decode cX10_loose 94 = .ok (.invokevirtual 179, 3) := by decide +kernel
theorem dX10_loose_97 : decode cX10_loose 97 = .ok (.iload_n 2, 1) := by decide +kernel
theorem dX10_loose_98 : decode cX10_loose 98 = .ok (.aload_n 0, 1) := by decide +kernel
theorem dX10_loose_99 : decode cX10_loose 99 = .ok (.getfield 7, 3) := by decide +kernel
theorem dX10_loose_102 : decode cX10_loose 102 = .ok (.iconst 2, 1) := by decide +kernel
theorem dX10_loose_103 : decode cX10_loose 103 = .ok (.iaload, 1) := by decide +kernel
theorem dX10_loose_104 : decode cX10_loose 104 = .ok (.ifCond .le 12, 3) := by decide +kernel
theorem dX10_loose_107 : decode cX10_loose 107 = .ok (.aload_n 0, 1) := by decide +kernel
theorem dX10_loose_108 : decode cX10_loose 108 = .ok (.iload 5, 2) := by decide +kernel
theorem dX10_loose_110 : decode cX10_loose 110 = .ok (.invokevirtual 165, 3) := by decide +kernel
theorem dX10_loose_113 : decode cX10_loose 113 = .ok (.goto 4, 3) := by decide +kernel
theorem dX10_loose_116 : decode cX10_loose 116 = .ok (.iconst 0, 1) := by decide +kernel
theorem dX10_loose_117 : decode cX10_loose 117 = .ok (.iadd, 1) := by decide +kernel
theorem dX10_loose_118 : decode cX10_loose 118 = .ok (.istore_n 2, 1) := by decide +kernel
theorem dX10_loose_119 : decode cX10_loose 119 = .ok (.iinc 3 1, 3) := by decide +kernel
theorem dX10_loose_122 : decode cX10_loose 122 = .ok (.goto (-78), 3) := by decide +kernel
theorem dX10_loose_125 : decode cX10_loose 125 = .ok (.iload_n 2, 1) := by decide +kernel
theorem dX10_loose_126 : decode cX10_loose 126 = .ok (.ireturn, 1) := by decide +kernel
theorem dX10_after_0 : decode cX10_after 0 = .ok (.aload_n 0, 1) := by decide +kernel
theorem dX10_after_1 : decode cX10_after 1 = .ok (.iload_n 1, 1) := by decide +kernel
theorem dX10_after_2 : decode cX10_after 2 = .ok (.invokevirtual 62, 3) := by decide +kernel
theorem dX10_after_5 : decode cX10_after 5 = .ok (.ifCond .eq 14, 3) := by decide +kernel
theorem dX10_after_8 : decode cX10_after 8 = .ok (.iload_n 2, 1) := by decide +kernel
theorem dX10_after_9 : decode cX10_after 9 = .ok (.iconst 0, 1) := by decide +kernel
theorem dX10_after_10 : decode cX10_after 10 = .ok (.sipush 200, 3) := by decide +kernel
theorem dX10_after_13 : decode cX10_after 13 = .ok (.invokestatic 44, 3) := by decide +kernel
theorem dX10_after_16 : decode cX10_after 16 = .ok (.ifCond .ne 10, 3) := by decide +kernel
theorem dX10_after_19 : decode cX10_after 19 = .ok (.aload_n 0, 1) := by decide +kernel
theorem dX10_after_20 : decode cX10_after 20 = .ok (.ldc 48, 2) := by decide +kernel
theorem dX10_after_22 : decode cX10_after 22 = .ok (.invokevirtual 49, 3) := by decide +kernel
theorem dX10_after_25 : decode cX10_after 25 = .ok (.ireturn, 1) := by decide +kernel
theorem dX10_after_26 : decode cX10_after 26 = .ok (.aload_n 0, 1) := by decide +kernel
theorem dX10_after_27 : decode cX10_after 27 = .ok (.aload_n 0, 1) := by decide +kernel
theorem dX10_after_28 : decode cX10_after 28 = .ok (.getfield 7, 3) := by decide +kernel
theorem dX10_after_31 : decode cX10_after 31 = .ok (.aload_n 0, 1) := by decide +kernel
theorem dX10_after_32 : decode cX10_after 32 = .ok (.getfield 16, 3) := by decide +kernel
theorem dX10_after_35 : decode cX10_after 35 = .ok (.invokevirtual 158, 3) := by decide +kernel
theorem dX10_after_38 : decode cX10_after 38 = .ok (.aload_n 0, 1) := by decide +kernel
theorem dX10_after_39 : decode cX10_after 39 = .ok (.iload_n 1, 1) := by decide +kernel
theorem dX10_after_40 : decode cX10_after 40 = .ok (.iload_n 2, 1) := by decide +kernel
theorem dX10_after_41 : decode cX10_after 41 = .ok (.invokevirtual 170, 3) := by decide +kernel
theorem dX10_after_44 : decode cX10_after 44 = .ok (.istore_n 3, 1) := by decide +kernel
theorem dX10_after_45 : decode cX10_after 45 = .ok (.iload_n 3, 1) := by decide +kernel
theorem dX10_after_46 : decode cX10_after 46 = .ok (.ifCond .ge 7, 3) := by decide +kernel
theorem dX10_after_49 : decode cX10_after 49 = .ok (.iconst 0, 1) := by decide +kernel
theorem dX10_after_50 : decode cX10_after 50 = .ok (.goto 8, 3) := by decide +kernel
theorem dX10_after_53 : decode cX10_after 53 = .ok (.aload_n 0, 1) := by decide +kernel
theorem dX10_after_54 : decode cX10_after 54 = .ok (.iload_n 1, 1) := by decide +kernel
theorem dX10_after_55 : decode cX10_after 55 = .ok (.invokevirtual 75, 3) := by decide +kernel
theorem dX10_after_58 : decode cX10_after 58 = .ok (.istore 4, 2) := by decide +kernel
theorem dX10_after_60 : decode cX10_after 60 = .ok (.aload_n 0, 1) := by decide +kernel
theorem dX10_after_61 : decode cX10_after 61 = .ok (.aload_n 0, 1) := by decide +kernel
theorem dX10_after_62 : decode cX10_after 62 = .ok (.getfield 16, 3) := by decide +kernel
theorem dX10_after_65 : decode cX10_after 65 = .ok (.aload_n 0, 1) := by decide +kernel
theorem dX10_after_66 : decode cX10_after 66 = .ok (.getfield 7, 3) := by decide +kernel
theorem dX10_after_69 : decode cX10_after 69 = .ok (.invokevirtual 158, 3) := by decide +kernel
theorem dX10_after_72 : decode cX10_after 72 = .ok (.iload 4, 2) := by decide +kernel
theorem dX10_after_74 : decode cX10_after 74 = .ok (.ireturn, 1) := by decide +kernel
theorem dX10_until_0 : decode cX10_until 0 = .ok (.aload_n 0, 1) := by decide +kernel
theorem dX10_until_1 : decode cX10_until 1 = .ok (.iload_n 1, 1) := by decide +kernel
theorem dX10_until_2 : decode cX10_until 2 = .ok (.invokevirtual 62, 3) := by decide +kernel
theorem dX10_until_5 : decode cX10_until 5 = .ok (.ifCond .ne 10, 3) := by decide +kernel
theorem dX10_until_8 : decode cX10_until 8 = .ok (.aload_n 0, 1) := by decide +kernel
theorem dX10_until_9 : decode cX10_until 9 = .ok (.ldc 48, 2) := by decide +kernel
theorem dX10_until_11 : decode cX10_until 11 = .ok (.invokevirtual 49, 3) := by decide +kernel
theorem dX10_until_14 : decode cX10_until 14 = .ok (.ireturn, 1) := by decide +kernel
theorem dX10_until_15 : decode cX10_until 15 = .ok (.aload_n 0, 1) := by decide +kernel
theorem dX10_until_16 : decode cX10_until 16 = .ok (.iload_n 1, 1) := by decide +kernel
theorem dX10_until_17 : decode cX10_until 17 = .ok (.invokevirtual 75, 3) := by decide +kernel
theorem dX10_until_20 : decode cX10_until 20 = .ok (.istore_n 2, 1) := by decide +kernel
theorem dX10_until_21 : decode cX10_until 21 = .ok (.aload_n 0, 1) := by decide +kernel
theorem dX10_until_22 : decode cX10_until 22 = .ok (.aload_n 0, 1) := by decide +kernel
theorem dX10_until_23 : decode cX10_until 23 = .ok (.getfield 7, 3) := by decide +kernel
theorem dX10_until_26 : decode cX10_until 26 = .ok (.aload_n 0, 1) := by decide +kernel
theorem dX10_until_27 : decode cX10_until 27 = .ok (.getfield 16, 3) := by decide +kernel
theorem dX10_until_30 : decode cX10_until 30 = .ok (.invokevirtual 158, 3) := by decide +kernel
theorem dX10_until_33 : decode cX10_until 33 = .ok (.iconst 0, 1) := by decide +kernel
theorem dX10_until_34 : decode cX10_until 34 = .ok (.istore_n 3, 1) := by decide +kernel
theorem dX10_until_35 : decode cX10_until 35 = .ok (.iload_n 3, 1) := by decide +kernel
theorem dX10_until_36 : decode cX10_until 36 = .ok (.sipush 200, 3) := by decide +kernel
theorem dX10_until_39 : decode cX10_until 39 = .ok (.if_icmp .gt 31, 3) := by decide +kernel
theorem dX10_until_42 : decode cX10_until 42 = .ok (.aload_n 0, 1) := by decide +kernel
theorem dX10_until_43 : decode cX10_until 43 = .ok (.iload_n 1, 1) := by decide +kernel
theorem dX10_until_44 : decode cX10_until 44 = .ok (.invokevirtual 75, 3) := by decide +kernel
theorem dX10_until_47 : decode cX10_until 47 = .ok (.iload_n 2, 1) := by decide +kernel
theorem dX10_until_48 : decode cX10_until 48 = .ok (.if_icmp .ne 22, 3) := by decide +kernel
theorem dX10_until_51 : decode cX10_until 51 = .ok (.iload_n 3, 1) := by decide +kernel
theorem dX10_until_52 : decode cX10_until 52 = .ok (.aload_n 0, 1) := by decide +kernel
theorem dX10_until_53 : decode cX10_until 53 = .ok (.iload_n 1, 1) := by decide +kernel
theorem dX10_until_54 : decode cX10_until 54 = .ok (.invokevirtual 165, 3) := by decide +kernel
theorem dX10_until_57 : decode cX10_until 57 = .ok (.ifCond .ge 7, 3) := by decide +kernel
theorem dX10_until_60 : decode cX10_until 60 = .ok (.iconst 0, 1) := by decide +kernel
theorem dX10_until_61 : decode cX10_until 61 = .ok (.goto 4, 3) := by decide +kernel
theorem dX10_until_64 : decode cX10_until 64 = .ok (.iconst 1, 1) := by decide +kernel
theorem dX10_until_65 : decode cX10_until 65 = .ok (.iadd, 1) := by decide +kernel
theorem dX10_until_66 : decode cX10_until 66 = .ok (.istore_n 3, 1) := by decide +kernel
theorem dX10_until_67 : decode cX10_until 67 = .ok (.goto (-32), 3) := by decide +kernel
theorem dX10_until_70 : decode cX10_until 70 = .ok (.aload_n 0, 1) := by decide +kernel
theorem dX10_until_71 : decode cX10_until 71 = .ok (.aload_n 0, 1) := by decide +kernel
theorem dX10_until_72 : decode cX10_until 72 = .ok (.getfield 16, 3) := by decide +kernel
theorem dX10_until_75 : decode cX10_until 75 = .ok (.aload_n 0, 1) := by decide +kernel
theorem dX10_until_76 : decode cX10_until 76 = .ok (.getfield 7, 3) := by decide +kernel
theorem dX10_until_79 : decode cX10_until 79 = .ok (.invokevirtual 158, 3) := by decide +kernel
theorem dX10_until_82 : decode cX10_until 82 = .ok (.iload_n 3, 1) := by decide +kernel
theorem dX10_until_83 : decode cX10_until 83 = .ok (.sipush 200, 3) := by decide +kernel
theorem dX10_until_86 : decode cX10_until 86 = .ok (.if_icmp .le 12, 3) := by decide +kernel
theorem dX10_until_89 : decode cX10_until 89 = .ok (.aload_n 0, 1) := by decide +kernel
theorem dX10_until_90 : decode cX10_until 90 = .ok (.ldc 187, 2) := by decide +kernel
theorem dX10_until_92 : decode cX10_until 92 = .ok (.invokevirtual 49, 3) := by decide +kernel
theorem dX10_until_95 : decode cX10_until 95 = .ok (.goto 4, 3) := by decide +kernel
theorem dX10_until_98 : decode cX10_until 98 = .ok (.iload_n 3, 1) := by decide +kernel
theorem dX10_until_99 : decode cX10_until 99 = .ok (.ireturn, 1) := by decide +kernel
theorem dX10_apart_0 : decode cX10_apart 0 = .ok (.iload_n 0, 1) := by decide +kernel
theorem dX10_apart_1 : decode cX10_apart 1 = .ok (.iload_n 1, 1) := by decide +kernel
theorem dX10_apart_2 : decode cX10_apart 2 = .ok (.if_icmp .ge 9, 3) := by decide +kernel
theorem dX10_apart_5 : decode cX10_apart 5 = .ok (.iload_n 1, 1) := by decide +kernel
theorem dX10_apart_6 : decode cX10_apart 6 = .ok (.iload_n 0, 1) := by decide +kernel
theorem dX10_apart_7 : decode cX10_apart 7 = .ok (.isub, 1) := by decide +kernel
theorem dX10_apart_8 : decode cX10_apart 8 = .ok (.goto 6, 3) := by decide +kernel
theorem dX10_apart_11 : decode cX10_apart 11 = .ok (.iload_n 0, 1) := by decide +kernel
theorem dX10_apart_12 : decode cX10_apart 12 = .ok (.iload_n 1, 1) := by decide +kernel
theorem dX10_apart_13 : decode cX10_apart 13 = .ok (.isub, 1) := by decide +kernel
theorem dX10_apart_14 : decode cX10_apart 14 = .ok (.ireturn, 1) := by decide +kernel
theorem dX10_cure_0 : decode cX10_cure 0 = .ok (.aload_n 0, 1) := by decide +kernel
theorem dX10_cure_1 : decode cX10_cure 1 = .ok (.iload_n 1, 1) := by decide +kernel
theorem dX10_cure_2 : decode cX10_cure 2 = .ok (.invokevirtual 62, 3) := by decide +kernel
theorem dX10_cure_5 : decode cX10_cure 5 = .ok (.ifCond .eq 12, 3) := by decide +kernel
theorem dX10_cure_8 : decode cX10_cure 8 = .ok (.iload_n 2, 1) := by decide +kernel
theorem dX10_cure_9 : decode cX10_cure 9 = .ok (.iconst 0, 1) := by decide +kernel
theorem dX10_cure_10 : decode cX10_cure 10 = .ok (.iconst 1, 1) := by decide +kernel
theorem dX10_cure_11 : decode cX10_cure 11 = .ok (.invokestatic 44, 3) := by decide +kernel
theorem dX10_cure_14 : decode cX10_cure 14 = .ok (.ifCond .ne 10, 3) := by decide +kernel
theorem dX10_cure_17 : decode cX10_cure 17 = .ok (.aload_n 0, 1) := by decide +kernel
theorem dX10_cure_18 : decode cX10_cure 18 = .ok (.ldc 48, 2) := by decide +kernel
theorem dX10_cure_20 : decode cX10_cure 20 = .ok (.invokevirtual 49, 3) := by decide +kernel
theorem dX10_cure_23 : decode cX10_cure 23 = .ok (.ireturn, 1) := by decide +kernel
theorem dX10_cure_24 : decode cX10_cure 24 = .ok (.iconst (-1), 1) := by decide +kernel
theorem dX10_cure_25 : decode cX10_cure 25 = .ok (.istore_n 3, 1) := by decide +kernel
theorem dX10_cure_26 : decode cX10_cure 26 = .ok (.iconst 0, 1) := by decide +kernel
theorem dX10_cure_27 : decode cX10_cure 27 = .ok (.istore 4, 2) := by decide +kernel
theorem dX10_cure_29 : decode cX10_cure 29 = .ok (.aload_n 0, 1) := by decide +kernel
theorem dX10_cure_30 : decode cX10_cure 30 = .ok (.aload_n 0, 1) := by decide +kernel
theorem dX10_cure_31 : decode cX10_cure 31 = .ok (.getfield 7, 3) := by decide +kernel
theorem dX10_cure_34 : decode cX10_cure 34 = .ok (.aload_n 0, 1) := by decide +kernel
theorem dX10_cure_35 : decode cX10_cure 35 = .ok (.getfield 16, 3) := by decide +kernel
theorem dX10_cure_38 : decode cX10_cure 38 = .ok (.invokevirtual 158, 3) := by decide +kernel
theorem dX10_cure_41 : decode cX10_cure 41 = .ok (.iconst 0, 1) := by decide +kernel
theorem dX10_cure_42 : decode cX10_cure 42 = .ok (.istore 5, 2) := by decide +kernel
theorem dX10_cure_44 : decode cX10_cure 44 = .ok (.iload 5, 2) := by decide +kernel
theorem dX10_cure_46 : decode cX10_cure 46 = .ok (.sipush 800, 3) := by decide +kernel
theorem dX10_cure_49 : decode cX10_cure 49 = .ok (.if_icmp .ge 185, 3) := by decide +kernel
theorem dX10_cure_52 : decode cX10_cure 52 = .ok (.iload 5, 2) := by decide +kernel
theorem dX10_cure_54 : decode cX10_cure 54 = .ok (.bipush 100, 2) := by decide +kernel
theorem dX10_cure_56 : decode cX10_cure 56 = .ok (.idiv, 1) := by decide +kernel
theorem dX10_cure_57 : decode cX10_cure 57 = .ok (.istore 6, 2) := by decide +kernel
theorem dX10_cure_59 : decode cX10_cure 59 = .ok (.iconst 2, 1) := by decide +kernel
theorem dX10_cure_60 : decode cX10_cure 60 = .ok (.aload_n 0, 1) := by decide +kernel
theorem dX10_cure_61 : decode cX10_cure 61 = .ok (.getfield 7, 3) := by decide +kernel
theorem dX10_cure_64 : decode cX10_cure 64 = .ok (.bipush 8, 2) := by decide +kernel
theorem dX10_cure_66 : decode cX10_cure 66 = .ok (.iaload, 1) := by decide +kernel
theorem dX10_cure_67 : decode cX10_cure 67 = .ok (.iload 5, 2) := by decide +kernel
theorem dX10_cure_69 : decode cX10_cure 69 = .ok (.bipush 10, 2) := by decide +kernel
theorem dX10_cure_71 : decode cX10_cure 71 = .ok (.idiv, 1) := by decide +kernel
theorem dX10_cure_72 : decode cX10_cure 72 = .ok (.bipush 10, 2) := by decide +kernel
theorem dX10_cure_74 : decode cX10_cure 74 = .ok (.irem, 1) := by decide +kernel
theorem dX10_cure_75 : decode cX10_cure 75 = .ok (.invokestatic 188, 3) := by decide +kernel
theorem dX10_cure_78 : decode cX10_cure 78 = .ok (.imul, 1) := by decide +kernel
theorem dX10_cure_79 : decode cX10_cure 79 = .ok (.iconst 5, 1) := by decide +kernel
theorem dX10_cure_80 : decode cX10_cure 80 = .ok (.aload_n 0, 1) := by decide +kernel
theorem dX10_cure_81 : decode cX10_cure 81 = .ok (.getfield 7, 3) := by decide +kernel
theorem dX10_cure_84 : decode cX10_cure 84 = .ok (.bipush 9, 2) := by decide +kernel
theorem dX10_cure_86 : decode cX10_cure 86 = .ok (.iaload, 1) := by decide +kernel
theorem dX10_cure_87 : decode cX10_cure 87 = .ok (.iload 5, 2) := by decide +kernel
theorem dX10_cure_89 : decode cX10_cure 89 = .ok (.bipush 10, 2) := by decide +kernel
theorem dX10_cure_91 : decode cX10_cure 91 = .ok (.irem, 1) := by decide +kernel
theorem dX10_cure_92 : decode cX10_cure 92 = .ok (.invokestatic 188, 3) := by decide +kernel
theorem dX10_cure_95 : decode cX10_cure 95 = .ok (.imul, 1) := by decide +kernel
theorem dX10_cure_96 : decode cX10_cure 96 = .ok (.iadd, 1) := by decide +kernel
theorem dX10_cure_97 : decode cX10_cure 97 = .ok (.istore 7, 2) := by decide +kernel
theorem dX10_cure_99 : decode cX10_cure 99 = .ok (.iconst 0, 1) := by decide +kernel
theorem dX10_cure_100 : decode cX10_cure 100 = .ok (.istore 8, 2) := by decide +kernel
theorem dX10_cure_102 : decode cX10_cure 102 = .ok (.iload 8, 2) := by decide +kernel
theorem dX10_cure_104 : decode cX10_cure 104 = .ok (.iconst 3, 1) := by decide +kernel
theorem dX10_cure_105 : decode cX10_cure 105 = .ok (.if_icmp .ge 36, 3) := by decide +kernel
theorem dX10_cure_108 : decode cX10_cure 108 = .ok (.iload 6, 2) := by decide +kernel
theorem dX10_cure_110 : decode cX10_cure 110 = .ok (.iload 8, 2) := by decide +kernel
theorem dX10_cure_112 : decode cX10_cure 112 = .ok (.ishr, 1) := by decide +kernel
theorem dX10_cure_113 : decode cX10_cure 113 = .ok (.iconst 1, 1) := by decide +kernel
theorem dX10_cure_114 : decode cX10_cure 114 = .ok (.iand, 1) := by decide +kernel
theorem dX10_cure_115 : decode cX10_cure 115 = .ok (.iconst 1, 1) := by decide +kernel
theorem dX10_cure_116 : decode cX10_cure 116 = .ok (.if_icmp .ne 19, 3) := by decide +kernel
theorem dX10_cure_119 : decode cX10_cure 119 = .ok (.aload_n 0, 1) := by decide +kernel
theorem dX10_cure_120 : decode cX10_cure 120 = .ok (.iload 8, 2) := by decide +kernel
theorem dX10_cure_122 : decode cX10_cure 122 = .ok (.invokevirtual 179, 3) := by decide +kernel
theorem dX10_cure_125 : decode cX10_cure 125 = .ok (.iload 7, 2) := by decide +kernel
theorem dX10_cure_127 : decode cX10_cure 127 = .ok (.iload 8, 2) := by decide +kernel
theorem dX10_cure_129 : decode cX10_cure 129 = .ok (.invokestatic 173, 3) := by decide +kernel
theorem dX10_cure_132 : decode cX10_cure 132 = .ok (.iadd, 1) := by decide +kernel
theorem dX10_cure_133 : decode cX10_cure 133 = .ok (.istore 7, 2) := by decide +kernel
theorem dX10_cure_135 : decode cX10_cure 135 = .ok (.iinc 8 1, 3) := by decide +kernel
theorem dX10_cure_138 : decode cX10_cure 138 = .ok (.goto (-36), 3) := by decide +kernel
theorem dX10_cure_141 : decode cX10_cure 141 = .ok (.aload_n 0, 1) := by decide +kernel
theorem dX10_cure_142 : decode cX10_cure 142 = .ok (.getfield 7, 3) := by decide +kernel
theorem dX10_cure_145 : decode cX10_cure 145 = .ok (.bipush 8, 2) := by decide +kernel
theorem dX10_cure_147 : decode cX10_cure 147 = .ok (.iload 5, 2) := by decide +kernel
theorem dX10_cure_149 : decode cX10_cure 149 = .ok (.bipush 10, 2) := by decide +kernel
theorem dX10_cure_151 : decode cX10_cure 151 = .ok (.idiv, 1) := by decide +kernel
theorem dX10_cure_152 : decode cX10_cure 152 = .ok (.bipush 10, 2) := by decide +kernel
theorem dX10_cure_154 : decode cX10_cure 154 = .ok (.irem, 1) := by decide +kernel
theorem dX10_cure_155 : decode cX10_cure 155 = .ok (.iastore, 1) := by decide +kernel
theorem dX10_cure_156 : decode cX10_cure 156 = .ok (.aload_n 0, 1) := by decide +kernel
theorem dX10_cure_157 : decode cX10_cure 157 = .ok (.getfield 7, 3) := by decide +kernel
theorem dX10_cure_160 : decode cX10_cure 160 = .ok (.bipush 9, 2) := by decide +kernel
theorem dX10_cure_162 : decode cX10_cure 162 = .ok (.iload 5, 2) := by decide +kernel
theorem dX10_cure_164 : decode cX10_cure 164 = .ok (.bipush 10, 2) := by decide +kernel
theorem dX10_cure_166 : decode cX10_cure 166 = .ok (.irem, 1) := by decide +kernel
theorem dX10_cure_167 : decode cX10_cure 167 = .ok (.iastore, 1) := by decide +kernel
theorem dX10_cure_168 : decode cX10_cure 168 = .ok (.aload_n 0, 1) := by decide +kernel
theorem dX10_cure_169 : decode cX10_cure 169 = .ok (.iload_n 1, 1) := by decide +kernel
theorem dX10_cure_170 : decode cX10_cure 170 = .ok (.invokevirtual 75, 3) := by decide +kernel
theorem dX10_cure_173 : decode cX10_cure 173 = .ok (.ifCond .ne 7, 3) := by decide +kernel
theorem dX10_cure_176 : decode cX10_cure 176 = .ok (.iconst 1, 1) := by decide +kernel
theorem dX10_cure_177 : decode cX10_cure 177 = .ok (.goto 4, 3) := by decide +kernel
theorem dX10_cure_180 : decode cX10_cure 180 = .ok (.iconst 0, 1) := by decide +kernel
theorem dX10_cure_181 : decode cX10_cure 181 = .ok (.istore 8, 2) := by decide +kernel
theorem dX10_cure_183 : decode cX10_cure 183 = .ok (.aload_n 0, 1) := by decide +kernel
theorem dX10_cure_184 : decode cX10_cure 184 = .ok (.aload_n 0, 1) := by decide +kernel
theorem dX10_cure_185 : decode cX10_cure 185 = .ok (.getfield 16, 3) := by decide +kernel
theorem dX10_cure_188 : decode cX10_cure 188 = .ok (.aload_n 0, 1) := by decide +kernel
theorem dX10_cure_189 : decode cX10_cure 189 = .ok (.getfield 7, 3) := by decide +kernel
theorem dX10_cure_192 : decode cX10_cure 192 = .ok (.invokevirtual 158, 3) := by decide +kernel
theorem dX10_cure_195 : decode cX10_cure 195 = .ok (.iload 8, 2) := by decide +kernel
theorem dX10_cure_197 : decode cX10_cure 197 = .ok (.ifCond .eq 31, 3) := by decide +kernel
theorem dX10_cure_200 : decode cX10_cure 200 = .ok (.iload_n 3, 1) := by decide +kernel
theorem dX10_cure_201 : decode cX10_cure 201 = .ok (.ifCond .lt 10, 3) := by decide +kernel
theorem dX10_cure_204 : decode cX10_cure 204 = .ok (.iload 7, 2) := by decide +kernel
theorem dX10_cure_206 : decode cX10_cure 206 = .ok (.iload 4, 2) := by decide +kernel
theorem dX10_cure_208 : decode cX10_cure 208 = .ok (.if_icmp .ge 20, 3) := by decide +kernel
theorem dX10_cure_211 : decode cX10_cure 211 = .ok (.sipush 1000, 3) := by decide +kernel
theorem dX10_cure_214 : decode cX10_cure 214 = .ok (.iload 6, 2) := by decide +kernel
theorem dX10_cure_216 : decode cX10_cure 216 = .ok (.imul, 1) := by decide +kernel
theorem dX10_cure_217 : decode cX10_cure 217 = .ok (.iload 5, 2) := by decide +kernel
theorem dX10_cure_219 : decode cX10_cure 219 = .ok (.bipush 100, 2) := by decide +kernel
theorem dX10_cure_221 : decode cX10_cure 221 = .ok (.irem, 1) := by decide +kernel
theorem dX10_cure_222 : decode cX10_cure 222 = .ok (.iadd, 1) := by decide +kernel
theorem dX10_cure_223 : decode cX10_cure 223 = .ok (.istore_n 3, 1) := by decide +kernel
theorem dX10_cure_224 : decode cX10_cure 224 = .ok (.iload 7, 2) := by decide +kernel
theorem dX10_cure_226 : decode cX10_cure 226 = .ok (.istore 4, 2) := by decide +kernel
theorem dX10_cure_228 : decode cX10_cure 228 = .ok (.iinc 5 1, 3) := by decide +kernel
theorem dX10_cure_231 : decode cX10_cure 231 = .ok (.goto (-187), 3) := by decide +kernel
theorem dX10_cure_234 : decode cX10_cure 234 = .ok (.iload_n 3, 1) := by decide +kernel
theorem dX10_cure_235 : decode cX10_cure 235 = .ok (.ifCond .ge 10, 3) := by decide +kernel
theorem dX10_cure_238 : decode cX10_cure 238 = .ok (.aload_n 0, 1) := by decide +kernel
theorem dX10_cure_239 : decode cX10_cure 239 = .ok (.ldc 187, 2) := by decide +kernel
theorem dX10_cure_241 : decode cX10_cure 241 = .ok (.invokevirtual 49, 3) := by decide +kernel
theorem dX10_cure_244 : decode cX10_cure 244 = .ok (.ireturn, 1) := by decide +kernel
theorem dX10_cure_245 : decode cX10_cure 245 = .ok (.iload_n 2, 1) := by decide +kernel
theorem dX10_cure_246 : decode cX10_cure 246 = .ok (.ifCond .ne 8, 3) := by decide +kernel
theorem dX10_cure_249 : decode cX10_cure 249 = .ok (.iload 4, 2) := by decide +kernel
theorem dX10_cure_251 : decode cX10_cure 251 = .ok (.goto 4, 3) := by decide +kernel
theorem dX10_cure_254 : decode cX10_cure 254 = .ok (.iload_n 3, 1) := by decide +kernel
theorem dX10_cure_255 : decode cX10_cure 255 = .ok (.ireturn, 1) := by decide +kernel
theorem dX10_alone_0 : decode cX10_alone 0 = .ok (.aload_n 0, 1) := by decide +kernel
theorem dX10_alone_1 : decode cX10_alone 1 = .ok (.iload_n 1, 1) := by decide +kernel
theorem dX10_alone_2 : decode cX10_alone 2 = .ok (.invokevirtual 62, 3) := by decide +kernel
theorem dX10_alone_5 : decode cX10_alone 5 = .ok (.ifCond .ne 10, 3) := by decide +kernel
theorem dX10_alone_8 : decode cX10_alone 8 = .ok (.aload_n 0, 1) := by decide +kernel
theorem dX10_alone_9 : decode cX10_alone 9 = .ok (.ldc 48, 2) := by decide +kernel
theorem dX10_alone_11 : decode cX10_alone 11 = .ok (.invokevirtual 49, 3) := by decide +kernel
theorem dX10_alone_14 : decode cX10_alone 14 = .ok (.ireturn, 1) := by decide +kernel
theorem dX10_alone_15 : decode cX10_alone 15 = .ok (.iconst 0, 1) := by decide +kernel
theorem dX10_alone_16 : decode cX10_alone 16 = .ok (.istore_n 2, 1) := by decide +kernel
theorem dX10_alone_17 : decode cX10_alone 17 = .ok (.aload_n 0, 1) := by decide +kernel
theorem dX10_alone_18 : decode cX10_alone 18 = .ok (.aload_n 0, 1) := by decide +kernel
theorem dX10_alone_19 : decode cX10_alone 19 = .ok (.getfield 7, 3) := by decide +kernel
theorem dX10_alone_22 : decode cX10_alone 22 = .ok (.aload_n 0, 1) := by decide +kernel
theorem dX10_alone_23 : decode cX10_alone 23 = .ok (.getfield 16, 3) := by decide +kernel
theorem dX10_alone_26 : decode cX10_alone 26 = .ok (.invokevirtual 158, 3) := by decide +kernel
theorem dX10_alone_29 : decode cX10_alone 29 = .ok (.iconst 0, 1) := by decide +kernel
theorem dX10_alone_30 : decode cX10_alone 30 = .ok (.istore_n 3, 1) := by decide +kernel
theorem dX10_alone_31 : decode cX10_alone 31 = .ok (.iload_n 3, 1) := by decide +kernel
theorem dX10_alone_32 : decode cX10_alone 32 = .ok (.bipush 7, 2) := by decide +kernel
theorem dX10_alone_34 : decode cX10_alone 34 = .ok (.if_icmp .ge 52, 3) := by decide +kernel
theorem dX10_alone_37 : decode cX10_alone 37 = .ok (.aload_n 0, 1) := by decide +kernel
theorem dX10_alone_38 : decode cX10_alone 38 = .ok (.iload_n 3, 1) := by decide +kernel
theorem dX10_alone_39 : decode cX10_alone 39 = .ok (.invokevirtual 176, 3) := by decide +kernel
theorem dX10_alone_42 : decode cX10_alone 42 = .ok (.ifCond .eq 38, 3) := by decide +kernel
theorem dX10_alone_45 : decode cX10_alone 45 = .ok (.aload_n 0, 1) := by decide +kernel
theorem dX10_alone_46 : decode cX10_alone 46 = .ok (.iload_n 3, 1) := by decide +kernel
theorem dX10_alone_47 : decode cX10_alone 47 = .ok (.invokevirtual 179, 3) := by decide +kernel
theorem dX10_alone_50 : decode cX10_alone 50 = .ok (.iload_n 2, 1) := by decide +kernel
theorem dX10_alone_51 : decode cX10_alone 51 = .ok (.aload_n 0, 1) := by decide +kernel
theorem dX10_alone_52 : decode cX10_alone 52 = .ok (.iload_n 1, 1) := by decide +kernel
theorem dX10_alone_53 : decode cX10_alone 53 = .ok (.invokevirtual 75, 3) := by decide +kernel
theorem dX10_alone_56 : decode cX10_alone 56 = .ok (.ifCond .ne 9, 3) := by decide +kernel
theorem dX10_alone_59 : decode cX10_alone 59 = .ok (.iconst 1, 1) := by decide +kernel
theorem dX10_alone_60 : decode cX10_alone 60 = .ok (.iload_n 3, 1) := by decide +kernel
theorem dX10_alone_61 : decode cX10_alone 61 = .ok (.ishl, 1) := by decide +kernel
theorem dX10_alone_62 : decode cX10_alone 62 = .ok (.goto 4, 3) := by decide +kernel
theorem dX10_alone_65 : decode cX10_alone 65 = .ok (.iconst 0, 1) := by decide +kernel
theorem dX10_alone_66 : decode cX10_alone 66 = .ok (.ior, 1) := by decide +kernel
theorem dX10_alone_67 : decode cX10_alone 67 = .ok (.istore_n 2, 1) := by decide +kernel
theorem dX10_alone_68 : decode cX10_alone 68 = .ok (.aload_n 0, 1) := by decide +kernel
theorem dX10_alone_69 : decode cX10_alone 69 = .ok (.aload_n 0, 1) := by decide +kernel
theorem dX10_alone_70 : decode cX10_alone 70 = .ok (.getfield 16, 3) := by decide +kernel
theorem dX10_alone_73 : decode cX10_alone 73 = .ok (.aload_n 0, 1) := by decide +kernel
theorem dX10_alone_74 : decode cX10_alone 74 = .ok (.getfield 7, 3) := by decide +kernel
theorem dX10_alone_77 : decode cX10_alone 77 = .ok (.invokevirtual 158, 3) := by decide +kernel
theorem dX10_alone_80 : decode cX10_alone 80 = .ok (.iinc 3 1, 3) := by decide +kernel
theorem dX10_alone_83 : decode cX10_alone 83 = .ok (.goto (-52), 3) := by decide +kernel
theorem dX10_alone_86 : decode cX10_alone 86 = .ok (.iload_n 2, 1) := by decide +kernel
theorem dX10_alone_87 : decode cX10_alone 87 = .ok (.ireturn, 1) := by decide +kernel
theorem dX10_turnsTo_0 : decode cX10_turnsTo 0 = .ok (.aload_n 0, 1) := by decide +kernel
theorem dX10_turnsTo_1 : decode cX10_turnsTo 1 = .ok (.getfield 7, 3) := by decide +kernel
theorem dX10_turnsTo_4 : decode cX10_turnsTo 4 = .ok (.bipush 7, 2) := by decide +kernel
theorem dX10_turnsTo_6 : decode cX10_turnsTo 6 = .ok (.iload_n 1, 1) := by decide +kernel
theorem dX10_turnsTo_7 : decode cX10_turnsTo 7 = .ok (.sipush 300, 3) := by decide +kernel
theorem dX10_turnsTo_10 : decode cX10_turnsTo 10 = .ok (.idiv, 1) := by decide +kernel
theorem dX10_turnsTo_11 : decode cX10_turnsTo 11 = .ok (.iastore, 1) := by decide +kernel
theorem dX10_turnsTo_12 : decode cX10_turnsTo 12 = .ok (.aload_n 0, 1) := by decide +kernel
theorem dX10_turnsTo_13 : decode cX10_turnsTo 13 = .ok (.getfield 7, 3) := by decide +kernel
theorem dX10_turnsTo_16 : decode cX10_turnsTo 16 = .ok (.bipush 10, 2) := by decide +kernel
theorem dX10_turnsTo_18 : decode cX10_turnsTo 18 = .ok (.iload_n 1, 1) := by decide +kernel
theorem dX10_turnsTo_19 : decode cX10_turnsTo 19 = .ok (.bipush 100, 2) := by decide +kernel
theorem dX10_turnsTo_21 : decode cX10_turnsTo 21 = .ok (.idiv, 1) := by decide +kernel
theorem dX10_turnsTo_22 : decode cX10_turnsTo 22 = .ok (.iconst 3, 1) := by decide +kernel
theorem dX10_turnsTo_23 : decode cX10_turnsTo 23 = .ok (.irem, 1) := by decide +kernel
theorem dX10_turnsTo_24 : decode cX10_turnsTo 24 = .ok (.iastore, 1) := by decide +kernel
theorem dX10_turnsTo_25 : decode cX10_turnsTo 25 = .ok (.aload_n 0, 1) := by decide +kernel
theorem dX10_turnsTo_26 : decode cX10_turnsTo 26 = .ok (.getfield 7, 3) := by decide +kernel
theorem dX10_turnsTo_29 : decode cX10_turnsTo 29 = .ok (.bipush 8, 2) := by decide +kernel
theorem dX10_turnsTo_31 : decode cX10_turnsTo 31 = .ok (.iload_n 1, 1) := by decide +kernel
theorem dX10_turnsTo_32 : decode cX10_turnsTo 32 = .ok (.bipush 10, 2) := by decide +kernel
theorem dX10_turnsTo_34 : decode cX10_turnsTo 34 = .ok (.idiv, 1) := by decide +kernel
theorem dX10_turnsTo_35 : decode cX10_turnsTo 35 = .ok (.bipush 10, 2) := by decide +kernel
theorem dX10_turnsTo_37 : decode cX10_turnsTo 37 = .ok (.irem, 1) := by decide +kernel
theorem dX10_turnsTo_38 : decode cX10_turnsTo 38 = .ok (.iastore, 1) := by decide +kernel
theorem dX10_turnsTo_39 : decode cX10_turnsTo 39 = .ok (.aload_n 0, 1) := by decide +kernel
theorem dX10_turnsTo_40 : decode cX10_turnsTo 40 = .ok (.getfield 7, 3) := by decide +kernel
theorem dX10_turnsTo_43 : decode cX10_turnsTo 43 = .ok (.bipush 9, 2) := by decide +kernel
theorem dX10_turnsTo_45 : decode cX10_turnsTo 45 = .ok (.iload_n 1, 1) := by decide +kernel
theorem dX10_turnsTo_46 : decode cX10_turnsTo 46 = .ok (.bipush 10, 2) := by decide +kernel
theorem dX10_turnsTo_48 : decode cX10_turnsTo 48 = .ok (.irem, 1) := by decide +kernel
theorem dX10_turnsTo_49 : decode cX10_turnsTo 49 = .ok (.iastore, 1) := by decide +kernel
theorem dX10_turnsTo_50 : decode cX10_turnsTo 50 = .ok (.return_, 1) := by decide +kernel
theorem dX10_isSheet_0 : decode cX10_isSheet 0 = .ok (.iload_n 0, 1) := by decide +kernel
theorem dX10_isSheet_1 : decode cX10_isSheet 1 = .ok (.iconst 0, 1) := by decide +kernel
theorem dX10_isSheet_2 : decode cX10_isSheet 2 = .ok (.iconst 3, 1) := by decide +kernel
theorem dX10_isSheet_3 : decode cX10_isSheet 3 = .ok (.invokestatic 44, 3) := by decide +kernel
theorem dX10_isSheet_6 : decode cX10_isSheet 6 = .ok (.ireturn, 1) := by decide +kernel
theorem dX10_isShown_0 : decode cX10_isShown 0 = .ok (.iconst 1, 1) := by decide +kernel
theorem dX10_isShown_1 : decode cX10_isShown 1 = .ok (.istore_n 2, 1) := by decide +kernel
theorem dX10_isShown_2 : decode cX10_isShown 2 = .ok (.iconst 0, 1) := by decide +kernel
theorem dX10_isShown_3 : decode cX10_isShown 3 = .ok (.istore_n 3, 1) := by decide +kernel
theorem dX10_isShown_4 : decode cX10_isShown 4 = .ok (.iload_n 3, 1) := by decide +kernel
theorem dX10_isShown_5 : decode cX10_isShown 5 = .ok (.aload_n 0, 1) := by decide +kernel
theorem dX10_isShown_6 : decode cX10_isShown 6 = .ok (.getfield 7, 3) := by decide +kernel
theorem dX10_isShown_9 : decode cX10_isShown 9 = .ok (.iconst 2, 1) := by decide +kernel
theorem dX10_isShown_10 : decode cX10_isShown 10 = .ok (.iaload, 1) := by decide +kernel
theorem dX10_isShown_11 : decode cX10_isShown 11 = .ok (.if_icmp .ge 47, 3) := by decide +kernel
theorem dX10_isShown_14 : decode cX10_isShown 14 = .ok (.iload_n 2, 1) := by decide +kernel
theorem dX10_isShown_15 : decode cX10_isShown 15 = .ok (.ifCond .eq 43, 3) := by decide +kernel
theorem dX10_isShown_18 : decode cX10_isShown 18 = .ok (.aload_n 0, 1) := by decide +kernel
theorem dX10_isShown_19 : decode cX10_isShown 19 = .ok (.getfield 31, 3) := by decide +kernel
theorem dX10_isShown_22 : decode cX10_isShown 22 = .ok (.bipush 40, 2) := by decide +kernel
theorem dX10_isShown_24 : decode cX10_isShown 24 = .ok (.iload_n 1, 1) := by decide +kernel
theorem dX10_isShown_25 : decode cX10_isShown 25 = .ok (.imul, 1) := by decide +kernel
theorem dX10_isShown_26 : decode cX10_isShown 26 = .ok (.iload_n 3, 1) := by decide +kernel
theorem dX10_isShown_27 : decode cX10_isShown 27 = .ok (.iadd, 1) := by decide +kernel
theorem dX10_isShown_28 : decode cX10_isShown 28 = .ok (.iaload, 1) := by decide +kernel
theorem dX10_isShown_29 : decode cX10_isShown 29 = .ok (.istore 4, 2) := by decide +kernel
theorem dX10_isShown_31 : decode cX10_isShown 31 = .ok (.iload 4, 2) := by decide +kernel
theorem dX10_isShown_33 : decode cX10_isShown 33 = .ok (.ifCond .lt 13, 3) := by decide +kernel
theorem dX10_isShown_36 : decode cX10_isShown 36 = .ok (.iload 4, 2) := by decide +kernel
theorem dX10_isShown_38 : decode cX10_isShown 38 = .ok (.aload_n 0, 1) := by decide +kernel
theorem dX10_isShown_39 : decode cX10_isShown 39 = .ok (.iload_n 3, 1) := by decide +kernel
theorem dX10_isShown_40 : decode cX10_isShown 40 = .ok (.invokevirtual 75, 3) := by decide +kernel
theorem dX10_isShown_43 : decode cX10_isShown 43 = .ok (.if_icmp .ne 7, 3) := by decide +kernel
theorem dX10_isShown_46 : decode cX10_isShown 46 = .ok (.iconst 1, 1) := by decide +kernel
theorem dX10_isShown_47 : decode cX10_isShown 47 = .ok (.goto 4, 3) := by decide +kernel
theorem dX10_isShown_50 : decode cX10_isShown 50 = .ok (.iconst 0, 1) := by decide +kernel
theorem dX10_isShown_51 : decode cX10_isShown 51 = .ok (.istore_n 2, 1) := by decide +kernel
theorem dX10_isShown_52 : decode cX10_isShown 52 = .ok (.iinc 3 1, 3) := by decide +kernel
theorem dX10_isShown_55 : decode cX10_isShown 55 = .ok (.goto (-51), 3) := by decide +kernel
theorem dX10_isShown_58 : decode cX10_isShown 58 = .ok (.iload_n 2, 1) := by decide +kernel
theorem dX10_isShown_59 : decode cX10_isShown 59 = .ok (.ireturn, 1) := by decide +kernel
theorem dX10_canBe_0 : decode cX10_canBe 0 = .ok (.iload_n 1, 1) := by decide +kernel
theorem dX10_canBe_1 : decode cX10_canBe 1 = .ok (.invokestatic 191, 3) := by decide +kernel
theorem dX10_canBe_4 : decode cX10_canBe 4 = .ok (.ifCond .eq 12, 3) := by decide +kernel
theorem dX10_canBe_7 : decode cX10_canBe 7 = .ok (.iload_n 2, 1) := by decide +kernel
theorem dX10_canBe_8 : decode cX10_canBe 8 = .ok (.iconst 0, 1) := by decide +kernel
theorem dX10_canBe_9 : decode cX10_canBe 9 = .ok (.iconst 1, 1) := by decide +kernel
theorem dX10_canBe_10 : decode cX10_canBe 10 = .ok (.invokestatic 44, 3) := by decide +kernel
theorem dX10_canBe_13 : decode cX10_canBe 13 = .ok (.ifCond .ne 10, 3) := by decide +kernel
theorem dX10_canBe_16 : decode cX10_canBe 16 = .ok (.aload_n 0, 1) := by decide +kernel
theorem dX10_canBe_17 : decode cX10_canBe 17 = .ok (.ldc 48, 2) := by decide +kernel
theorem dX10_canBe_19 : decode cX10_canBe 19 = .ok (.invokevirtual 49, 3) := by decide +kernel
theorem dX10_canBe_22 : decode cX10_canBe 22 = .ok (.ireturn, 1) := by decide +kernel
theorem dX10_canBe_23 : decode cX10_canBe 23 = .ok (.aload_n 0, 1) := by decide +kernel
theorem dX10_canBe_24 : decode cX10_canBe 24 = .ok (.getfield 25, 3) := by decide +kernel
theorem dX10_canBe_27 : decode cX10_canBe 27 = .ok (.iload_n 1, 1) := by decide +kernel
theorem dX10_canBe_28 : decode cX10_canBe 28 = .ok (.iaload, 1) := by decide +kernel
theorem dX10_canBe_29 : decode cX10_canBe 29 = .ok (.ifCond .eq 18, 3) := by decide +kernel
theorem dX10_canBe_32 : decode cX10_canBe 32 = .ok (.aload_n 0, 1) := by decide +kernel
theorem dX10_canBe_33 : decode cX10_canBe 33 = .ok (.getfield 28, 3) := by decide +kernel
theorem dX10_canBe_36 : decode cX10_canBe 36 = .ok (.iload_n 1, 1) := by decide +kernel
theorem dX10_canBe_37 : decode cX10_canBe 37 = .ok (.iaload, 1) := by decide +kernel
theorem dX10_canBe_38 : decode cX10_canBe 38 = .ok (.aload_n 0, 1) := by decide +kernel
theorem dX10_canBe_39 : decode cX10_canBe 39 = .ok (.getfield 7, 3) := by decide +kernel
theorem dX10_canBe_42 : decode cX10_canBe 42 = .ok (.iconst 2, 1) := by decide +kernel
theorem dX10_canBe_43 : decode cX10_canBe 43 = .ok (.iaload, 1) := by decide +kernel
theorem dX10_canBe_44 : decode cX10_canBe 44 = .ok (.if_icmp .eq 10, 3) := by decide +kernel
theorem dX10_canBe_47 : decode cX10_canBe 47 = .ok (.aload_n 0, 1) := by decide +kernel
theorem dX10_canBe_48 : decode cX10_canBe 48 = .ok (.ldc 187, 2) := by decide +kernel
theorem dX10_canBe_50 : decode cX10_canBe 50 = .ok (.invokevirtual 49, 3) := by decide +kernel
theorem dX10_canBe_53 : decode cX10_canBe 53 = .ok (.ireturn, 1) := by decide +kernel
theorem dX10_canBe_54 : decode cX10_canBe 54 = .ok (.iconst 0, 1) := by decide +kernel
theorem dX10_canBe_55 : decode cX10_canBe 55 = .ok (.istore_n 3, 1) := by decide +kernel
theorem dX10_canBe_56 : decode cX10_canBe 56 = .ok (.iconst 0, 1) := by decide +kernel
theorem dX10_canBe_57 : decode cX10_canBe 57 = .ok (.istore 4, 2) := by decide +kernel
theorem dX10_canBe_59 : decode cX10_canBe 59 = .ok (.aload_n 0, 1) := by decide +kernel
theorem dX10_canBe_60 : decode cX10_canBe 60 = .ok (.aload_n 0, 1) := by decide +kernel
theorem dX10_canBe_61 : decode cX10_canBe 61 = .ok (.getfield 7, 3) := by decide +kernel
theorem dX10_canBe_64 : decode cX10_canBe 64 = .ok (.aload_n 0, 1) := by decide +kernel
theorem dX10_canBe_65 : decode cX10_canBe 65 = .ok (.getfield 16, 3) := by decide +kernel
theorem dX10_canBe_68 : decode cX10_canBe 68 = .ok (.invokevirtual 158, 3) := by decide +kernel
theorem dX10_canBe_71 : decode cX10_canBe 71 = .ok (.sipush 599, 3) := by decide +kernel
theorem dX10_canBe_74 : decode cX10_canBe 74 = .ok (.istore 5, 2) := by decide +kernel
theorem dX10_canBe_76 : decode cX10_canBe 76 = .ok (.iload 5, 2) := by decide +kernel
theorem dX10_canBe_78 : decode cX10_canBe 78 = .ok (.ifCond .lt 69, 3) := by decide +kernel
theorem dX10_canBe_81 : decode cX10_canBe 81 = .ok (.aload_n 0, 1) := by decide +kernel
theorem dX10_canBe_82 : decode cX10_canBe 82 = .ok (.iload 5, 2) := by decide +kernel
theorem dX10_canBe_84 : decode cX10_canBe 84 = .ok (.invokevirtual 194, 3) := by decide +kernel
theorem dX10_canBe_87 : decode cX10_canBe 87 = .ok (.aload_n 0, 1) := by decide +kernel
theorem dX10_canBe_88 : decode cX10_canBe 88 = .ok (.iload_n 1, 1) := by decide +kernel
theorem dX10_canBe_89 : decode cX10_canBe 89 = .ok (.invokevirtual 197, 3) := by decide +kernel
theorem dX10_canBe_92 : decode cX10_canBe 92 = .ok (.ifCond .eq 49, 3) := by decide +kernel
theorem dX10_canBe_95 : decode cX10_canBe 95 = .ok (.iinc 3 1, 3) := by decide +kernel
theorem dX10_canBe_98 : decode cX10_canBe 98 = .ok (.sipush 1000, 3) := by decide +kernel
theorem dX10_canBe_101 : decode cX10_canBe 101 = .ok (.aload_n 0, 1) := by decide +kernel
theorem dX10_canBe_102 : decode cX10_canBe 102 = .ok (.getfield 7, 3) := by decide +kernel
theorem dX10_canBe_105 : decode cX10_canBe 105 = .ok (.bipush 7, 2) := by decide +kernel
theorem dX10_canBe_107 : decode cX10_canBe 107 = .ok (.iaload, 1) := by decide +kernel
theorem dX10_canBe_108 : decode cX10_canBe 108 = .ok (.imul, 1) := by decide +kernel
theorem dX10_canBe_109 : decode cX10_canBe 109 = .ok (.bipush 100, 2) := by decide +kernel
theorem dX10_canBe_111 : decode cX10_canBe 111 = .ok (.aload_n 0, 1) := by decide +kernel
theorem dX10_canBe_112 : decode cX10_canBe 112 = .ok (.getfield 7, 3) := by decide +kernel
theorem dX10_canBe_115 : decode cX10_canBe 115 = .ok (.bipush 10, 2) := by decide +kernel
theorem dX10_canBe_117 : decode cX10_canBe 117 = .ok (.iaload, 1) := by decide +kernel
theorem dX10_canBe_118 : decode cX10_canBe 118 = .ok (.imul, 1) := by decide +kernel
theorem dX10_canBe_119 : decode cX10_canBe 119 = .ok (.iadd, 1) := by decide +kernel
theorem dX10_canBe_120 : decode cX10_canBe 120 = .ok (.bipush 10, 2) := by decide +kernel
theorem dX10_canBe_122 : decode cX10_canBe 122 = .ok (.aload_n 0, 1) := by decide +kernel
theorem dX10_canBe_123 : decode cX10_canBe 123 = .ok (.getfield 7, 3) := by decide +kernel
theorem dX10_canBe_126 : decode cX10_canBe 126 = .ok (.bipush 8, 2) := by decide +kernel
theorem dX10_canBe_128 : decode cX10_canBe 128 = .ok (.iaload, 1) := by decide +kernel
theorem dX10_canBe_129 : decode cX10_canBe 129 = .ok (.imul, 1) := by decide +kernel
theorem dX10_canBe_130 : decode cX10_canBe 130 = .ok (.iadd, 1) := by decide +kernel
theorem dX10_canBe_131 : decode cX10_canBe 131 = .ok (.aload_n 0, 1) := by decide +kernel
theorem dX10_canBe_132 : decode cX10_canBe 132 = .ok (.getfield 7, 3) := by decide +kernel
theorem dX10_canBe_135 : decode cX10_canBe 135 = .ok (.bipush 9, 2) := by decide +kernel
theorem dX10_canBe_137 : decode cX10_canBe 137 = .ok (.iaload, 1) := by decide +kernel
theorem dX10_canBe_138 : decode cX10_canBe 138 = .ok (.iadd, 1) := by decide +kernel
theorem dX10_canBe_139 : decode cX10_canBe 139 = .ok (.istore 4, 2) := by decide +kernel
theorem dX10_canBe_141 : decode cX10_canBe 141 = .ok (.iinc 5 (-1), 3) := by decide +kernel
theorem dX10_canBe_144 : decode cX10_canBe 144 = .ok (.goto (-68), 3) := by decide +kernel
theorem dX10_canBe_147 : decode cX10_canBe 147 = .ok (.aload_n 0, 1) := by decide +kernel
theorem dX10_canBe_148 : decode cX10_canBe 148 = .ok (.aload_n 0, 1) := by decide +kernel
theorem dX10_canBe_149 : decode cX10_canBe 149 = .ok (.getfield 16, 3) := by decide +kernel
theorem dX10_canBe_152 : decode cX10_canBe 152 = .ok (.aload_n 0, 1) := by decide +kernel
theorem dX10_canBe_153 : decode cX10_canBe 153 = .ok (.getfield 7, 3) := by decide +kernel
theorem dX10_canBe_156 : decode cX10_canBe 156 = .ok (.invokevirtual 158, 3) := by decide +kernel
theorem dX10_canBe_159 : decode cX10_canBe 159 = .ok (.iload_n 2, 1) := by decide +kernel
theorem dX10_canBe_160 : decode cX10_canBe 160 = .ok (.iconst 1, 1) := by decide +kernel
theorem dX10_canBe_161 : decode cX10_canBe 161 = .ok (.if_icmp .ne 14, 3) := by decide +kernel
theorem dX10_canBe_164 : decode cX10_canBe 164 = .ok (.iload_n 3, 1) := by decide +kernel
theorem dX10_canBe_165 : decode cX10_canBe 165 = .ok (.ifCond .ne 10, 3) := by decide +kernel
theorem dX10_canBe_168 : decode cX10_canBe 168 = .ok (.aload_n 0, 1) := by decide +kernel
theorem dX10_canBe_169 : decode cX10_canBe 169 = .ok (.ldc 187, 2) := by decide +kernel
theorem dX10_canBe_171 : decode cX10_canBe 171 = .ok (.invokevirtual 49, 3) := by decide +kernel
theorem dX10_canBe_174 : decode cX10_canBe 174 = .ok (.ireturn, 1) := by decide +kernel
theorem dX10_canBe_175 : decode cX10_canBe 175 = .ok (.iload_n 2, 1) := by decide +kernel
theorem dX10_canBe_176 : decode cX10_canBe 176 = .ok (.ifCond .ne 7, 3) := by decide +kernel
theorem dX10_canBe_179 : decode cX10_canBe 179 = .ok (.iload_n 3, 1) := by decide +kernel
theorem dX10_canBe_180 : decode cX10_canBe 180 = .ok (.goto 5, 3) := by decide +kernel
theorem dX10_canBe_183 : decode cX10_canBe 183 = .ok (.iload 4, 2) := by decide +kernel
theorem dX10_canBe_185 : decode cX10_canBe 185 = .ok (.ireturn, 1) := by decide +kernel
theorem dX10_tellsMost_0 : decode cX10_tellsMost 0 = .ok (.iload_n 1, 1) := by decide +kernel
theorem dX10_tellsMost_1 : decode cX10_tellsMost 1 = .ok (.invokestatic 191, 3) := by decide +kernel
theorem dX10_tellsMost_4 : decode cX10_tellsMost 4 = .ok (.ifCond .ne 10, 3) := by decide +kernel
theorem dX10_tellsMost_7 : decode cX10_tellsMost 7 = .ok (.aload_n 0, 1) := by decide +kernel
theorem dX10_tellsMost_8 : decode cX10_tellsMost 8 = .ok (.ldc 48, 2) := by decide +kernel
theorem dX10_tellsMost_10 : decode cX10_tellsMost 10 = .ok (.invokevirtual 49, 3) := by decide +kernel
theorem dX10_tellsMost_13 : decode cX10_tellsMost 13 = .ok (.ireturn, 1) := by decide +kernel
theorem dX10_tellsMost_14 : decode cX10_tellsMost 14 = .ok (.aload_n 0, 1) := by decide +kernel
theorem dX10_tellsMost_15 : decode cX10_tellsMost 15 = .ok (.getfield 25, 3) := by decide +kernel
theorem dX10_tellsMost_18 : decode cX10_tellsMost 18 = .ok (.iload_n 1, 1) := by decide +kernel
theorem dX10_tellsMost_19 : decode cX10_tellsMost 19 = .ok (.iaload, 1) := by decide +kernel
theorem dX10_tellsMost_20 : decode cX10_tellsMost 20 = .ok (.ifCond .eq 27, 3) := by decide +kernel
theorem dX10_tellsMost_23 : decode cX10_tellsMost 23 = .ok (.aload_n 0, 1) := by decide +kernel
theorem dX10_tellsMost_24 : decode cX10_tellsMost 24 = .ok (.getfield 28, 3) := by decide +kernel
theorem dX10_tellsMost_27 : decode cX10_tellsMost 27 = .ok (.iload_n 1, 1) := by decide +kernel
theorem dX10_tellsMost_28 : decode cX10_tellsMost 28 = .ok (.iaload, 1) := by decide +kernel
theorem dX10_tellsMost_29 : decode cX10_tellsMost 29 = .ok (.aload_n 0, 1) := by decide +kernel
theorem dX10_tellsMost_30 : decode cX10_tellsMost 30 = .ok (.getfield 7, 3) := by decide +kernel
theorem dX10_tellsMost_33 : decode cX10_tellsMost 33 = .ok (.iconst 2, 1) := by decide +kernel
theorem dX10_tellsMost_34 : decode cX10_tellsMost 34 = .ok (.iaload, 1) := by decide +kernel
theorem dX10_tellsMost_35 : decode cX10_tellsMost 35 = .ok (.if_icmp .ne 12, 3) := by decide +kernel
theorem dX10_tellsMost_38 : decode cX10_tellsMost 38 = .ok (.aload_n 0, 1) := by decide +kernel
theorem dX10_tellsMost_39 : decode cX10_tellsMost 39 = .ok (.getfield 7, 3) := by decide +kernel
theorem dX10_tellsMost_42 : decode cX10_tellsMost 42 = .ok (.iconst 2, 1) := by decide +kernel
theorem dX10_tellsMost_43 : decode cX10_tellsMost 43 = .ok (.iaload, 1) := by decide +kernel
theorem dX10_tellsMost_44 : decode cX10_tellsMost 44 = .ok (.ifCond .ne 10, 3) := by decide +kernel
theorem dX10_tellsMost_47 : decode cX10_tellsMost 47 = .ok (.aload_n 0, 1) := by decide +kernel
theorem dX10_tellsMost_48 : decode cX10_tellsMost 48 = .ok (.ldc 187, 2) := by decide +kernel
theorem dX10_tellsMost_50 : decode cX10_tellsMost 50 = .ok (.invokevirtual 49, 3) := by decide +kernel
theorem dX10_tellsMost_53 : decode cX10_tellsMost 53 = .ok (.ireturn, 1) := by decide +kernel
theorem dX10_tellsMost_54 : decode cX10_tellsMost 54 = .ok (.iconst 0, 1) := by decide +kernel
theorem dX10_tellsMost_55 : decode cX10_tellsMost 55 = .ok (.istore_n 2, 1) := by decide +kernel
theorem dX10_tellsMost_56 : decode cX10_tellsMost 56 = .ok (.iload_n 2, 1) := by decide +kernel
theorem dX10_tellsMost_57 : decode cX10_tellsMost 57 = .ok (.bipush 30, 2) := by decide +kernel
theorem dX10_tellsMost_59 : decode cX10_tellsMost 59 = .ok (.if_icmp .ge 16, 3) := by decide +kernel
theorem dX10_tellsMost_62 : decode cX10_tellsMost 62 = .ok (.aload_n 0, 1) := by decide +kernel
theorem dX10_tellsMost_63 : decode cX10_tellsMost 63 = .ok (.getfield 37, 3) := by decide +kernel
theorem dX10_tellsMost_66 : decode cX10_tellsMost 66 = .ok (.iload_n 2, 1) := by decide +kernel
theorem dX10_tellsMost_67 : decode cX10_tellsMost 67 = .ok (.iconst 0, 1) := by decide +kernel
theorem dX10_tellsMost_68 : decode cX10_tellsMost 68 = .ok (.iastore, 1) := by decide +kernel
theorem dX10_tellsMost_69 : decode cX10_tellsMost 69 = .ok (.iinc 2 1, 3) := by decide +kernel
theorem dX10_tellsMost_72 : decode cX10_tellsMost 72 = .ok (.goto (-16), 3) := by decide +kernel
theorem dX10_tellsMost_75 : decode cX10_tellsMost 75 = .ok (.aload_n 0, 1) := by decide +kernel
theorem dX10_tellsMost_76 : decode cX10_tellsMost 76 = .ok (.aload_n 0, 1) := by decide +kernel
theorem dX10_tellsMost_77 : decode cX10_tellsMost 77 = .ok (.getfield 7, 3) := by decide +kernel
theorem dX10_tellsMost_80 : decode cX10_tellsMost 80 = .ok (.aload_n 0, 1) := by decide +kernel
theorem dX10_tellsMost_81 : decode cX10_tellsMost 81 = .ok (.getfield 16, 3) := by decide +kernel
theorem dX10_tellsMost_84 : decode cX10_tellsMost 84 = .ok (.invokevirtual 158, 3) := by decide +kernel
theorem dX10_tellsMost_87 : decode cX10_tellsMost 87 = .ok (.iconst 0, 1) := by decide +kernel
theorem dX10_tellsMost_88 : decode cX10_tellsMost 88 = .ok (.istore_n 2, 1) := by decide +kernel
theorem dX10_tellsMost_89 : decode cX10_tellsMost 89 = .ok (.iload_n 2, 1) := by decide +kernel
theorem dX10_tellsMost_90 : decode cX10_tellsMost 90 = .ok (.sipush 600, 3) := by decide +kernel
theorem dX10_tellsMost_93 : decode cX10_tellsMost 93 = .ok (.if_icmp .ge 58, 3) := by decide +kernel
theorem dX10_tellsMost_96 : decode cX10_tellsMost 96 = .ok (.aload_n 0, 1) := by decide +kernel
theorem dX10_tellsMost_97 : decode cX10_tellsMost 97 = .ok (.iload_n 2, 1) := by decide +kernel
theorem dX10_tellsMost_98 : decode cX10_tellsMost 98 = .ok (.invokevirtual 194, 3) := by decide +kernel
theorem dX10_tellsMost_101 : decode cX10_tellsMost 101 = .ok (.aload_n 0, 1) := by decide +kernel
theorem dX10_tellsMost_102 : decode cX10_tellsMost 102 = .ok (.iload_n 1, 1) := by decide +kernel
theorem dX10_tellsMost_103 : decode cX10_tellsMost 103 = .ok (.invokevirtual 197, 3) := by decide +kernel
theorem dX10_tellsMost_106 : decode cX10_tellsMost 106 = .ok (.ifCond .eq 39, 3) := by decide +kernel
theorem dX10_tellsMost_109 : decode cX10_tellsMost 109 = .ok (.iconst 0, 1) := by decide +kernel
theorem dX10_tellsMost_110 : decode cX10_tellsMost 110 = .ok (.istore_n 3, 1) := by decide +kernel
theorem dX10_tellsMost_111 : decode cX10_tellsMost 111 = .ok (.iload_n 3, 1) := by decide +kernel
theorem dX10_tellsMost_112 : decode cX10_tellsMost 112 = .ok (.aload_n 0, 1) := by decide +kernel
theorem dX10_tellsMost_113 : decode cX10_tellsMost 113 = .ok (.getfield 7, 3) := by decide +kernel
theorem dX10_tellsMost_116 : decode cX10_tellsMost 116 = .ok (.iconst 2, 1) := by decide +kernel
theorem dX10_tellsMost_117 : decode cX10_tellsMost 117 = .ok (.iaload, 1) := by decide +kernel
theorem dX10_tellsMost_118 : decode cX10_tellsMost 118 = .ok (.if_icmp .ge 27, 3) := by decide +kernel
theorem dX10_tellsMost_121 : decode cX10_tellsMost 121 = .ok (.aload_n 0, 1) := by decide +kernel
theorem dX10_tellsMost_122 : decode cX10_tellsMost 122 = .ok (.getfield 37, 3) := by decide +kernel
theorem dX10_tellsMost_125 : decode cX10_tellsMost 125 = .ok (.iconst 5, 1) := by decide +kernel
theorem dX10_tellsMost_126 : decode cX10_tellsMost 126 = .ok (.iload_n 3, 1) := by decide +kernel
theorem dX10_tellsMost_127 : decode cX10_tellsMost 127 = .ok (.imul, 1) := by decide +kernel
theorem dX10_tellsMost_128 : decode cX10_tellsMost 128 = .ok (.aload_n 0, 1) := by decide +kernel
theorem dX10_tellsMost_129 : decode cX10_tellsMost 129 = .ok (.iload_n 3, 1) := by decide +kernel
theorem dX10_tellsMost_130 : decode cX10_tellsMost 130 = .ok (.invokevirtual 75, 3) := by decide +kernel
theorem dX10_tellsMost_133 : decode cX10_tellsMost 133 = .ok (.iadd, 1) := by decide +kernel
theorem dX10_tellsMost_134 : decode cX10_tellsMost 134 = .ok (.dup2, 1) := by decide +kernel
theorem dX10_tellsMost_135 : decode cX10_tellsMost 135 = .ok (.iaload, 1) := by decide +kernel
theorem dX10_tellsMost_136 : decode cX10_tellsMost 136 = .ok (.iconst 1, 1) := by decide +kernel
theorem dX10_tellsMost_137 : decode cX10_tellsMost 137 = .ok (.iadd, 1) := by decide +kernel
theorem dX10_tellsMost_138 : decode cX10_tellsMost 138 = .ok (.iastore, 1) := by decide +kernel
theorem dX10_tellsMost_139 : decode cX10_tellsMost 139 = .ok (.iinc 3 1, 3) := by decide +kernel
theorem dX10_tellsMost_142 : decode cX10_tellsMost 142 = .ok (.goto (-31), 3) := by decide +kernel
theorem dX10_tellsMost_145 : decode cX10_tellsMost 145 = .ok (.iinc 2 1, 3) := by decide +kernel
theorem dX10_tellsMost_148 : decode cX10_tellsMost 148 = .ok (.goto (-59), 3) := by decide +kernel
theorem dX10_tellsMost_151 : decode cX10_tellsMost 151 = .ok (.aload_n 0, 1) := by decide +kernel
theorem dX10_tellsMost_152 : decode cX10_tellsMost 152 = .ok (.aload_n 0, 1) := by decide +kernel
theorem dX10_tellsMost_153 : decode cX10_tellsMost 153 = .ok (.getfield 16, 3) := by decide +kernel
theorem dX10_tellsMost_156 : decode cX10_tellsMost 156 = .ok (.aload_n 0, 1) := by decide +kernel
theorem dX10_tellsMost_157 : decode cX10_tellsMost 157 = .ok (.getfield 7, 3) := by decide +kernel
theorem dX10_tellsMost_160 : decode cX10_tellsMost 160 = .ok (.invokevirtual 158, 3) := by decide +kernel
theorem dX10_tellsMost_163 : decode cX10_tellsMost 163 = .ok (.iconst 0, 1) := by decide +kernel
theorem dX10_tellsMost_164 : decode cX10_tellsMost 164 = .ok (.istore_n 2, 1) := by decide +kernel
theorem dX10_tellsMost_165 : decode cX10_tellsMost 165 = .ok (.sipush 601, 3) := by decide +kernel
theorem dX10_tellsMost_168 : decode cX10_tellsMost 168 = .ok (.istore_n 3, 1) := by decide +kernel
theorem dX10_tellsMost_169 : decode cX10_tellsMost 169 = .ok (.iconst 0, 1) := by decide +kernel
theorem dX10_tellsMost_170 : decode cX10_tellsMost 170 = .ok (.istore 4, 2) := by decide +kernel
theorem dX10_tellsMost_172 : decode cX10_tellsMost 172 = .ok (.iload 4, 2) := by decide +kernel
theorem dX10_tellsMost_174 : decode cX10_tellsMost 174 = .ok (.aload_n 0, 1) := by decide +kernel
theorem dX10_tellsMost_175 : decode cX10_tellsMost 175 = .ok (.getfield 7, 3) := by decide +kernel
theorem dX10_tellsMost_178 : decode cX10_tellsMost 178 = .ok (.iconst 2, 1) := by decide +kernel
theorem dX10_tellsMost_179 : decode cX10_tellsMost 179 = .ok (.iaload, 1) := by decide +kernel
theorem dX10_tellsMost_180 : decode cX10_tellsMost 180 = .ok (.if_icmp .ge 89, 3) := by decide +kernel
theorem dX10_tellsMost_183 : decode cX10_tellsMost 183 = .ok (.iconst 0, 1) := by decide +kernel
theorem dX10_tellsMost_184 : decode cX10_tellsMost 184 = .ok (.istore 5, 2) := by decide +kernel
theorem dX10_tellsMost_186 : decode cX10_tellsMost 186 = .ok (.iconst 0, 1) := by decide +kernel
theorem dX10_tellsMost_187 : decode cX10_tellsMost 187 = .ok (.istore 6, 2) := by decide +kernel
theorem dX10_tellsMost_189 : decode cX10_tellsMost 189 = .ok (.iload 6, 2) := by decide +kernel
theorem dX10_tellsMost_191 : decode cX10_tellsMost 191 = .ok (.iconst 5, 1) := by decide +kernel
theorem dX10_tellsMost_192 : decode cX10_tellsMost 192 = .ok (.if_icmp .ge 45, 3) := by decide +kernel
theorem dX10_tellsMost_195 : decode cX10_tellsMost 195 = .ok (.aload_n 0, 1) := by decide +kernel
theorem dX10_tellsMost_196 : decode cX10_tellsMost 196 = .ok (.getfield 37, 3) := by decide +kernel
theorem dX10_tellsMost_199 : decode cX10_tellsMost 199 = .ok (.iconst 5, 1) := by decide +kernel
theorem dX10_tellsMost_200 : decode cX10_tellsMost 200 = .ok (.iload 4, 2) := by decide +kernel
theorem dX10_tellsMost_202 : decode cX10_tellsMost 202 = .ok (.imul, 1) := by decide +kernel
theorem dX10_tellsMost_203 : decode cX10_tellsMost 203 = .ok (.iload 6, 2) := by decide +kernel
theorem dX10_tellsMost_205 : decode cX10_tellsMost 205 = .ok (.iadd, 1) := by decide +kernel
theorem dX10_tellsMost_206 : decode cX10_tellsMost 206 = .ok (.iaload, 1) := by decide +kernel
theorem dX10_tellsMost_207 : decode cX10_tellsMost 207 = .ok (.iload 5, 2) := by decide +kernel
theorem dX10_tellsMost_209 : decode cX10_tellsMost 209 = .ok (.if_icmp .le 18, 3) := by decide +kernel
theorem dX10_tellsMost_212 : decode cX10_tellsMost 212 = .ok (.aload_n 0, 1) := by decide +kernel
theorem dX10_tellsMost_213 : decode cX10_tellsMost 213 = .ok (.getfield 37, 3) := by decide +kernel
theorem dX10_tellsMost_216 : decode cX10_tellsMost 216 = .ok (.iconst 5, 1) := by decide +kernel
theorem dX10_tellsMost_217 : decode cX10_tellsMost 217 = .ok (.iload 4, 2) := by decide +kernel
theorem dX10_tellsMost_219 : decode cX10_tellsMost 219 = .ok (.imul, 1) := by decide +kernel
theorem dX10_tellsMost_220 : decode cX10_tellsMost 220 = .ok (.iload 6, 2) := by decide +kernel
theorem dX10_tellsMost_222 : decode cX10_tellsMost 222 = .ok (.iadd, 1) := by decide +kernel
theorem dX10_tellsMost_223 : decode cX10_tellsMost 223 = .ok (.iaload, 1) := by decide +kernel
theorem dX10_tellsMost_224 : decode cX10_tellsMost 224 = .ok (.goto 5, 3) := by decide +kernel
theorem dX10_tellsMost_227 : decode cX10_tellsMost 227 = .ok (.iload 5, 2) := by decide +kernel
theorem dX10_tellsMost_229 : decode cX10_tellsMost 229 = .ok (.istore 5, 2) := by decide +kernel
theorem dX10_tellsMost_231 : decode cX10_tellsMost 231 = .ok (.iinc 6 1, 3) := by decide +kernel
theorem dX10_tellsMost_234 : decode cX10_tellsMost 234 = .ok (.goto (-45), 3) := by decide +kernel
theorem dX10_tellsMost_237 : decode cX10_tellsMost 237 = .ok (.iload 5, 2) := by decide +kernel
theorem dX10_tellsMost_239 : decode cX10_tellsMost 239 = .ok (.iload_n 3, 1) := by decide +kernel
theorem dX10_tellsMost_240 : decode cX10_tellsMost 240 = .ok (.if_icmp .ge 8, 3) := by decide +kernel
theorem dX10_tellsMost_243 : decode cX10_tellsMost 243 = .ok (.iload 4, 2) := by decide +kernel
theorem dX10_tellsMost_245 : decode cX10_tellsMost 245 = .ok (.goto 4, 3) := by decide +kernel
theorem dX10_tellsMost_248 : decode cX10_tellsMost 248 = .ok (.iload_n 2, 1) := by decide +kernel
theorem dX10_tellsMost_249 : decode cX10_tellsMost 249 = .ok (.istore_n 2, 1) := by decide +kernel
theorem dX10_tellsMost_250 : decode cX10_tellsMost 250 = .ok (.iload 5, 2) := by decide +kernel
theorem dX10_tellsMost_252 : decode cX10_tellsMost 252 = .ok (.iload_n 3, 1) := by decide +kernel
theorem dX10_tellsMost_253 : decode cX10_tellsMost 253 = .ok (.if_icmp .ge 8, 3) := by decide +kernel
theorem dX10_tellsMost_256 : decode cX10_tellsMost 256 = .ok (.iload 5, 2) := by decide +kernel
theorem dX10_tellsMost_258 : decode cX10_tellsMost 258 = .ok (.goto 4, 3) := by decide +kernel
theorem dX10_tellsMost_261 : decode cX10_tellsMost 261 = .ok (.iload_n 3, 1) := by decide +kernel
theorem dX10_tellsMost_262 : decode cX10_tellsMost 262 = .ok (.istore_n 3, 1) := by decide +kernel
theorem dX10_tellsMost_263 : decode cX10_tellsMost 263 = .ok (.iinc 4 1, 3) := by decide +kernel
theorem dX10_tellsMost_266 : decode cX10_tellsMost 266 = .ok (.goto (-94), 3) := by decide +kernel
theorem dX10_tellsMost_269 : decode cX10_tellsMost 269 = .ok (.iload_n 2, 1) := by decide +kernel
theorem dX10_tellsMost_270 : decode cX10_tellsMost 270 = .ok (.ireturn, 1) := by decide +kernel
theorem dX10_knobWas_0 : decode cX10_knobWas 0 = .ok (.aload_n 0, 1) := by decide +kernel
theorem dX10_knobWas_1 : decode cX10_knobWas 1 = .ok (.iload_n 1, 1) := by decide +kernel
theorem dX10_knobWas_2 : decode cX10_knobWas 2 = .ok (.invokevirtual 62, 3) := by decide +kernel
theorem dX10_knobWas_5 : decode cX10_knobWas 5 = .ok (.ifCond .eq 34, 3) := by decide +kernel
theorem dX10_knobWas_8 : decode cX10_knobWas 8 = .ok (.aload_n 0, 1) := by decide +kernel
theorem dX10_knobWas_9 : decode cX10_knobWas 9 = .ok (.iload_n 2, 1) := by decide +kernel
theorem dX10_knobWas_10 : decode cX10_knobWas 10 = .ok (.invokevirtual 62, 3) := by decide +kernel
theorem dX10_knobWas_13 : decode cX10_knobWas 13 = .ok (.ifCond .eq 26, 3) := by decide +kernel
theorem dX10_knobWas_16 : decode cX10_knobWas 16 = .ok (.iload_n 1, 1) := by decide +kernel
theorem dX10_knobWas_17 : decode cX10_knobWas 17 = .ok (.iload_n 2, 1) := by decide +kernel
theorem dX10_knobWas_18 : decode cX10_knobWas 18 = .ok (.if_icmp .eq 21, 3) := by decide +kernel
theorem dX10_knobWas_21 : decode cX10_knobWas 21 = .ok (.iload_n 3, 1) := by decide +kernel
theorem dX10_knobWas_22 : decode cX10_knobWas 22 = .ok (.iconst 0, 1) := by decide +kernel
theorem dX10_knobWas_23 : decode cX10_knobWas 23 = .ok (.bipush 44, 2) := by decide +kernel
theorem dX10_knobWas_25 : decode cX10_knobWas 25 = .ok (.invokestatic 44, 3) := by decide +kernel
theorem dX10_knobWas_28 : decode cX10_knobWas 28 = .ok (.ifCond .eq 11, 3) := by decide +kernel
theorem dX10_knobWas_31 : decode cX10_knobWas 31 = .ok (.iload_n 3, 1) := by decide +kernel
theorem dX10_knobWas_32 : decode cX10_knobWas 32 = .ok (.bipush 10, 2) := by decide +kernel
theorem dX10_knobWas_34 : decode cX10_knobWas 34 = .ok (.irem, 1) := by decide +kernel
theorem dX10_knobWas_35 : decode cX10_knobWas 35 = .ok (.iconst 4, 1) := by decide +kernel
theorem dX10_knobWas_36 : decode cX10_knobWas 36 = .ok (.if_icmp .le 10, 3) := by decide +kernel
theorem dX10_knobWas_39 : decode cX10_knobWas 39 = .ok (.aload_n 0, 1) := by decide +kernel
theorem dX10_knobWas_40 : decode cX10_knobWas 40 = .ok (.ldc 48, 2) := by decide +kernel
theorem dX10_knobWas_42 : decode cX10_knobWas 42 = .ok (.invokevirtual 49, 3) := by decide +kernel
theorem dX10_knobWas_45 : decode cX10_knobWas 45 = .ok (.ireturn, 1) := by decide +kernel
theorem dX10_knobWas_46 : decode cX10_knobWas 46 = .ok (.aload_n 0, 1) := by decide +kernel
theorem dX10_knobWas_47 : decode cX10_knobWas 47 = .ok (.getfield 7, 3) := by decide +kernel
theorem dX10_knobWas_50 : decode cX10_knobWas 50 = .ok (.bipush 8, 2) := by decide +kernel
theorem dX10_knobWas_52 : decode cX10_knobWas 52 = .ok (.iaload, 1) := by decide +kernel
theorem dX10_knobWas_53 : decode cX10_knobWas 53 = .ok (.istore 4, 2) := by decide +kernel
theorem dX10_knobWas_55 : decode cX10_knobWas 55 = .ok (.iconst 0, 1) := by decide +kernel
theorem dX10_knobWas_56 : decode cX10_knobWas 56 = .ok (.istore 5, 2) := by decide +kernel
theorem dX10_knobWas_58 : decode cX10_knobWas 58 = .ok (.iconst 0, 1) := by decide +kernel
theorem dX10_knobWas_59 : decode cX10_knobWas 59 = .ok (.istore 6, 2) := by decide +kernel
theorem dX10_knobWas_61 : decode cX10_knobWas 61 = .ok (.iload 6, 2) := by decide +kernel
theorem dX10_knobWas_63 : decode cX10_knobWas 63 = .ok (.bipush 9, 2) := by decide +kernel
theorem dX10_knobWas_65 : decode cX10_knobWas 65 = .ok (.if_icmp .gt 55, 3) := by decide +kernel
theorem dX10_knobWas_68 : decode cX10_knobWas 68 = .ok (.aload_n 0, 1) := by decide +kernel
theorem dX10_knobWas_69 : decode cX10_knobWas 69 = .ok (.getfield 7, 3) := by decide +kernel
theorem dX10_knobWas_72 : decode cX10_knobWas 72 = .ok (.bipush 8, 2) := by decide +kernel
theorem dX10_knobWas_74 : decode cX10_knobWas 74 = .ok (.iload 6, 2) := by decide +kernel
theorem dX10_knobWas_76 : decode cX10_knobWas 76 = .ok (.iastore, 1) := by decide +kernel
theorem dX10_knobWas_77 : decode cX10_knobWas 77 = .ok (.iload 5, 2) := by decide +kernel
theorem dX10_knobWas_79 : decode cX10_knobWas 79 = .ok (.aload_n 0, 1) := by decide +kernel
theorem dX10_knobWas_80 : decode cX10_knobWas 80 = .ok (.iload_n 1, 1) := by decide +kernel
theorem dX10_knobWas_81 : decode cX10_knobWas 81 = .ok (.invokevirtual 75, 3) := by decide +kernel
theorem dX10_knobWas_84 : decode cX10_knobWas 84 = .ok (.iload_n 3, 1) := by decide +kernel
theorem dX10_knobWas_85 : decode cX10_knobWas 85 = .ok (.bipush 10, 2) := by decide +kernel
theorem dX10_knobWas_87 : decode cX10_knobWas 87 = .ok (.idiv, 1) := by decide +kernel
theorem dX10_knobWas_88 : decode cX10_knobWas 88 = .ok (.if_icmp .ne 22, 3) := by decide +kernel
theorem dX10_knobWas_91 : decode cX10_knobWas 91 = .ok (.aload_n 0, 1) := by decide +kernel
theorem dX10_knobWas_92 : decode cX10_knobWas 92 = .ok (.iload_n 2, 1) := by decide +kernel
theorem dX10_knobWas_93 : decode cX10_knobWas 93 = .ok (.invokevirtual 75, 3) := by decide +kernel
theorem dX10_knobWas_96 : decode cX10_knobWas 96 = .ok (.iload_n 3, 1) := by decide +kernel
theorem dX10_knobWas_97 : decode cX10_knobWas 97 = .ok (.bipush 10, 2) := by decide +kernel
theorem dX10_knobWas_99 : decode cX10_knobWas 99 = .ok (.irem, 1) := by decide +kernel
theorem dX10_knobWas_100 : decode cX10_knobWas 100 = .ok (.if_icmp .ne 10, 3) := by decide +kernel
theorem dX10_knobWas_103 : decode cX10_knobWas 103 = .ok (.iconst 1, 1) := by decide +kernel
theorem dX10_knobWas_104 : decode cX10_knobWas 104 = .ok (.iload 6, 2) := by decide +kernel
theorem dX10_knobWas_106 : decode cX10_knobWas 106 = .ok (.ishl, 1) := by decide +kernel
theorem dX10_knobWas_107 : decode cX10_knobWas 107 = .ok (.goto 4, 3) := by decide +kernel
theorem dX10_knobWas_110 : decode cX10_knobWas 110 = .ok (.iconst 0, 1) := by decide +kernel
theorem dX10_knobWas_111 : decode cX10_knobWas 111 = .ok (.ior, 1) := by decide +kernel
theorem dX10_knobWas_112 : decode cX10_knobWas 112 = .ok (.istore 5, 2) := by decide +kernel
theorem dX10_knobWas_114 : decode cX10_knobWas 114 = .ok (.iinc 6 1, 3) := by decide +kernel
theorem dX10_knobWas_117 : decode cX10_knobWas 117 = .ok (.goto (-56), 3) := by decide +kernel
theorem dX10_knobWas_120 : decode cX10_knobWas 120 = .ok (.aload_n 0, 1) := by decide +kernel
theorem dX10_knobWas_121 : decode cX10_knobWas 121 = .ok (.getfield 7, 3) := by decide +kernel
theorem dX10_knobWas_124 : decode cX10_knobWas 124 = .ok (.bipush 8, 2) := by decide +kernel
theorem dX10_knobWas_126 : decode cX10_knobWas 126 = .ok (.iload 4, 2) := by decide +kernel
theorem dX10_knobWas_128 : decode cX10_knobWas 128 = .ok (.iastore, 1) := by decide +kernel
theorem dX10_knobWas_129 : decode cX10_knobWas 129 = .ok (.iload 5, 2) := by decide +kernel
theorem dX10_knobWas_131 : decode cX10_knobWas 131 = .ok (.ireturn, 1) := by decide +kernel
theorem dX10_triesRow_0 : decode cX10_triesRow 0 = .ok (.iload_n 2, 1) := by decide +kernel
theorem dX10_triesRow_1 : decode cX10_triesRow 1 = .ok (.iconst 1, 1) := by decide +kernel
theorem dX10_triesRow_2 : decode cX10_triesRow 2 = .ok (.if_icmp .ne 7, 3) := by decide +kernel
theorem dX10_triesRow_5 : decode cX10_triesRow 5 = .ok (.iconst 1, 1) := by decide +kernel
theorem dX10_triesRow_6 : decode cX10_triesRow 6 = .ok (.goto 26, 3) := by decide +kernel
theorem dX10_triesRow_9 : decode cX10_triesRow 9 = .ok (.iload_n 2, 1) := by decide +kernel
theorem dX10_triesRow_10 : decode cX10_triesRow 10 = .ok (.iconst 2, 1) := by decide +kernel
theorem dX10_triesRow_11 : decode cX10_triesRow 11 = .ok (.if_icmp .ne 8, 3) := by decide +kernel
theorem dX10_triesRow_14 : decode cX10_triesRow 14 = .ok (.bipush 6, 2) := by decide +kernel
theorem dX10_triesRow_16 : decode cX10_triesRow 16 = .ok (.goto 16, 3) := by decide +kernel
theorem dX10_triesRow_19 : decode cX10_triesRow 19 = .ok (.iload_n 2, 1) := by decide +kernel
theorem dX10_triesRow_20 : decode cX10_triesRow 20 = .ok (.iconst 3, 1) := by decide +kernel
theorem dX10_triesRow_21 : decode cX10_triesRow 21 = .ok (.if_icmp .ne 8, 3) := by decide +kernel
theorem dX10_triesRow_24 : decode cX10_triesRow 24 = .ok (.bipush 36, 2) := by decide +kernel
theorem dX10_triesRow_26 : decode cX10_triesRow 26 = .ok (.goto 6, 3) := by decide +kernel
theorem dX10_triesRow_29 : decode cX10_triesRow 29 = .ok (.sipush 216, 3) := by decide +kernel
theorem dX10_triesRow_32 : decode cX10_triesRow 32 = .ok (.istore 4, 2) := by decide +kernel
theorem dX10_triesRow_34 : decode cX10_triesRow 34 = .ok (.iload_n 1, 1) := by decide +kernel
theorem dX10_triesRow_35 : decode cX10_triesRow 35 = .ok (.iload 4, 2) := by decide +kernel
theorem dX10_triesRow_37 : decode cX10_triesRow 37 = .ok (.idiv, 1) := by decide +kernel
theorem dX10_triesRow_38 : decode cX10_triesRow 38 = .ok (.istore 5, 2) := by decide +kernel
theorem dX10_triesRow_40 : decode cX10_triesRow 40 = .ok (.iconst 0, 1) := by decide +kernel
theorem dX10_triesRow_41 : decode cX10_triesRow 41 = .ok (.istore 6, 2) := by decide +kernel
theorem dX10_triesRow_43 : decode cX10_triesRow 43 = .ok (.iconst 0, 1) := by decide +kernel
theorem dX10_triesRow_44 : decode cX10_triesRow 44 = .ok (.istore 7, 2) := by decide +kernel
theorem dX10_triesRow_46 : decode cX10_triesRow 46 = .ok (.iconst 1, 1) := by decide +kernel
theorem dX10_triesRow_47 : decode cX10_triesRow 47 = .ok (.istore 8, 2) := by decide +kernel
theorem dX10_triesRow_49 : decode cX10_triesRow 49 = .ok (.aload_n 0, 1) := by decide +kernel
theorem dX10_triesRow_50 : decode cX10_triesRow 50 = .ok (.aload_n 0, 1) := by decide +kernel
theorem dX10_triesRow_51 : decode cX10_triesRow 51 = .ok (.getfield 7, 3) := by decide +kernel
theorem dX10_triesRow_54 : decode cX10_triesRow 54 = .ok (.aload_n 0, 1) := by decide +kernel
theorem dX10_triesRow_55 : decode cX10_triesRow 55 = .ok (.getfield 16, 3) := by decide +kernel
theorem dX10_triesRow_58 : decode cX10_triesRow 58 = .ok (.invokevirtual 158, 3) := by decide +kernel
theorem dX10_triesRow_61 : decode cX10_triesRow 61 = .ok (.iload 4, 2) := by decide +kernel
theorem dX10_triesRow_63 : decode cX10_triesRow 63 = .ok (.istore 9, 2) := by decide +kernel
theorem dX10_triesRow_65 : decode cX10_triesRow 65 = .ok (.iload 9, 2) := by decide +kernel
theorem dX10_triesRow_67 : decode cX10_triesRow 67 = .ok (.ifCond .le 83, 3) := by decide +kernel
theorem dX10_triesRow_70 : decode cX10_triesRow 70 = .ok (.iload 8, 2) := by decide +kernel
theorem dX10_triesRow_72 : decode cX10_triesRow 72 = .ok (.ifCond .eq 78, 3) := by decide +kernel
theorem dX10_triesRow_75 : decode cX10_triesRow 75 = .ok (.iload_n 1, 1) := by decide +kernel
theorem dX10_triesRow_76 : decode cX10_triesRow 76 = .ok (.iload 9, 2) := by decide +kernel
theorem dX10_triesRow_78 : decode cX10_triesRow 78 = .ok (.idiv, 1) := by decide +kernel
theorem dX10_triesRow_79 : decode cX10_triesRow 79 = .ok (.bipush 6, 2) := by decide +kernel
theorem dX10_triesRow_81 : decode cX10_triesRow 81 = .ok (.irem, 1) := by decide +kernel
theorem dX10_triesRow_82 : decode cX10_triesRow 82 = .ok (.istore 10, 2) := by decide +kernel
theorem dX10_triesRow_84 : decode cX10_triesRow 84 = .ok (.aload_n 0, 1) := by decide +kernel
theorem dX10_triesRow_85 : decode cX10_triesRow 85 = .ok (.iload 10, 2) := by decide +kernel
theorem dX10_triesRow_87 : decode cX10_triesRow 87 = .ok (.invokevirtual 62, 3) := by decide +kernel
theorem dX10_triesRow_90 : decode cX10_triesRow 90 = .ok (.ifCond .eq 17, 3) := by decide +kernel
theorem dX10_triesRow_93 : decode cX10_triesRow 93 = .ok (.iload 6, 2) := by decide +kernel
theorem dX10_triesRow_95 : decode cX10_triesRow 95 = .ok (.iload 10, 2) := by decide +kernel
theorem dX10_triesRow_97 : decode cX10_triesRow 97 = .ok (.ishr, 1) := by decide +kernel
theorem dX10_triesRow_98 : decode cX10_triesRow 98 = .ok (.iconst 1, 1) := by decide +kernel
theorem dX10_triesRow_99 : decode cX10_triesRow 99 = .ok (.iand, 1) := by decide +kernel
theorem dX10_triesRow_100 : decode cX10_triesRow 100 = .ok (.ifCond .ne 7, 3) := by decide +kernel
theorem dX10_triesRow_103 : decode cX10_triesRow 103 = .ok (.iconst 1, 1) := by decide +kernel
theorem dX10_triesRow_104 : decode cX10_triesRow 104 = .ok (.goto 4, 3) := by decide +kernel
theorem dX10_triesRow_107 : decode cX10_triesRow 107 = .ok (.iconst 0, 1) := by decide +kernel
theorem dX10_triesRow_108 : decode cX10_triesRow 108 = .ok (.istore 8, 2) := by decide +kernel
theorem dX10_triesRow_110 : decode cX10_triesRow 110 = .ok (.iload 6, 2) := by decide +kernel
theorem dX10_triesRow_112 : decode cX10_triesRow 112 = .ok (.iconst 1, 1) := by decide +kernel
theorem dX10_triesRow_113 : decode cX10_triesRow 113 = .ok (.iload 10, 2) := by decide +kernel
theorem dX10_triesRow_115 : decode cX10_triesRow 115 = .ok (.ishl, 1) := by decide +kernel
theorem dX10_triesRow_116 : decode cX10_triesRow 116 = .ok (.ior, 1) := by decide +kernel
theorem dX10_triesRow_117 : decode cX10_triesRow 117 = .ok (.istore 6, 2) := by decide +kernel
theorem dX10_triesRow_119 : decode cX10_triesRow 119 = .ok (.iload 7, 2) := by decide +kernel
theorem dX10_triesRow_121 : decode cX10_triesRow 121 = .ok (.iload 8, 2) := by decide +kernel
theorem dX10_triesRow_123 : decode cX10_triesRow 123 = .ok (.ifCond .eq 13, 3) := by decide +kernel
theorem dX10_triesRow_126 : decode cX10_triesRow 126 = .ok (.aload_n 0, 1) := by decide +kernel
theorem dX10_triesRow_127 : decode cX10_triesRow 127 = .ok (.iload 10, 2) := by decide +kernel
theorem dX10_triesRow_129 : decode cX10_triesRow 129 = .ok (.iload_n 3, 1) := by decide +kernel
theorem dX10_triesRow_130 : decode cX10_triesRow 130 = .ok (.invokevirtual 170, 3) := by decide +kernel
theorem dX10_triesRow_133 : decode cX10_triesRow 133 = .ok (.goto 4, 3) := by decide +kernel
theorem dX10_triesRow_136 : decode cX10_triesRow 136 = .ok (.iconst 0, 1) := by decide +kernel
theorem dX10_triesRow_137 : decode cX10_triesRow 137 = .ok (.iadd, 1) := by decide +kernel
theorem dX10_triesRow_138 : decode cX10_triesRow 138 = .ok (.istore 7, 2) := by decide +kernel
theorem dX10_triesRow_140 : decode cX10_triesRow 140 = .ok (.iload 9, 2) := by decide +kernel
theorem dX10_triesRow_142 : decode cX10_triesRow 142 = .ok (.bipush 6, 2) := by decide +kernel
theorem dX10_triesRow_144 : decode cX10_triesRow 144 = .ok (.idiv, 1) := by decide +kernel
theorem dX10_triesRow_145 : decode cX10_triesRow 145 = .ok (.istore 9, 2) := by decide +kernel
theorem dX10_triesRow_147 : decode cX10_triesRow 147 = .ok (.goto (-82), 3) := by decide +kernel
theorem dX10_triesRow_150 : decode cX10_triesRow 150 = .ok (.aload_n 0, 1) := by decide +kernel
theorem dX10_triesRow_151 : decode cX10_triesRow 151 = .ok (.aload_n 0, 1) := by decide +kernel
theorem dX10_triesRow_152 : decode cX10_triesRow 152 = .ok (.getfield 16, 3) := by decide +kernel
theorem dX10_triesRow_155 : decode cX10_triesRow 155 = .ok (.aload_n 0, 1) := by decide +kernel
theorem dX10_triesRow_156 : decode cX10_triesRow 156 = .ok (.getfield 7, 3) := by decide +kernel
theorem dX10_triesRow_159 : decode cX10_triesRow 159 = .ok (.invokevirtual 158, 3) := by decide +kernel
theorem dX10_triesRow_162 : decode cX10_triesRow 162 = .ok (.iload 8, 2) := by decide +kernel
theorem dX10_triesRow_164 : decode cX10_triesRow 164 = .ok (.ifCond .eq 31, 3) := by decide +kernel
theorem dX10_triesRow_167 : decode cX10_triesRow 167 = .ok (.aload_n 0, 1) := by decide +kernel
theorem dX10_triesRow_168 : decode cX10_triesRow 168 = .ok (.getfield 200, 3) := by decide +kernel
theorem dX10_triesRow_171 : decode cX10_triesRow 171 = .ok (.ifCond .lt 12, 3) := by decide +kernel
theorem dX10_triesRow_174 : decode cX10_triesRow 174 = .ok (.iload 7, 2) := by decide +kernel
theorem dX10_triesRow_176 : decode cX10_triesRow 176 = .ok (.aload_n 0, 1) := by decide +kernel
theorem dX10_triesRow_177 : decode cX10_triesRow 177 = .ok (.getfield 200, 3) := by decide +kernel
theorem dX10_triesRow_180 : decode cX10_triesRow 180 = .ok (.if_icmp .ge 15, 3) := by decide +kernel
theorem dX10_triesRow_183 : decode cX10_triesRow 183 = .ok (.aload_n 0, 1) := by decide +kernel
theorem dX10_triesRow_184 : decode cX10_triesRow 184 = .ok (.iload 7, 2) := by decide +kernel
theorem dX10_triesRow_186 : decode cX10_triesRow 186 = .ok (.putfield 200, 3) := by decide +kernel
theorem dX10_triesRow_189 : decode cX10_triesRow 189 = .ok (.aload_n 0, 1) := by decide +kernel
theorem dX10_triesRow_190 : decode cX10_triesRow 190 = .ok (.iload 5, 2) := by decide +kernel
theorem dX10_triesRow_192 : decode cX10_triesRow 192 = .ok (.putfield 203, 3) := by decide +kernel
theorem dX10_triesRow_195 : decode cX10_triesRow 195 = .ok (.return_, 1) := by decide +kernel
theorem dX10_row_0 : decode cX10_row 0 = .ok (.iload_n 1, 1) := by decide +kernel
theorem dX10_row_1 : decode cX10_row 1 = .ok (.iconst 1, 1) := by decide +kernel
theorem dX10_row_2 : decode cX10_row 2 = .ok (.iconst 4, 1) := by decide +kernel
theorem dX10_row_3 : decode cX10_row 3 = .ok (.invokestatic 44, 3) := by decide +kernel
theorem dX10_row_6 : decode cX10_row 6 = .ok (.ifCond .eq 32, 3) := by decide +kernel
theorem dX10_row_9 : decode cX10_row 9 = .ok (.iload_n 1, 1) := by decide +kernel
theorem dX10_row_10 : decode cX10_row 10 = .ok (.aload_n 0, 1) := by decide +kernel
theorem dX10_row_11 : decode cX10_row 11 = .ok (.getfield 7, 3) := by decide +kernel
theorem dX10_row_14 : decode cX10_row 14 = .ok (.iconst 2, 1) := by decide +kernel
theorem dX10_row_15 : decode cX10_row 15 = .ok (.iaload, 1) := by decide +kernel
theorem dX10_row_16 : decode cX10_row 16 = .ok (.if_icmp .gt 22, 3) := by decide +kernel
theorem dX10_row_19 : decode cX10_row 19 = .ok (.iload_n 2, 1) := by decide +kernel
theorem dX10_row_20 : decode cX10_row 20 = .ok (.iconst 1, 1) := by decide +kernel
theorem dX10_row_21 : decode cX10_row 21 = .ok (.bipush 20, 2) := by decide +kernel
theorem dX10_row_23 : decode cX10_row 23 = .ok (.invokestatic 44, 3) := by decide +kernel
theorem dX10_row_26 : decode cX10_row 26 = .ok (.ifCond .eq 12, 3) := by decide +kernel
theorem dX10_row_29 : decode cX10_row 29 = .ok (.iload_n 3, 1) := by decide +kernel
theorem dX10_row_30 : decode cX10_row 30 = .ok (.iconst 0, 1) := by decide +kernel
theorem dX10_row_31 : decode cX10_row 31 = .ok (.iconst 1, 1) := by decide +kernel
theorem dX10_row_32 : decode cX10_row 32 = .ok (.invokestatic 44, 3) := by decide +kernel
theorem dX10_row_35 : decode cX10_row 35 = .ok (.ifCond .ne 10, 3) := by decide +kernel
theorem dX10_row_38 : decode cX10_row 38 = .ok (.aload_n 0, 1) := by decide +kernel
theorem dX10_row_39 : decode cX10_row 39 = .ok (.ldc 48, 2) := by decide +kernel
theorem dX10_row_41 : decode cX10_row 41 = .ok (.invokevirtual 49, 3) := by decide +kernel
theorem dX10_row_44 : decode cX10_row 44 = .ok (.ireturn, 1) := by decide +kernel
theorem dX10_row_45 : decode cX10_row 45 = .ok (.iload_n 1, 1) := by decide +kernel
theorem dX10_row_46 : decode cX10_row 46 = .ok (.iconst 1, 1) := by decide +kernel
theorem dX10_row_47 : decode cX10_row 47 = .ok (.if_icmp .ne 8, 3) := by decide +kernel
theorem dX10_row_50 : decode cX10_row 50 = .ok (.bipush 6, 2) := by decide +kernel
theorem dX10_row_52 : decode cX10_row 52 = .ok (.goto 27, 3) := by decide +kernel
theorem dX10_row_55 : decode cX10_row 55 = .ok (.iload_n 1, 1) := by decide +kernel
theorem dX10_row_56 : decode cX10_row 56 = .ok (.iconst 2, 1) := by decide +kernel
theorem dX10_row_57 : decode cX10_row 57 = .ok (.if_icmp .ne 8, 3) := by decide +kernel
theorem dX10_row_60 : decode cX10_row 60 = .ok (.bipush 36, 2) := by decide +kernel
theorem dX10_row_62 : decode cX10_row 62 = .ok (.goto 17, 3) := by decide +kernel
theorem dX10_row_65 : decode cX10_row 65 = .ok (.iload_n 1, 1) := by decide +kernel
theorem dX10_row_66 : decode cX10_row 66 = .ok (.iconst 3, 1) := by decide +kernel
theorem dX10_row_67 : decode cX10_row 67 = .ok (.if_icmp .ne 9, 3) := by decide +kernel
theorem dX10_row_70 : decode cX10_row 70 = .ok (.sipush 216, 3) := by decide +kernel
theorem dX10_row_73 : decode cX10_row 73 = .ok (.goto 6, 3) := by decide +kernel
theorem dX10_row_76 : decode cX10_row 76 = .ok (.sipush 1296, 3) := by decide +kernel
theorem dX10_row_79 : decode cX10_row 79 = .ok (.istore 4, 2) := by decide +kernel
theorem dX10_row_81 : decode cX10_row 81 = .ok (.aload_n 0, 1) := by decide +kernel
theorem dX10_row_82 : decode cX10_row 82 = .ok (.iconst (-1), 1) := by decide +kernel
theorem dX10_row_83 : decode cX10_row 83 = .ok (.putfield 200, 3) := by decide +kernel
theorem dX10_row_86 : decode cX10_row 86 = .ok (.iconst 0, 1) := by decide +kernel
theorem dX10_row_87 : decode cX10_row 87 = .ok (.istore 5, 2) := by decide +kernel
theorem dX10_row_89 : decode cX10_row 89 = .ok (.iload 5, 2) := by decide +kernel
theorem dX10_row_91 : decode cX10_row 91 = .ok (.iload 4, 2) := by decide +kernel
theorem dX10_row_93 : decode cX10_row 93 = .ok (.if_icmp .ge 17, 3) := by decide +kernel
theorem dX10_row_96 : decode cX10_row 96 = .ok (.aload_n 0, 1) := by decide +kernel
theorem dX10_row_97 : decode cX10_row 97 = .ok (.iload 5, 2) := by decide +kernel
theorem dX10_row_99 : decode cX10_row 99 = .ok (.iload_n 1, 1) := by decide +kernel
theorem dX10_row_100 : decode cX10_row 100 = .ok (.iload_n 2, 1) := by decide +kernel
theorem dX10_row_101 : decode cX10_row 101 = .ok (.invokevirtual 206, 3) := by decide +kernel
theorem dX10_row_104 : decode cX10_row 104 = .ok (.iinc 5 1, 3) := by decide +kernel
theorem dX10_row_107 : decode cX10_row 107 = .ok (.goto (-18), 3) := by decide +kernel
theorem dX10_row_110 : decode cX10_row 110 = .ok (.iload_n 3, 1) := by decide +kernel
theorem dX10_row_111 : decode cX10_row 111 = .ok (.ifCond .ne 10, 3) := by decide +kernel
theorem dX10_row_114 : decode cX10_row 114 = .ok (.aload_n 0, 1) := by decide +kernel
theorem dX10_row_115 : decode cX10_row 115 = .ok (.getfield 200, 3) := by decide +kernel
theorem dX10_row_118 : decode cX10_row 118 = .ok (.goto 7, 3) := by decide +kernel
theorem dX10_row_121 : decode cX10_row 121 = .ok (.aload_n 0, 1) := by decide +kernel
theorem dX10_row_122 : decode cX10_row 122 = .ok (.getfield 203, 3) := by decide +kernel
theorem dX10_row_125 : decode cX10_row 125 = .ok (.ireturn, 1) := by decide +kernel
theorem dX10_divisor_0 : decode cX10_divisor 0 = .ok (.iload_n 0, 1) := by decide +kernel
theorem dX10_divisor_1 : decode cX10_divisor 1 = .ok (.istore_n 2, 1) := by decide +kernel
theorem dX10_divisor_2 : decode cX10_divisor 2 = .ok (.iload_n 1, 1) := by decide +kernel
theorem dX10_divisor_3 : decode cX10_divisor 3 = .ok (.istore_n 3, 1) := by decide +kernel
theorem dX10_divisor_4 : decode cX10_divisor 4 = .ok (.iload_n 3, 1) := by decide +kernel
theorem dX10_divisor_5 : decode cX10_divisor 5 = .ok (.ifCond .eq 16, 3) := by decide +kernel
theorem dX10_divisor_8 : decode cX10_divisor 8 = .ok (.iload_n 2, 1) := by decide +kernel
theorem dX10_divisor_9 : decode cX10_divisor 9 = .ok (.iload_n 3, 1) := by decide +kernel
theorem dX10_divisor_10 : decode cX10_divisor 10 = .ok (.irem, 1) := by decide +kernel
theorem dX10_divisor_11 : decode cX10_divisor 11 = .ok (.istore 4, 2) := by decide +kernel
theorem dX10_divisor_13 : decode cX10_divisor 13 = .ok (.iload_n 3, 1) := by decide +kernel
theorem dX10_divisor_14 : decode cX10_divisor 14 = .ok (.istore_n 2, 1) := by decide +kernel
theorem dX10_divisor_15 : decode cX10_divisor 15 = .ok (.iload 4, 2) := by decide +kernel
theorem dX10_divisor_17 : decode cX10_divisor 17 = .ok (.istore_n 3, 1) := by decide +kernel
theorem dX10_divisor_18 : decode cX10_divisor 18 = .ok (.goto (-14), 3) := by decide +kernel
theorem dX10_divisor_21 : decode cX10_divisor 21 = .ok (.iload_n 2, 1) := by decide +kernel
theorem dX10_divisor_22 : decode cX10_divisor 22 = .ok (.ireturn, 1) := by decide +kernel
theorem dX10_odds_0 : decode cX10_odds 0 = .ok (.aload_n 0, 1) := by decide +kernel
theorem dX10_odds_1 : decode cX10_odds 1 = .ok (.iload_n 1, 1) := by decide +kernel
theorem dX10_odds_2 : decode cX10_odds 2 = .ok (.invokevirtual 62, 3) := by decide +kernel
theorem dX10_odds_5 : decode cX10_odds 5 = .ok (.ifCond .eq 12, 3) := by decide +kernel
theorem dX10_odds_8 : decode cX10_odds 8 = .ok (.iload_n 2, 1) := by decide +kernel
theorem dX10_odds_9 : decode cX10_odds 9 = .ok (.iconst 0, 1) := by decide +kernel
theorem dX10_odds_10 : decode cX10_odds 10 = .ok (.iconst 1, 1) := by decide +kernel
theorem dX10_odds_11 : decode cX10_odds 11 = .ok (.invokestatic 44, 3) := by decide +kernel
theorem dX10_odds_14 : decode cX10_odds 14 = .ok (.ifCond .ne 10, 3) := by decide +kernel
theorem dX10_odds_17 : decode cX10_odds 17 = .ok (.aload_n 0, 1) := by decide +kernel
theorem dX10_odds_18 : decode cX10_odds 18 = .ok (.ldc 48, 2) := by decide +kernel
theorem dX10_odds_20 : decode cX10_odds 20 = .ok (.invokevirtual 49, 3) := by decide +kernel
theorem dX10_odds_23 : decode cX10_odds 23 = .ok (.ireturn, 1) := by decide +kernel
theorem dX10_odds_24 : decode cX10_odds 24 = .ok (.aload_n 0, 1) := by decide +kernel
theorem dX10_odds_25 : decode cX10_odds 25 = .ok (.getfield 7, 3) := by decide +kernel
theorem dX10_odds_28 : decode cX10_odds 28 = .ok (.bipush 12, 2) := by decide +kernel
theorem dX10_odds_30 : decode cX10_odds 30 = .ok (.iaload, 1) := by decide +kernel
theorem dX10_odds_31 : decode cX10_odds 31 = .ok (.istore_n 3, 1) := by decide +kernel
theorem dX10_odds_32 : decode cX10_odds 32 = .ok (.iconst 0, 1) := by decide +kernel
theorem dX10_odds_33 : decode cX10_odds 33 = .ok (.istore 4, 2) := by decide +kernel
theorem dX10_odds_35 : decode cX10_odds 35 = .ok (.iconst 0, 1) := by decide +kernel
theorem dX10_odds_36 : decode cX10_odds 36 = .ok (.istore 5, 2) := by decide +kernel
theorem dX10_odds_38 : decode cX10_odds 38 = .ok (.iload 5, 2) := by decide +kernel
theorem dX10_odds_40 : decode cX10_odds 40 = .ok (.bipush 9, 2) := by decide +kernel
theorem dX10_odds_42 : decode cX10_odds 42 = .ok (.if_icmp .gt 36, 3) := by decide +kernel
theorem dX10_odds_45 : decode cX10_odds 45 = .ok (.aload_n 0, 1) := by decide +kernel
theorem dX10_odds_46 : decode cX10_odds 46 = .ok (.getfield 7, 3) := by decide +kernel
theorem dX10_odds_49 : decode cX10_odds 49 = .ok (.bipush 12, 2) := by decide +kernel
theorem dX10_odds_51 : decode cX10_odds 51 = .ok (.iload 5, 2) := by decide +kernel
theorem dX10_odds_53 : decode cX10_odds 53 = .ok (.iastore, 1) := by decide +kernel
theorem dX10_odds_54 : decode cX10_odds 54 = .ok (.iload 4, 2) := by decide +kernel
theorem dX10_odds_56 : decode cX10_odds 56 = .ok (.aload_n 0, 1) := by decide +kernel
theorem dX10_odds_57 : decode cX10_odds 57 = .ok (.iload_n 1, 1) := by decide +kernel
theorem dX10_odds_58 : decode cX10_odds 58 = .ok (.invokevirtual 75, 3) := by decide +kernel
theorem dX10_odds_61 : decode cX10_odds 61 = .ok (.ifCond .ne 7, 3) := by decide +kernel
theorem dX10_odds_64 : decode cX10_odds 64 = .ok (.iconst 1, 1) := by decide +kernel
theorem dX10_odds_65 : decode cX10_odds 65 = .ok (.goto 4, 3) := by decide +kernel
theorem dX10_odds_68 : decode cX10_odds 68 = .ok (.iconst 0, 1) := by decide +kernel
theorem dX10_odds_69 : decode cX10_odds 69 = .ok (.iadd, 1) := by decide +kernel
theorem dX10_odds_70 : decode cX10_odds 70 = .ok (.istore 4, 2) := by decide +kernel
theorem dX10_odds_72 : decode cX10_odds 72 = .ok (.iinc 5 1, 3) := by decide +kernel
theorem dX10_odds_75 : decode cX10_odds 75 = .ok (.goto (-37), 3) := by decide +kernel
theorem dX10_odds_78 : decode cX10_odds 78 = .ok (.aload_n 0, 1) := by decide +kernel
theorem dX10_odds_79 : decode cX10_odds 79 = .ok (.getfield 7, 3) := by decide +kernel
theorem dX10_odds_82 : decode cX10_odds 82 = .ok (.bipush 12, 2) := by decide +kernel
theorem dX10_odds_84 : decode cX10_odds 84 = .ok (.iload_n 3, 1) := by decide +kernel
theorem dX10_odds_85 : decode cX10_odds 85 = .ok (.iastore, 1) := by decide +kernel
theorem dX10_odds_86 : decode cX10_odds 86 = .ok (.iload 4, 2) := by decide +kernel
theorem dX10_odds_88 : decode cX10_odds 88 = .ok (.bipush 10, 2) := by decide +kernel
theorem dX10_odds_90 : decode cX10_odds 90 = .ok (.invokestatic 209, 3) := by decide +kernel
theorem dX10_odds_93 : decode cX10_odds 93 = .ok (.istore 5, 2) := by decide +kernel
theorem dX10_odds_95 : decode cX10_odds 95 = .ok (.iload_n 2, 1) := by decide +kernel
theorem dX10_odds_96 : decode cX10_odds 96 = .ok (.ifCond .ne 11, 3) := by decide +kernel
theorem dX10_odds_99 : decode cX10_odds 99 = .ok (.iload 4, 2) := by decide +kernel
theorem dX10_odds_101 : decode cX10_odds 101 = .ok (.iload 5, 2) := by decide +kernel
theorem dX10_odds_103 : decode cX10_odds 103 = .ok (.idiv, 1) := by decide +kernel
theorem dX10_odds_104 : decode cX10_odds 104 = .ok (.goto 8, 3) := by decide +kernel
theorem dX10_odds_107 : decode cX10_odds 107 = .ok (.bipush 10, 2) := by decide +kernel
theorem dX10_odds_109 : decode cX10_odds 109 = .ok (.iload 5, 2) := by decide +kernel
theorem dX10_odds_111 : decode cX10_odds 111 = .ok (.idiv, 1) := by decide +kernel
theorem dX10_odds_112 : decode cX10_odds 112 = .ok (.ireturn, 1) := by decide +kernel
theorem dX10_seed_0 : decode cX10_seed 0 = .ok (.aload_n 0, 1) := by decide +kernel
theorem dX10_seed_1 : decode cX10_seed 1 = .ok (.getfield 7, 3) := by decide +kernel
theorem dX10_seed_4 : decode cX10_seed 4 = .ok (.iconst 1, 1) := by decide +kernel
theorem dX10_seed_5 : decode cX10_seed 5 = .ok (.iaload, 1) := by decide +kernel
theorem dX10_seed_6 : decode cX10_seed 6 = .ok (.istore_n 2, 1) := by decide +kernel
theorem dX10_seed_7 : decode cX10_seed 7 = .ok (.aload_n 0, 1) := by decide +kernel
theorem dX10_seed_8 : decode cX10_seed 8 = .ok (.getfield 7, 3) := by decide +kernel
theorem dX10_seed_11 : decode cX10_seed 11 = .ok (.iconst 1, 1) := by decide +kernel
theorem dX10_seed_12 : decode cX10_seed 12 = .ok (.iload_n 1, 1) := by decide +kernel
theorem dX10_seed_13 : decode cX10_seed 13 = .ok (.iastore, 1) := by decide +kernel
theorem dX10_seed_14 : decode cX10_seed 14 = .ok (.iload_n 2, 1) := by decide +kernel
theorem dX10_seed_15 : decode cX10_seed 15 = .ok (.ireturn, 1) := by decide +kernel
theorem dX10_ran_0 : decode cX10_ran 0 = .ok (.aload_n 0, 1) := by decide +kernel
theorem dX10_ran_1 : decode cX10_ran 1 = .ok (.getfield 212, 3) := by decide +kernel
theorem dX10_ran_4 : decode cX10_ran 4 = .ok (.bipush 40, 2) := by decide +kernel
theorem dX10_ran_6 : decode cX10_ran 6 = .ok (.if_icmp .ge 23, 3) := by decide +kernel
theorem dX10_ran_9 : decode cX10_ran 9 = .ok (.aload_n 0, 1) := by decide +kernel
theorem dX10_ran_10 : decode cX10_ran 10 = .ok (.getfield 40, 3) := by decide +kernel
theorem dX10_ran_13 : decode cX10_ran 13 = .ok (.aload_n 0, 1) := by decide +kernel
theorem dX10_ran_14 : decode cX10_ran 14 = .ok (.getfield 212, 3) := by decide +kernel
theorem dX10_ran_17 : decode cX10_ran 17 = .ok (.iload_n 1, 1) := by decide +kernel
theorem dX10_ran_18 : decode cX10_ran 18 = .ok (.iastore, 1) := by decide +kernel
theorem dX10_ran_19 : decode cX10_ran 19 = .ok (.aload_n 0, 1) := by decide +kernel
theorem dX10_ran_20 : decode cX10_ran 20 = .ok (.dup, 1) := by decide +kernel
theorem dX10_ran_21 : decode cX10_ran 21 = .ok (.getfield 212, 3) := by decide +kernel
theorem dX10_ran_24 : decode cX10_ran 24 = .ok (.iconst 1, 1) := by decide +kernel
theorem dX10_ran_25 : decode cX10_ran 25 = .ok (.iadd, 1) := by decide +kernel
theorem dX10_ran_26 : decode cX10_ran 26 = .ok (.putfield 212, 3) := by decide +kernel
theorem dX10_ran_29 : decode cX10_ran 29 = .ok (.return_, 1) := by decide +kernel
theorem dX10_threadsIn_0 : decode cX10_threadsIn 0 = .ok (.iload_n 1, 1) := by decide +kernel
theorem dX10_threadsIn_1 : decode cX10_threadsIn 1 = .ok (.ifCond .ne 16, 3) := by decide +kernel
theorem dX10_threadsIn_4 : decode cX10_threadsIn 4 = .ok (.aload_n 0, 1) := by decide +kernel
theorem dX10_threadsIn_5 : decode cX10_threadsIn 5 = .ok (.bipush 10, 2) := by decide +kernel
theorem dX10_threadsIn_7 : decode cX10_threadsIn 7 = .ok (.invokevirtual 215, 3) := by decide +kernel
theorem dX10_threadsIn_10 : decode cX10_threadsIn 10 = .ok (.iload_n 2, 1) := by decide +kernel
theorem dX10_threadsIn_11 : decode cX10_threadsIn 11 = .ok (.aload_n 0, 1) := by decide +kernel
theorem dX10_threadsIn_12 : decode cX10_threadsIn 12 = .ok (.getfield 218, 3) := by decide +kernel
theorem dX10_threadsIn_15 : decode cX10_threadsIn 15 = .ok (.iadd, 1) := by decide +kernel
theorem dX10_threadsIn_16 : decode cX10_threadsIn 16 = .ok (.ireturn, 1) := by decide +kernel
theorem dX10_threadsIn_17 : decode cX10_threadsIn 17 = .ok (.iload_n 1, 1) := by decide +kernel
theorem dX10_threadsIn_18 : decode cX10_threadsIn 18 = .ok (.iconst 1, 1) := by decide +kernel
theorem dX10_threadsIn_19 : decode cX10_threadsIn 19 = .ok (.if_icmp .ne 18, 3) := by decide +kernel
theorem dX10_threadsIn_22 : decode cX10_threadsIn 22 = .ok (.aload_n 0, 1) := by decide +kernel
theorem dX10_threadsIn_23 : decode cX10_threadsIn 23 = .ok (.bipush 20, 2) := by decide +kernel
theorem dX10_threadsIn_25 : decode cX10_threadsIn 25 = .ok (.invokevirtual 215, 3) := by decide +kernel
theorem dX10_threadsIn_28 : decode cX10_threadsIn 28 = .ok (.aload_n 0, 1) := by decide +kernel
theorem dX10_threadsIn_29 : decode cX10_threadsIn 29 = .ok (.iconst 0, 1) := by decide +kernel
theorem dX10_threadsIn_30 : decode cX10_threadsIn 30 = .ok (.iload_n 2, 1) := by decide +kernel
theorem dX10_threadsIn_31 : decode cX10_threadsIn 31 = .ok (.invokevirtual 221, 3) := by decide +kernel
theorem dX10_threadsIn_34 : decode cX10_threadsIn 34 = .ok (.iconst 3, 1) := by decide +kernel
theorem dX10_threadsIn_35 : decode cX10_threadsIn 35 = .ok (.imul, 1) := by decide +kernel
theorem dX10_threadsIn_36 : decode cX10_threadsIn 36 = .ok (.ireturn, 1) := by decide +kernel
theorem dX10_threadsIn_37 : decode cX10_threadsIn 37 = .ok (.aload_n 0, 1) := by decide +kernel
theorem dX10_threadsIn_38 : decode cX10_threadsIn 38 = .ok (.iload_n 1, 1) := by decide +kernel
theorem dX10_threadsIn_39 : decode cX10_threadsIn 39 = .ok (.invokestatic 81, 3) := by decide +kernel
theorem dX10_threadsIn_42 : decode cX10_threadsIn 42 = .ok (.iload_n 2, 1) := by decide +kernel
theorem dX10_threadsIn_43 : decode cX10_threadsIn 43 = .ok (.invokevirtual 221, 3) := by decide +kernel
theorem dX10_threadsIn_46 : decode cX10_threadsIn 46 = .ok (.ireturn, 1) := by decide +kernel
theorem dX10_showsIn_0 : decode cX10_showsIn 0 = .ok (.iload_n 1, 1) := by decide +kernel
theorem dX10_showsIn_1 : decode cX10_showsIn 1 = .ok (.ifCond .ne 16, 3) := by decide +kernel
theorem dX10_showsIn_4 : decode cX10_showsIn 4 = .ok (.aload_n 0, 1) := by decide +kernel
theorem dX10_showsIn_5 : decode cX10_showsIn 5 = .ok (.bipush 12, 2) := by decide +kernel
theorem dX10_showsIn_7 : decode cX10_showsIn 7 = .ok (.invokevirtual 215, 3) := by decide +kernel
theorem dX10_showsIn_10 : decode cX10_showsIn 10 = .ok (.iload_n 2, 1) := by decide +kernel
theorem dX10_showsIn_11 : decode cX10_showsIn 11 = .ok (.aload_n 0, 1) := by decide +kernel
theorem dX10_showsIn_12 : decode cX10_showsIn 12 = .ok (.getfield 224, 3) := by decide +kernel
theorem dX10_showsIn_15 : decode cX10_showsIn 15 = .ok (.isub, 1) := by decide +kernel
theorem dX10_showsIn_16 : decode cX10_showsIn 16 = .ok (.ireturn, 1) := by decide +kernel
theorem dX10_showsIn_17 : decode cX10_showsIn 17 = .ok (.iload_n 1, 1) := by decide +kernel
theorem dX10_showsIn_18 : decode cX10_showsIn 18 = .ok (.iconst 3, 1) := by decide +kernel
theorem dX10_showsIn_19 : decode cX10_showsIn 19 = .ok (.if_icmp .ne 17, 3) := by decide +kernel
theorem dX10_showsIn_22 : decode cX10_showsIn 22 = .ok (.aload_n 0, 1) := by decide +kernel
theorem dX10_showsIn_23 : decode cX10_showsIn 23 = .ok (.bipush 40, 2) := by decide +kernel
theorem dX10_showsIn_25 : decode cX10_showsIn 25 = .ok (.invokevirtual 215, 3) := by decide +kernel
theorem dX10_showsIn_28 : decode cX10_showsIn 28 = .ok (.aload_n 0, 1) := by decide +kernel
theorem dX10_showsIn_29 : decode cX10_showsIn 29 = .ok (.iconst 0, 1) := by decide +kernel
theorem dX10_showsIn_30 : decode cX10_showsIn 30 = .ok (.iload_n 2, 1) := by decide +kernel
theorem dX10_showsIn_31 : decode cX10_showsIn 31 = .ok (.invokevirtual 227, 3) := by decide +kernel
theorem dX10_showsIn_34 : decode cX10_showsIn 34 = .ok (.ineg, 1) := by decide +kernel
theorem dX10_showsIn_35 : decode cX10_showsIn 35 = .ok (.ireturn, 1) := by decide +kernel
theorem dX10_showsIn_36 : decode cX10_showsIn 36 = .ok (.iload_n 1, 1) := by decide +kernel
theorem dX10_showsIn_37 : decode cX10_showsIn 37 = .ok (.bipush 6, 2) := by decide +kernel
theorem dX10_showsIn_39 : decode cX10_showsIn 39 = .ok (.if_icmp .ne 21, 3) := by decide +kernel
theorem dX10_showsIn_42 : decode cX10_showsIn 42 = .ok (.aload_n 0, 1) := by decide +kernel
theorem dX10_showsIn_43 : decode cX10_showsIn 43 = .ok (.bipush 70, 2) := by decide +kernel
theorem dX10_showsIn_45 : decode cX10_showsIn 45 = .ok (.invokevirtual 215, 3) := by decide +kernel
theorem dX10_showsIn_48 : decode cX10_showsIn 48 = .ok (.aload_n 0, 1) := by decide +kernel
theorem dX10_showsIn_49 : decode cX10_showsIn 49 = .ok (.iconst 3, 1) := by decide +kernel
theorem dX10_showsIn_50 : decode cX10_showsIn 50 = .ok (.iload_n 2, 1) := by decide +kernel
theorem dX10_showsIn_51 : decode cX10_showsIn 51 = .ok (.invokevirtual 227, 3) := by decide +kernel
theorem dX10_showsIn_54 : decode cX10_showsIn 54 = .ok (.aload_n 0, 1) := by decide +kernel
theorem dX10_showsIn_55 : decode cX10_showsIn 55 = .ok (.getfield 218, 3) := by decide +kernel
theorem dX10_showsIn_58 : decode cX10_showsIn 58 = .ok (.ixor, 1) := by decide +kernel
theorem dX10_showsIn_59 : decode cX10_showsIn 59 = .ok (.ireturn, 1) := by decide +kernel
theorem dX10_showsIn_60 : decode cX10_showsIn 60 = .ok (.aload_n 0, 1) := by decide +kernel
theorem dX10_showsIn_61 : decode cX10_showsIn 61 = .ok (.iload_n 1, 1) := by decide +kernel
theorem dX10_showsIn_62 : decode cX10_showsIn 62 = .ok (.invokestatic 81, 3) := by decide +kernel
theorem dX10_showsIn_65 : decode cX10_showsIn 65 = .ok (.iload_n 2, 1) := by decide +kernel
theorem dX10_showsIn_66 : decode cX10_showsIn 66 = .ok (.invokevirtual 227, 3) := by decide +kernel
theorem dX10_showsIn_69 : decode cX10_showsIn 69 = .ok (.ireturn, 1) := by decide +kernel
theorem dX10_sewsIn_0 : decode cX10_sewsIn 0 = .ok (.iload_n 1, 1) := by decide +kernel
theorem dX10_sewsIn_1 : decode cX10_sewsIn 1 = .ok (.ifCond .ne 21, 3) := by decide +kernel
theorem dX10_sewsIn_4 : decode cX10_sewsIn 4 = .ok (.aload_n 0, 1) := by decide +kernel
theorem dX10_sewsIn_5 : decode cX10_sewsIn 5 = .ok (.bipush 11, 2) := by decide +kernel
theorem dX10_sewsIn_7 : decode cX10_sewsIn 7 = .ok (.invokevirtual 215, 3) := by decide +kernel
theorem dX10_sewsIn_10 : decode cX10_sewsIn 10 = .ok (.aload_n 0, 1) := by decide +kernel
theorem dX10_sewsIn_11 : decode cX10_sewsIn 11 = .ok (.aload_n 0, 1) := by decide +kernel
theorem dX10_sewsIn_12 : decode cX10_sewsIn 12 = .ok (.getfield 230, 3) := by decide +kernel
theorem dX10_sewsIn_15 : decode cX10_sewsIn 15 = .ok (.iload_n 2, 1) := by decide +kernel
theorem dX10_sewsIn_16 : decode cX10_sewsIn 16 = .ok (.invokevirtual 221, 3) := by decide +kernel
theorem dX10_sewsIn_19 : decode cX10_sewsIn 19 = .ok (.iconst 2, 1) := by decide +kernel
theorem dX10_sewsIn_20 : decode cX10_sewsIn 20 = .ok (.imul, 1) := by decide +kernel
theorem dX10_sewsIn_21 : decode cX10_sewsIn 21 = .ok (.ireturn, 1) := by decide +kernel
theorem dX10_sewsIn_22 : decode cX10_sewsIn 22 = .ok (.iload_n 1, 1) := by decide +kernel
theorem dX10_sewsIn_23 : decode cX10_sewsIn 23 = .ok (.iconst 2, 1) := by decide +kernel
theorem dX10_sewsIn_24 : decode cX10_sewsIn 24 = .ok (.if_icmp .ne 28, 3) := by decide +kernel
theorem dX10_sewsIn_27 : decode cX10_sewsIn 27 = .ok (.aload_n 0, 1) := by decide +kernel
theorem dX10_sewsIn_28 : decode cX10_sewsIn 28 = .ok (.bipush 30, 2) := by decide +kernel
theorem dX10_sewsIn_30 : decode cX10_sewsIn 30 = .ok (.invokevirtual 215, 3) := by decide +kernel
theorem dX10_sewsIn_33 : decode cX10_sewsIn 33 = .ok (.aload_n 0, 1) := by decide +kernel
theorem dX10_sewsIn_34 : decode cX10_sewsIn 34 = .ok (.iconst 0, 1) := by decide +kernel
theorem dX10_sewsIn_35 : decode cX10_sewsIn 35 = .ok (.iload_n 2, 1) := by decide +kernel
theorem dX10_sewsIn_36 : decode cX10_sewsIn 36 = .ok (.invokevirtual 233, 3) := by decide +kernel
theorem dX10_sewsIn_39 : decode cX10_sewsIn 39 = .ok (.istore_n 3, 1) := by decide +kernel
theorem dX10_sewsIn_40 : decode cX10_sewsIn 40 = .ok (.iload_n 3, 1) := by decide +kernel
theorem dX10_sewsIn_41 : decode cX10_sewsIn 41 = .ok (.aload_n 0, 1) := by decide +kernel
theorem dX10_sewsIn_42 : decode cX10_sewsIn 42 = .ok (.aload_n 0, 1) := by decide +kernel
theorem dX10_sewsIn_43 : decode cX10_sewsIn 43 = .ok (.getfield 230, 3) := by decide +kernel
theorem dX10_sewsIn_46 : decode cX10_sewsIn 46 = .ok (.iconst 1, 1) := by decide +kernel
theorem dX10_sewsIn_47 : decode cX10_sewsIn 47 = .ok (.invokevirtual 227, 3) := by decide +kernel
theorem dX10_sewsIn_50 : decode cX10_sewsIn 50 = .ok (.isub, 1) := by decide +kernel
theorem dX10_sewsIn_51 : decode cX10_sewsIn 51 = .ok (.ireturn, 1) := by decide +kernel
theorem dX10_sewsIn_52 : decode cX10_sewsIn 52 = .ok (.iload_n 1, 1) := by decide +kernel
theorem dX10_sewsIn_53 : decode cX10_sewsIn 53 = .ok (.iconst 5, 1) := by decide +kernel
theorem dX10_sewsIn_54 : decode cX10_sewsIn 54 = .ok (.if_icmp .ne 18, 3) := by decide +kernel
theorem dX10_sewsIn_57 : decode cX10_sewsIn 57 = .ok (.aload_n 0, 1) := by decide +kernel
theorem dX10_sewsIn_58 : decode cX10_sewsIn 58 = .ok (.bipush 60, 2) := by decide +kernel
theorem dX10_sewsIn_60 : decode cX10_sewsIn 60 = .ok (.invokevirtual 215, 3) := by decide +kernel
theorem dX10_sewsIn_63 : decode cX10_sewsIn 63 = .ok (.aload_n 0, 1) := by decide +kernel
theorem dX10_sewsIn_64 : decode cX10_sewsIn 64 = .ok (.iconst 2, 1) := by decide +kernel
theorem dX10_sewsIn_65 : decode cX10_sewsIn 65 = .ok (.iload_n 2, 1) := by decide +kernel
theorem dX10_sewsIn_66 : decode cX10_sewsIn 66 = .ok (.iconst 1, 1) := by decide +kernel
theorem dX10_sewsIn_67 : decode cX10_sewsIn 67 = .ok (.iadd, 1) := by decide +kernel
theorem dX10_sewsIn_68 : decode cX10_sewsIn 68 = .ok (.invokevirtual 233, 3) := by decide +kernel
theorem dX10_sewsIn_71 : decode cX10_sewsIn 71 = .ok (.ireturn, 1) := by decide +kernel
theorem dX10_sewsIn_72 : decode cX10_sewsIn 72 = .ok (.aload_n 0, 1) := by decide +kernel
theorem dX10_sewsIn_73 : decode cX10_sewsIn 73 = .ok (.iload_n 1, 1) := by decide +kernel
theorem dX10_sewsIn_74 : decode cX10_sewsIn 74 = .ok (.invokestatic 81, 3) := by decide +kernel
theorem dX10_sewsIn_77 : decode cX10_sewsIn 77 = .ok (.iload_n 2, 1) := by decide +kernel
theorem dX10_sewsIn_78 : decode cX10_sewsIn 78 = .ok (.invokevirtual 233, 3) := by decide +kernel
theorem dX10_sewsIn_81 : decode cX10_sewsIn 81 = .ok (.ireturn, 1) := by decide +kernel
theorem dX10_foldsIn_0 : decode cX10_foldsIn 0 = .ok (.iload_n 1, 1) := by decide +kernel
theorem dX10_foldsIn_1 : decode cX10_foldsIn 1 = .ok (.ifCond .ne 31, 3) := by decide +kernel
theorem dX10_foldsIn_4 : decode cX10_foldsIn 4 = .ok (.aload_n 0, 1) := by decide +kernel
theorem dX10_foldsIn_5 : decode cX10_foldsIn 5 = .ok (.bipush 13, 2) := by decide +kernel
theorem dX10_foldsIn_7 : decode cX10_foldsIn 7 = .ok (.invokevirtual 215, 3) := by decide +kernel
theorem dX10_foldsIn_10 : decode cX10_foldsIn 10 = .ok (.aload_n 0, 1) := by decide +kernel
theorem dX10_foldsIn_11 : decode cX10_foldsIn 11 = .ok (.aload_n 0, 1) := by decide +kernel
theorem dX10_foldsIn_12 : decode cX10_foldsIn 12 = .ok (.getfield 230, 3) := by decide +kernel
theorem dX10_foldsIn_15 : decode cX10_foldsIn 15 = .ok (.iload_n 2, 1) := by decide +kernel
theorem dX10_foldsIn_16 : decode cX10_foldsIn 16 = .ok (.invokevirtual 233, 3) := by decide +kernel
theorem dX10_foldsIn_19 : decode cX10_foldsIn 19 = .ok (.istore_n 3, 1) := by decide +kernel
theorem dX10_foldsIn_20 : decode cX10_foldsIn 20 = .ok (.iload_n 3, 1) := by decide +kernel
theorem dX10_foldsIn_21 : decode cX10_foldsIn 21 = .ok (.aload_n 0, 1) := by decide +kernel
theorem dX10_foldsIn_22 : decode cX10_foldsIn 22 = .ok (.aload_n 0, 1) := by decide +kernel
theorem dX10_foldsIn_23 : decode cX10_foldsIn 23 = .ok (.getfield 230, 3) := by decide +kernel
theorem dX10_foldsIn_26 : decode cX10_foldsIn 26 = .ok (.iload_n 2, 1) := by decide +kernel
theorem dX10_foldsIn_27 : decode cX10_foldsIn 27 = .ok (.invokevirtual 227, 3) := by decide +kernel
theorem dX10_foldsIn_30 : decode cX10_foldsIn 30 = .ok (.ixor, 1) := by decide +kernel
theorem dX10_foldsIn_31 : decode cX10_foldsIn 31 = .ok (.ireturn, 1) := by decide +kernel
theorem dX10_foldsIn_32 : decode cX10_foldsIn 32 = .ok (.iload_n 1, 1) := by decide +kernel
theorem dX10_foldsIn_33 : decode cX10_foldsIn 33 = .ok (.iconst 4, 1) := by decide +kernel
theorem dX10_foldsIn_34 : decode cX10_foldsIn 34 = .ok (.if_icmp .ne 28, 3) := by decide +kernel
theorem dX10_foldsIn_37 : decode cX10_foldsIn 37 = .ok (.aload_n 0, 1) := by decide +kernel
theorem dX10_foldsIn_38 : decode cX10_foldsIn 38 = .ok (.bipush 50, 2) := by decide +kernel
theorem dX10_foldsIn_40 : decode cX10_foldsIn 40 = .ok (.invokevirtual 215, 3) := by decide +kernel
theorem dX10_foldsIn_43 : decode cX10_foldsIn 43 = .ok (.aload_n 0, 1) := by decide +kernel
theorem dX10_foldsIn_44 : decode cX10_foldsIn 44 = .ok (.iconst 1, 1) := by decide +kernel
theorem dX10_foldsIn_45 : decode cX10_foldsIn 45 = .ok (.iload_n 2, 1) := by decide +kernel
theorem dX10_foldsIn_46 : decode cX10_foldsIn 46 = .ok (.invokevirtual 236, 3) := by decide +kernel
theorem dX10_foldsIn_49 : decode cX10_foldsIn 49 = .ok (.istore_n 3, 1) := by decide +kernel
theorem dX10_foldsIn_50 : decode cX10_foldsIn 50 = .ok (.iload_n 3, 1) := by decide +kernel
theorem dX10_foldsIn_51 : decode cX10_foldsIn 51 = .ok (.aload_n 0, 1) := by decide +kernel
theorem dX10_foldsIn_52 : decode cX10_foldsIn 52 = .ok (.aload_n 0, 1) := by decide +kernel
theorem dX10_foldsIn_53 : decode cX10_foldsIn 53 = .ok (.getfield 230, 3) := by decide +kernel
theorem dX10_foldsIn_56 : decode cX10_foldsIn 56 = .ok (.iconst 2, 1) := by decide +kernel
theorem dX10_foldsIn_57 : decode cX10_foldsIn 57 = .ok (.invokevirtual 221, 3) := by decide +kernel
theorem dX10_foldsIn_60 : decode cX10_foldsIn 60 = .ok (.isub, 1) := by decide +kernel
theorem dX10_foldsIn_61 : decode cX10_foldsIn 61 = .ok (.ireturn, 1) := by decide +kernel
theorem dX10_foldsIn_62 : decode cX10_foldsIn 62 = .ok (.iload_n 1, 1) := by decide +kernel
theorem dX10_foldsIn_63 : decode cX10_foldsIn 63 = .ok (.bipush 6, 2) := by decide +kernel
theorem dX10_foldsIn_65 : decode cX10_foldsIn 65 = .ok (.if_icmp .ne 28, 3) := by decide +kernel
theorem dX10_foldsIn_68 : decode cX10_foldsIn 68 = .ok (.aload_n 0, 1) := by decide +kernel
theorem dX10_foldsIn_69 : decode cX10_foldsIn 69 = .ok (.bipush 71, 2) := by decide +kernel
theorem dX10_foldsIn_71 : decode cX10_foldsIn 71 = .ok (.invokevirtual 215, 3) := by decide +kernel
theorem dX10_foldsIn_74 : decode cX10_foldsIn 74 = .ok (.aload_n 0, 1) := by decide +kernel
theorem dX10_foldsIn_75 : decode cX10_foldsIn 75 = .ok (.aload_n 0, 1) := by decide +kernel
theorem dX10_foldsIn_76 : decode cX10_foldsIn 76 = .ok (.getfield 230, 3) := by decide +kernel
theorem dX10_foldsIn_79 : decode cX10_foldsIn 79 = .ok (.iload_n 2, 1) := by decide +kernel
theorem dX10_foldsIn_80 : decode cX10_foldsIn 80 = .ok (.invokevirtual 233, 3) := by decide +kernel
theorem dX10_foldsIn_83 : decode cX10_foldsIn 83 = .ok (.istore_n 3, 1) := by decide +kernel
theorem dX10_foldsIn_84 : decode cX10_foldsIn 84 = .ok (.iload_n 3, 1) := by decide +kernel
theorem dX10_foldsIn_85 : decode cX10_foldsIn 85 = .ok (.aload_n 0, 1) := by decide +kernel
theorem dX10_foldsIn_86 : decode cX10_foldsIn 86 = .ok (.iconst 3, 1) := by decide +kernel
theorem dX10_foldsIn_87 : decode cX10_foldsIn 87 = .ok (.iload_n 2, 1) := by decide +kernel
theorem dX10_foldsIn_88 : decode cX10_foldsIn 88 = .ok (.invokevirtual 236, 3) := by decide +kernel
theorem dX10_foldsIn_91 : decode cX10_foldsIn 91 = .ok (.isub, 1) := by decide +kernel
theorem dX10_foldsIn_92 : decode cX10_foldsIn 92 = .ok (.ireturn, 1) := by decide +kernel
theorem dX10_foldsIn_93 : decode cX10_foldsIn 93 = .ok (.aload_n 0, 1) := by decide +kernel
theorem dX10_foldsIn_94 : decode cX10_foldsIn 94 = .ok (.iload_n 1, 1) := by decide +kernel
theorem dX10_foldsIn_95 : decode cX10_foldsIn 95 = .ok (.invokestatic 81, 3) := by decide +kernel
theorem dX10_foldsIn_98 : decode cX10_foldsIn 98 = .ok (.iload_n 2, 1) := by decide +kernel
theorem dX10_foldsIn_99 : decode cX10_foldsIn 99 = .ok (.invokevirtual 236, 3) := by decide +kernel
theorem dX10_foldsIn_102 : decode cX10_foldsIn 102 = .ok (.ireturn, 1) := by decide +kernel
theorem dX10_voice_0 : decode cX10_voice 0 = .ok (.aload_n 0, 1) := by decide +kernel
theorem dX10_voice_1 : decode cX10_voice 1 = .ok (.iload_n 1, 1) := by decide +kernel
theorem dX10_voice_2 : decode cX10_voice 2 = .ok (.invokevirtual 62, 3) := by decide +kernel
theorem dX10_voice_5 : decode cX10_voice 5 = .ok (.ifCond .eq 12, 3) := by decide +kernel
theorem dX10_voice_8 : decode cX10_voice 8 = .ok (.iload_n 2, 1) := by decide +kernel
theorem dX10_voice_9 : decode cX10_voice 9 = .ok (.iconst 0, 1) := by decide +kernel
theorem dX10_voice_10 : decode cX10_voice 10 = .ok (.iconst 3, 1) := by decide +kernel
theorem dX10_voice_11 : decode cX10_voice 11 = .ok (.invokestatic 44, 3) := by decide +kernel
theorem dX10_voice_14 : decode cX10_voice 14 = .ok (.ifCond .ne 10, 3) := by decide +kernel
theorem dX10_voice_17 : decode cX10_voice 17 = .ok (.aload_n 0, 1) := by decide +kernel
theorem dX10_voice_18 : decode cX10_voice 18 = .ok (.ldc 48, 2) := by decide +kernel
theorem dX10_voice_20 : decode cX10_voice 20 = .ok (.invokevirtual 49, 3) := by decide +kernel
theorem dX10_voice_23 : decode cX10_voice 23 = .ok (.ireturn, 1) := by decide +kernel
theorem dX10_voice_24 : decode cX10_voice 24 = .ok (.aload_n 0, 1) := by decide +kernel
theorem dX10_voice_25 : decode cX10_voice 25 = .ok (.iconst 0, 1) := by decide +kernel
theorem dX10_voice_26 : decode cX10_voice 26 = .ok (.putfield 212, 3) := by decide +kernel
theorem dX10_voice_29 : decode cX10_voice 29 = .ok (.aload_n 0, 1) := by decide +kernel
theorem dX10_voice_30 : decode cX10_voice 30 = .ok (.aload_n 0, 1) := by decide +kernel
theorem dX10_voice_31 : decode cX10_voice 31 = .ok (.iload_n 1, 1) := by decide +kernel
theorem dX10_voice_32 : decode cX10_voice 32 = .ok (.iconst 0, 1) := by decide +kernel
theorem dX10_voice_33 : decode cX10_voice 33 = .ok (.invokevirtual 78, 3) := by decide +kernel
theorem dX10_voice_36 : decode cX10_voice 36 = .ok (.putfield 230, 3) := by decide +kernel
theorem dX10_voice_39 : decode cX10_voice 39 = .ok (.aload_n 0, 1) := by decide +kernel
theorem dX10_voice_40 : decode cX10_voice 40 = .ok (.iload_n 1, 1) := by decide +kernel
theorem dX10_voice_41 : decode cX10_voice 41 = .ok (.putfield 218, 3) := by decide +kernel
theorem dX10_voice_44 : decode cX10_voice 44 = .ok (.aload_n 0, 1) := by decide +kernel
theorem dX10_voice_45 : decode cX10_voice 45 = .ok (.aload_n 0, 1) := by decide +kernel
theorem dX10_voice_46 : decode cX10_voice 46 = .ok (.iload_n 1, 1) := by decide +kernel
theorem dX10_voice_47 : decode cX10_voice 47 = .ok (.iconst 1, 1) := by decide +kernel
theorem dX10_voice_48 : decode cX10_voice 48 = .ok (.invokevirtual 78, 3) := by decide +kernel
theorem dX10_voice_51 : decode cX10_voice 51 = .ok (.putfield 224, 3) := by decide +kernel
theorem dX10_voice_54 : decode cX10_voice 54 = .ok (.iload_n 2, 1) := by decide +kernel
theorem dX10_voice_55 : decode cX10_voice 55 = .ok (.tableswitch 55 0 2 #[25, 35, 45], 25) := by decide +kernel
theorem dX10_voice_80 : decode cX10_voice 80 = .ok (.aload_n 0, 1) := by decide +kernel
theorem dX10_voice_81 : decode cX10_voice 81 = .ok (.aload_n 0, 1) := by decide +kernel
theorem dX10_voice_82 : decode cX10_voice 82 = .ok (.getfield 230, 3) := by decide +kernel
theorem dX10_voice_85 : decode cX10_voice 85 = .ok (.iload_n 3, 1) := by decide +kernel
theorem dX10_voice_86 : decode cX10_voice 86 = .ok (.invokevirtual 221, 3) := by decide +kernel
theorem dX10_voice_89 : decode cX10_voice 89 = .ok (.ireturn, 1) := by decide +kernel
theorem dX10_voice_90 : decode cX10_voice 90 = .ok (.aload_n 0, 1) := by decide +kernel
theorem dX10_voice_91 : decode cX10_voice 91 = .ok (.aload_n 0, 1) := by decide +kernel
theorem dX10_voice_92 : decode cX10_voice 92 = .ok (.getfield 230, 3) := by decide +kernel
theorem dX10_voice_95 : decode cX10_voice 95 = .ok (.iload_n 3, 1) := by decide +kernel
theorem dX10_voice_96 : decode cX10_voice 96 = .ok (.invokevirtual 233, 3) := by decide +kernel
theorem dX10_voice_99 : decode cX10_voice 99 = .ok (.ireturn, 1) := by decide +kernel
theorem dX10_voice_100 : decode cX10_voice 100 = .ok (.aload_n 0, 1) := by decide +kernel
theorem dX10_voice_101 : decode cX10_voice 101 = .ok (.aload_n 0, 1) := by decide +kernel
theorem dX10_voice_102 : decode cX10_voice 102 = .ok (.getfield 230, 3) := by decide +kernel
theorem dX10_voice_105 : decode cX10_voice 105 = .ok (.iload_n 3, 1) := by decide +kernel
theorem dX10_voice_106 : decode cX10_voice 106 = .ok (.invokevirtual 227, 3) := by decide +kernel
theorem dX10_voice_109 : decode cX10_voice 109 = .ok (.ireturn, 1) := by decide +kernel
theorem dX10_voice_110 : decode cX10_voice 110 = .ok (.aload_n 0, 1) := by decide +kernel
theorem dX10_voice_111 : decode cX10_voice 111 = .ok (.aload_n 0, 1) := by decide +kernel
theorem dX10_voice_112 : decode cX10_voice 112 = .ok (.getfield 230, 3) := by decide +kernel
theorem dX10_voice_115 : decode cX10_voice 115 = .ok (.iload_n 3, 1) := by decide +kernel
theorem dX10_voice_116 : decode cX10_voice 116 = .ok (.invokevirtual 236, 3) := by decide +kernel
theorem dX10_voice_119 : decode cX10_voice 119 = .ok (.ireturn, 1) := by decide +kernel
theorem dX10_trace_0 : decode cX10_trace 0 = .ok (.iload_n 1, 1) := by decide +kernel
theorem dX10_trace_1 : decode cX10_trace 1 = .ok (.iconst 0, 1) := by decide +kernel
theorem dX10_trace_2 : decode cX10_trace 2 = .ok (.aload_n 0, 1) := by decide +kernel
theorem dX10_trace_3 : decode cX10_trace 3 = .ok (.getfield 212, 3) := by decide +kernel
theorem dX10_trace_6 : decode cX10_trace 6 = .ok (.iconst 1, 1) := by decide +kernel
theorem dX10_trace_7 : decode cX10_trace 7 = .ok (.isub, 1) := by decide +kernel
theorem dX10_trace_8 : decode cX10_trace 8 = .ok (.invokestatic 44, 3) := by decide +kernel
theorem dX10_trace_11 : decode cX10_trace 11 = .ok (.ifCond .eq 12, 3) := by decide +kernel
theorem dX10_trace_14 : decode cX10_trace 14 = .ok (.aload_n 0, 1) := by decide +kernel
theorem dX10_trace_15 : decode cX10_trace 15 = .ok (.getfield 40, 3) := by decide +kernel
theorem dX10_trace_18 : decode cX10_trace 18 = .ok (.iload_n 1, 1) := by decide +kernel
theorem dX10_trace_19 : decode cX10_trace 19 = .ok (.iaload, 1) := by decide +kernel
theorem dX10_trace_20 : decode cX10_trace 20 = .ok (.goto 9, 3) := by decide +kernel
theorem dX10_trace_23 : decode cX10_trace 23 = .ok (.aload_n 0, 1) := by decide +kernel
theorem dX10_trace_24 : decode cX10_trace 24 = .ok (.ldc 187, 2) := by decide +kernel
theorem dX10_trace_26 : decode cX10_trace 26 = .ok (.invokevirtual 49, 3) := by decide +kernel
theorem dX10_trace_29 : decode cX10_trace 29 = .ok (.ireturn, 1) := by decide +kernel
theorem dX10_narrow_0 : decode cX10_narrow 0 = .ok (.iload_n 0, 1) := by decide +kernel
theorem dX10_narrow_1 : decode cX10_narrow 1 = .ok (.bipush 8, 2) := by decide +kernel
theorem dX10_narrow_3 : decode cX10_narrow 3 = .ok (.if_icmp .ne 8, 3) := by decide +kernel
theorem dX10_narrow_6 : decode cX10_narrow 6 = .ok (.iload_n 1, 1) := by decide +kernel
theorem dX10_narrow_7 : decode cX10_narrow 7 = .ok (.i2b, 1) := by decide +kernel
theorem dX10_narrow_8 : decode cX10_narrow 8 = .ok (.goto 15, 3) := by decide +kernel
theorem dX10_narrow_11 : decode cX10_narrow 11 = .ok (.iload_n 0, 1) := by decide +kernel
theorem dX10_narrow_12 : decode cX10_narrow 12 = .ok (.bipush 16, 2) := by decide +kernel
theorem dX10_narrow_14 : decode cX10_narrow 14 = .ok (.if_icmp .ne 8, 3) := by decide +kernel
theorem dX10_narrow_17 : decode cX10_narrow 17 = .ok (.iload_n 1, 1) := by decide +kernel
theorem dX10_narrow_18 : decode cX10_narrow 18 = .ok (.i2s, 1) := by decide +kernel
theorem dX10_narrow_19 : decode cX10_narrow 19 = .ok (.goto 4, 3) := by decide +kernel
theorem dX10_narrow_22 : decode cX10_narrow 22 = .ok (.iload_n 1, 1) := by decide +kernel
theorem dX10_narrow_23 : decode cX10_narrow 23 = .ok (.ireturn, 1) := by decide +kernel
theorem dX10_sheet_0 : decode cX10_sheet 0 = .ok (.iload_n 1, 1) := by decide +kernel
theorem dX10_sheet_1 : decode cX10_sheet 1 = .ok (.invokestatic 191, 3) := by decide +kernel
theorem dX10_sheet_4 : decode cX10_sheet 4 = .ok (.ifCond .eq 25, 3) := by decide +kernel
theorem dX10_sheet_7 : decode cX10_sheet 7 = .ok (.iload_n 2, 1) := by decide +kernel
theorem dX10_sheet_8 : decode cX10_sheet 8 = .ok (.ifCond .eq 28, 3) := by decide +kernel
theorem dX10_sheet_11 : decode cX10_sheet 11 = .ok (.iload_n 2, 1) := by decide +kernel
theorem dX10_sheet_12 : decode cX10_sheet 12 = .ok (.bipush 8, 2) := by decide +kernel
theorem dX10_sheet_14 : decode cX10_sheet 14 = .ok (.if_icmp .eq 22, 3) := by decide +kernel
theorem dX10_sheet_17 : decode cX10_sheet 17 = .ok (.iload_n 2, 1) := by decide +kernel
theorem dX10_sheet_18 : decode cX10_sheet 18 = .ok (.bipush 16, 2) := by decide +kernel
theorem dX10_sheet_20 : decode cX10_sheet 20 = .ok (.if_icmp .eq 16, 3) := by decide +kernel
theorem dX10_sheet_23 : decode cX10_sheet 23 = .ok (.iload_n 2, 1) := by decide +kernel
theorem dX10_sheet_24 : decode cX10_sheet 24 = .ok (.bipush 32, 2) := by decide +kernel
theorem dX10_sheet_26 : decode cX10_sheet 26 = .ok (.if_icmp .eq 10, 3) := by decide +kernel
theorem dX10_sheet_29 : decode cX10_sheet 29 = .ok (.aload_n 0, 1) := by decide +kernel
theorem dX10_sheet_30 : decode cX10_sheet 30 = .ok (.ldc 48, 2) := by decide +kernel
theorem dX10_sheet_32 : decode cX10_sheet 32 = .ok (.invokevirtual 49, 3) := by decide +kernel
theorem dX10_sheet_35 : decode cX10_sheet 35 = .ok (.ireturn, 1) := by decide +kernel
theorem dX10_sheet_36 : decode cX10_sheet 36 = .ok (.iload_n 2, 1) := by decide +kernel
theorem dX10_sheet_37 : decode cX10_sheet 37 = .ok (.ifCond .eq 14, 3) := by decide +kernel
theorem dX10_sheet_40 : decode cX10_sheet 40 = .ok (.iload_n 3, 1) := by decide +kernel
theorem dX10_sheet_41 : decode cX10_sheet 41 = .ok (.ifCond .ge 10, 3) := by decide +kernel
theorem dX10_sheet_44 : decode cX10_sheet 44 = .ok (.aload_n 0, 1) := by decide +kernel
theorem dX10_sheet_45 : decode cX10_sheet 45 = .ok (.ldc 169, 2) := by decide +kernel
theorem dX10_sheet_47 : decode cX10_sheet 47 = .ok (.invokevirtual 49, 3) := by decide +kernel
theorem dX10_sheet_50 : decode cX10_sheet 50 = .ok (.ireturn, 1) := by decide +kernel
theorem dX10_sheet_51 : decode cX10_sheet 51 = .ok (.iload_n 2, 1) := by decide +kernel
theorem dX10_sheet_52 : decode cX10_sheet 52 = .ok (.ifCond .eq 16, 3) := by decide +kernel
theorem dX10_sheet_55 : decode cX10_sheet 55 = .ok (.iload_n 3, 1) := by decide +kernel
theorem dX10_sheet_56 : decode cX10_sheet 56 = .ok (.bipush 40, 2) := by decide +kernel
theorem dX10_sheet_58 : decode cX10_sheet 58 = .ok (.if_icmp .le 10, 3) := by decide +kernel
theorem dX10_sheet_61 : decode cX10_sheet 61 = .ok (.aload_n 0, 1) := by decide +kernel
theorem dX10_sheet_62 : decode cX10_sheet 62 = .ok (.ldc 48, 2) := by decide +kernel
theorem dX10_sheet_64 : decode cX10_sheet 64 = .ok (.invokevirtual 49, 3) := by decide +kernel
theorem dX10_sheet_67 : decode cX10_sheet 67 = .ok (.ireturn, 1) := by decide +kernel
theorem dX10_sheet_68 : decode cX10_sheet 68 = .ok (.aload_n 0, 1) := by decide +kernel
theorem dX10_sheet_69 : decode cX10_sheet 69 = .ok (.getfield 25, 3) := by decide +kernel
theorem dX10_sheet_72 : decode cX10_sheet 72 = .ok (.iload_n 1, 1) := by decide +kernel
theorem dX10_sheet_73 : decode cX10_sheet 73 = .ok (.iload_n 2, 1) := by decide +kernel
theorem dX10_sheet_74 : decode cX10_sheet 74 = .ok (.iastore, 1) := by decide +kernel
theorem dX10_sheet_75 : decode cX10_sheet 75 = .ok (.aload_n 0, 1) := by decide +kernel
theorem dX10_sheet_76 : decode cX10_sheet 76 = .ok (.getfield 28, 3) := by decide +kernel
theorem dX10_sheet_79 : decode cX10_sheet 79 = .ok (.iload_n 1, 1) := by decide +kernel
theorem dX10_sheet_80 : decode cX10_sheet 80 = .ok (.iload_n 2, 1) := by decide +kernel
theorem dX10_sheet_81 : decode cX10_sheet 81 = .ok (.ifCond .ne 7, 3) := by decide +kernel
theorem dX10_sheet_84 : decode cX10_sheet 84 = .ok (.iconst 0, 1) := by decide +kernel
theorem dX10_sheet_85 : decode cX10_sheet 85 = .ok (.goto 4, 3) := by decide +kernel
theorem dX10_sheet_88 : decode cX10_sheet 88 = .ok (.iload_n 3, 1) := by decide +kernel
theorem dX10_sheet_89 : decode cX10_sheet 89 = .ok (.iastore, 1) := by decide +kernel
theorem dX10_sheet_90 : decode cX10_sheet 90 = .ok (.iconst 0, 1) := by decide +kernel
theorem dX10_sheet_91 : decode cX10_sheet 91 = .ok (.istore 4, 2) := by decide +kernel
theorem dX10_sheet_93 : decode cX10_sheet 93 = .ok (.iload 4, 2) := by decide +kernel
theorem dX10_sheet_95 : decode cX10_sheet 95 = .ok (.bipush 40, 2) := by decide +kernel
theorem dX10_sheet_97 : decode cX10_sheet 97 = .ok (.if_icmp .ge 22, 3) := by decide +kernel
theorem dX10_sheet_100 : decode cX10_sheet 100 = .ok (.aload_n 0, 1) := by decide +kernel
theorem dX10_sheet_101 : decode cX10_sheet 101 = .ok (.getfield 31, 3) := by decide +kernel
theorem dX10_sheet_104 : decode cX10_sheet 104 = .ok (.bipush 40, 2) := by decide +kernel
theorem dX10_sheet_106 : decode cX10_sheet 106 = .ok (.iload_n 1, 1) := by decide +kernel
theorem dX10_sheet_107 : decode cX10_sheet 107 = .ok (.imul, 1) := by decide +kernel
theorem dX10_sheet_108 : decode cX10_sheet 108 = .ok (.iload 4, 2) := by decide +kernel
theorem dX10_sheet_110 : decode cX10_sheet 110 = .ok (.iadd, 1) := by decide +kernel
theorem dX10_sheet_111 : decode cX10_sheet 111 = .ok (.iconst 0, 1) := by decide +kernel
theorem dX10_sheet_112 : decode cX10_sheet 112 = .ok (.iastore, 1) := by decide +kernel
theorem dX10_sheet_113 : decode cX10_sheet 113 = .ok (.iinc 4 1, 3) := by decide +kernel
theorem dX10_sheet_116 : decode cX10_sheet 116 = .ok (.goto (-23), 3) := by decide +kernel
theorem dX10_sheet_119 : decode cX10_sheet 119 = .ok (.iconst 1, 1) := by decide +kernel
theorem dX10_sheet_120 : decode cX10_sheet 120 = .ok (.ireturn, 1) := by decide +kernel
theorem dX10_put_0 : decode cX10_put 0 = .ok (.iload_n 1, 1) := by decide +kernel
theorem dX10_put_1 : decode cX10_put 1 = .ok (.invokestatic 191, 3) := by decide +kernel
theorem dX10_put_4 : decode cX10_put 4 = .ok (.ifCond .ne 10, 3) := by decide +kernel
theorem dX10_put_7 : decode cX10_put 7 = .ok (.aload_n 0, 1) := by decide +kernel
theorem dX10_put_8 : decode cX10_put 8 = .ok (.ldc 48, 2) := by decide +kernel
theorem dX10_put_10 : decode cX10_put 10 = .ok (.invokevirtual 49, 3) := by decide +kernel
theorem dX10_put_13 : decode cX10_put 13 = .ok (.ireturn, 1) := by decide +kernel
theorem dX10_put_14 : decode cX10_put 14 = .ok (.aload_n 0, 1) := by decide +kernel
theorem dX10_put_15 : decode cX10_put 15 = .ok (.getfield 25, 3) := by decide +kernel
theorem dX10_put_18 : decode cX10_put 18 = .ok (.iload_n 1, 1) := by decide +kernel
theorem dX10_put_19 : decode cX10_put 19 = .ok (.iaload, 1) := by decide +kernel
theorem dX10_put_20 : decode cX10_put 20 = .ok (.ifCond .ne 10, 3) := by decide +kernel
theorem dX10_put_23 : decode cX10_put 23 = .ok (.aload_n 0, 1) := by decide +kernel
theorem dX10_put_24 : decode cX10_put 24 = .ok (.ldc 187, 2) := by decide +kernel
theorem dX10_put_26 : decode cX10_put 26 = .ok (.invokevirtual 49, 3) := by decide +kernel
theorem dX10_put_29 : decode cX10_put 29 = .ok (.ireturn, 1) := by decide +kernel
theorem dX10_put_30 : decode cX10_put 30 = .ok (.iload_n 2, 1) := by decide +kernel
theorem dX10_put_31 : decode cX10_put 31 = .ok (.iconst 0, 1) := by decide +kernel
theorem dX10_put_32 : decode cX10_put 32 = .ok (.aload_n 0, 1) := by decide +kernel
theorem dX10_put_33 : decode cX10_put 33 = .ok (.getfield 28, 3) := by decide +kernel
theorem dX10_put_36 : decode cX10_put 36 = .ok (.iload_n 1, 1) := by decide +kernel
theorem dX10_put_37 : decode cX10_put 37 = .ok (.iaload, 1) := by decide +kernel
theorem dX10_put_38 : decode cX10_put 38 = .ok (.iconst 1, 1) := by decide +kernel
theorem dX10_put_39 : decode cX10_put 39 = .ok (.isub, 1) := by decide +kernel
theorem dX10_put_40 : decode cX10_put 40 = .ok (.invokestatic 44, 3) := by decide +kernel
theorem dX10_put_43 : decode cX10_put 43 = .ok (.ifCond .ne 10, 3) := by decide +kernel
theorem dX10_put_46 : decode cX10_put 46 = .ok (.aload_n 0, 1) := by decide +kernel
theorem dX10_put_47 : decode cX10_put 47 = .ok (.ldc 48, 2) := by decide +kernel
theorem dX10_put_49 : decode cX10_put 49 = .ok (.invokevirtual 49, 3) := by decide +kernel
theorem dX10_put_52 : decode cX10_put 52 = .ok (.ireturn, 1) := by decide +kernel
theorem dX10_put_53 : decode cX10_put 53 = .ok (.aload_n 0, 1) := by decide +kernel
theorem dX10_put_54 : decode cX10_put 54 = .ok (.getfield 31, 3) := by decide +kernel
theorem dX10_put_57 : decode cX10_put 57 = .ok (.bipush 40, 2) := by decide +kernel
theorem dX10_put_59 : decode cX10_put 59 = .ok (.iload_n 1, 1) := by decide +kernel
theorem dX10_put_60 : decode cX10_put 60 = .ok (.imul, 1) := by decide +kernel
theorem dX10_put_61 : decode cX10_put 61 = .ok (.iload_n 2, 1) := by decide +kernel
theorem dX10_put_62 : decode cX10_put 62 = .ok (.iadd, 1) := by decide +kernel
theorem dX10_put_63 : decode cX10_put 63 = .ok (.aload_n 0, 1) := by decide +kernel
theorem dX10_put_64 : decode cX10_put 64 = .ok (.getfield 25, 3) := by decide +kernel
theorem dX10_put_67 : decode cX10_put 67 = .ok (.iload_n 1, 1) := by decide +kernel
theorem dX10_put_68 : decode cX10_put 68 = .ok (.iaload, 1) := by decide +kernel
theorem dX10_put_69 : decode cX10_put 69 = .ok (.iload_n 3, 1) := by decide +kernel
theorem dX10_put_70 : decode cX10_put 70 = .ok (.invokestatic 239, 3) := by decide +kernel
theorem dX10_put_73 : decode cX10_put 73 = .ok (.iastore, 1) := by decide +kernel
theorem dX10_put_74 : decode cX10_put 74 = .ok (.iconst 1, 1) := by decide +kernel
theorem dX10_put_75 : decode cX10_put 75 = .ok (.ireturn, 1) := by decide +kernel
theorem dX10_move_0 : decode cX10_move 0 = .ok (.iload_n 1, 1) := by decide +kernel
theorem dX10_move_1 : decode cX10_move 1 = .ok (.invokestatic 191, 3) := by decide +kernel
theorem dX10_move_4 : decode cX10_move 4 = .ok (.ifCond .eq 10, 3) := by decide +kernel
theorem dX10_move_7 : decode cX10_move 7 = .ok (.iload_n 3, 1) := by decide +kernel
theorem dX10_move_8 : decode cX10_move 8 = .ok (.invokestatic 191, 3) := by decide +kernel
theorem dX10_move_11 : decode cX10_move 11 = .ok (.ifCond .ne 10, 3) := by decide +kernel
theorem dX10_move_14 : decode cX10_move 14 = .ok (.aload_n 0, 1) := by decide +kernel
theorem dX10_move_15 : decode cX10_move 15 = .ok (.ldc 48, 2) := by decide +kernel
theorem dX10_move_17 : decode cX10_move 17 = .ok (.invokevirtual 49, 3) := by decide +kernel
theorem dX10_move_20 : decode cX10_move 20 = .ok (.ireturn, 1) := by decide +kernel
theorem dX10_move_21 : decode cX10_move 21 = .ok (.aload_n 0, 1) := by decide +kernel
theorem dX10_move_22 : decode cX10_move 22 = .ok (.getfield 25, 3) := by decide +kernel
theorem dX10_move_25 : decode cX10_move 25 = .ok (.iload_n 1, 1) := by decide +kernel
theorem dX10_move_26 : decode cX10_move 26 = .ok (.iaload, 1) := by decide +kernel
theorem dX10_move_27 : decode cX10_move 27 = .ok (.ifCond .eq 12, 3) := by decide +kernel
theorem dX10_move_30 : decode cX10_move 30 = .ok (.aload_n 0, 1) := by decide +kernel
theorem dX10_move_31 : decode cX10_move 31 = .ok (.getfield 25, 3) := by decide +kernel
theorem dX10_move_34 : decode cX10_move 34 = .ok (.iload_n 3, 1) := by decide +kernel
theorem dX10_move_35 : decode cX10_move 35 = .ok (.iaload, 1) := by decide +kernel
theorem dX10_move_36 : decode cX10_move 36 = .ok (.ifCond .ne 10, 3) := by decide +kernel
theorem dX10_move_39 : decode cX10_move 39 = .ok (.aload_n 0, 1) := by decide +kernel
theorem dX10_move_40 : decode cX10_move 40 = .ok (.ldc 187, 2) := by decide +kernel
theorem dX10_move_42 : decode cX10_move 42 = .ok (.invokevirtual 49, 3) := by decide +kernel
theorem dX10_move_45 : decode cX10_move 45 = .ok (.ireturn, 1) := by decide +kernel
theorem dX10_move_46 : decode cX10_move 46 = .ok (.aload_n 0, 1) := by decide +kernel
theorem dX10_move_47 : decode cX10_move 47 = .ok (.getfield 25, 3) := by decide +kernel
theorem dX10_move_50 : decode cX10_move 50 = .ok (.iload_n 1, 1) := by decide +kernel
theorem dX10_move_51 : decode cX10_move 51 = .ok (.iaload, 1) := by decide +kernel
theorem dX10_move_52 : decode cX10_move 52 = .ok (.aload_n 0, 1) := by decide +kernel
theorem dX10_move_53 : decode cX10_move 53 = .ok (.getfield 25, 3) := by decide +kernel
theorem dX10_move_56 : decode cX10_move 56 = .ok (.iload_n 3, 1) := by decide +kernel
theorem dX10_move_57 : decode cX10_move 57 = .ok (.iaload, 1) := by decide +kernel
theorem dX10_move_58 : decode cX10_move 58 = .ok (.if_icmp .eq 10, 3) := by decide +kernel
theorem dX10_move_61 : decode cX10_move 61 = .ok (.aload_n 0, 1) := by decide +kernel
theorem dX10_move_62 : decode cX10_move 62 = .ok (.ldc 84, 2) := by decide +kernel
theorem dX10_move_64 : decode cX10_move 64 = .ok (.invokevirtual 49, 3) := by decide +kernel
theorem dX10_move_67 : decode cX10_move 67 = .ok (.ireturn, 1) := by decide +kernel
theorem dX10_move_68 : decode cX10_move 68 = .ok (.iload 5, 2) := by decide +kernel
theorem dX10_move_70 : decode cX10_move 70 = .ok (.ifCond .lt 39, 3) := by decide +kernel
theorem dX10_move_73 : decode cX10_move 73 = .ok (.iload_n 2, 1) := by decide +kernel
theorem dX10_move_74 : decode cX10_move 74 = .ok (.ifCond .lt 35, 3) := by decide +kernel
theorem dX10_move_77 : decode cX10_move 77 = .ok (.iload 4, 2) := by decide +kernel
theorem dX10_move_79 : decode cX10_move 79 = .ok (.ifCond .lt 30, 3) := by decide +kernel
theorem dX10_move_82 : decode cX10_move 82 = .ok (.iload_n 2, 1) := by decide +kernel
theorem dX10_move_83 : decode cX10_move 83 = .ok (.aload_n 0, 1) := by decide +kernel
theorem dX10_move_84 : decode cX10_move 84 = .ok (.getfield 28, 3) := by decide +kernel
theorem dX10_move_87 : decode cX10_move 87 = .ok (.iload_n 1, 1) := by decide +kernel
theorem dX10_move_88 : decode cX10_move 88 = .ok (.iaload, 1) := by decide +kernel
theorem dX10_move_89 : decode cX10_move 89 = .ok (.iload 5, 2) := by decide +kernel
theorem dX10_move_91 : decode cX10_move 91 = .ok (.isub, 1) := by decide +kernel
theorem dX10_move_92 : decode cX10_move 92 = .ok (.if_icmp .gt 17, 3) := by decide +kernel
theorem dX10_move_95 : decode cX10_move 95 = .ok (.iload 4, 2) := by decide +kernel
theorem dX10_move_97 : decode cX10_move 97 = .ok (.aload_n 0, 1) := by decide +kernel
theorem dX10_move_98 : decode cX10_move 98 = .ok (.getfield 28, 3) := by decide +kernel
theorem dX10_move_101 : decode cX10_move 101 = .ok (.iload_n 3, 1) := by decide +kernel
theorem dX10_move_102 : decode cX10_move 102 = .ok (.iaload, 1) := by decide +kernel
theorem dX10_move_103 : decode cX10_move 103 = .ok (.iload 5, 2) := by decide +kernel
theorem dX10_move_105 : decode cX10_move 105 = .ok (.isub, 1) := by decide +kernel
theorem dX10_move_106 : decode cX10_move 106 = .ok (.if_icmp .le 10, 3) := by decide +kernel
theorem dX10_move_109 : decode cX10_move 109 = .ok (.aload_n 0, 1) := by decide +kernel
theorem dX10_move_110 : decode cX10_move 110 = .ok (.ldc 48, 2) := by decide +kernel
theorem dX10_move_112 : decode cX10_move 112 = .ok (.invokevirtual 49, 3) := by decide +kernel
theorem dX10_move_115 : decode cX10_move 115 = .ok (.ireturn, 1) := by decide +kernel
theorem dX10_move_116 : decode cX10_move 116 = .ok (.iconst 0, 1) := by decide +kernel
theorem dX10_move_117 : decode cX10_move 117 = .ok (.istore 6, 2) := by decide +kernel
theorem dX10_move_119 : decode cX10_move 119 = .ok (.iload 6, 2) := by decide +kernel
theorem dX10_move_121 : decode cX10_move 121 = .ok (.iload 5, 2) := by decide +kernel
theorem dX10_move_123 : decode cX10_move 123 = .ok (.if_icmp .ge 30, 3) := by decide +kernel
theorem dX10_move_126 : decode cX10_move 126 = .ok (.aload_n 0, 1) := by decide +kernel
theorem dX10_move_127 : decode cX10_move 127 = .ok (.getfield 34, 3) := by decide +kernel
theorem dX10_move_130 : decode cX10_move 130 = .ok (.iload 6, 2) := by decide +kernel
theorem dX10_move_132 : decode cX10_move 132 = .ok (.aload_n 0, 1) := by decide +kernel
theorem dX10_move_133 : decode cX10_move 133 = .ok (.getfield 31, 3) := by decide +kernel
theorem dX10_move_136 : decode cX10_move 136 = .ok (.bipush 40, 2) := by decide +kernel
theorem dX10_move_138 : decode cX10_move 138 = .ok (.iload_n 1, 1) := by decide +kernel
theorem dX10_move_139 : decode cX10_move 139 = .ok (.imul, 1) := by decide +kernel
theorem dX10_move_140 : decode cX10_move 140 = .ok (.iload_n 2, 1) := by decide +kernel
theorem dX10_move_141 : decode cX10_move 141 = .ok (.iadd, 1) := by decide +kernel
theorem dX10_move_142 : decode cX10_move 142 = .ok (.iload 6, 2) := by decide +kernel
theorem dX10_move_144 : decode cX10_move 144 = .ok (.iadd, 1) := by decide +kernel
theorem dX10_move_145 : decode cX10_move 145 = .ok (.iaload, 1) := by decide +kernel
theorem dX10_move_146 : decode cX10_move 146 = .ok (.iastore, 1) := by decide +kernel
theorem dX10_move_147 : decode cX10_move 147 = .ok (.iinc 6 1, 3) := by decide +kernel
theorem dX10_move_150 : decode cX10_move 150 = .ok (.goto (-31), 3) := by decide +kernel
theorem dX10_move_153 : decode cX10_move 153 = .ok (.iconst 0, 1) := by decide +kernel
theorem dX10_move_154 : decode cX10_move 154 = .ok (.istore 6, 2) := by decide +kernel
theorem dX10_move_156 : decode cX10_move 156 = .ok (.iload 6, 2) := by decide +kernel
theorem dX10_move_158 : decode cX10_move 158 = .ok (.iload 5, 2) := by decide +kernel
theorem dX10_move_160 : decode cX10_move 160 = .ok (.if_icmp .ge 31, 3) := by decide +kernel
theorem dX10_move_163 : decode cX10_move 163 = .ok (.aload_n 0, 1) := by decide +kernel
theorem dX10_move_164 : decode cX10_move 164 = .ok (.getfield 31, 3) := by decide +kernel
theorem dX10_move_167 : decode cX10_move 167 = .ok (.bipush 40, 2) := by decide +kernel
theorem dX10_move_169 : decode cX10_move 169 = .ok (.iload_n 3, 1) := by decide +kernel
theorem dX10_move_170 : decode cX10_move 170 = .ok (.imul, 1) := by decide +kernel
theorem dX10_move_171 : decode cX10_move 171 = .ok (.iload 4, 2) := by decide +kernel
theorem dX10_move_173 : decode cX10_move 173 = .ok (.iadd, 1) := by decide +kernel
theorem dX10_move_174 : decode cX10_move 174 = .ok (.iload 6, 2) := by decide +kernel
theorem dX10_move_176 : decode cX10_move 176 = .ok (.iadd, 1) := by decide +kernel
theorem dX10_move_177 : decode cX10_move 177 = .ok (.aload_n 0, 1) := by decide +kernel
theorem dX10_move_178 : decode cX10_move 178 = .ok (.getfield 34, 3) := by decide +kernel
theorem dX10_move_181 : decode cX10_move 181 = .ok (.iload 6, 2) := by decide +kernel
theorem dX10_move_183 : decode cX10_move 183 = .ok (.iaload, 1) := by decide +kernel
theorem dX10_move_184 : decode cX10_move 184 = .ok (.iastore, 1) := by decide +kernel
theorem dX10_move_185 : decode cX10_move 185 = .ok (.iinc 6 1, 3) := by decide +kernel
theorem dX10_move_188 : decode cX10_move 188 = .ok (.goto (-32), 3) := by decide +kernel
theorem dX10_move_191 : decode cX10_move 191 = .ok (.iload 5, 2) := by decide +kernel
theorem dX10_move_193 : decode cX10_move 193 = .ok (.ireturn, 1) := by decide +kernel
theorem dX10_thicks_0 : decode cX10_thicks 0 = .ok (.iload_n 1, 1) := by decide +kernel
theorem dX10_thicks_1 : decode cX10_thicks 1 = .ok (.invokestatic 191, 3) := by decide +kernel
theorem dX10_thicks_4 : decode cX10_thicks 4 = .ok (.ifCond .ne 10, 3) := by decide +kernel
theorem dX10_thicks_7 : decode cX10_thicks 7 = .ok (.aload_n 0, 1) := by decide +kernel
theorem dX10_thicks_8 : decode cX10_thicks 8 = .ok (.ldc 48, 2) := by decide +kernel
theorem dX10_thicks_10 : decode cX10_thicks 10 = .ok (.invokevirtual 49, 3) := by decide +kernel
theorem dX10_thicks_13 : decode cX10_thicks 13 = .ok (.ireturn, 1) := by decide +kernel
theorem dX10_thicks_14 : decode cX10_thicks 14 = .ok (.aload_n 0, 1) := by decide +kernel
theorem dX10_thicks_15 : decode cX10_thicks 15 = .ok (.getfield 25, 3) := by decide +kernel
theorem dX10_thicks_18 : decode cX10_thicks 18 = .ok (.iload_n 1, 1) := by decide +kernel
theorem dX10_thicks_19 : decode cX10_thicks 19 = .ok (.iaload, 1) := by decide +kernel
theorem dX10_thicks_20 : decode cX10_thicks 20 = .ok (.ifCond .ne 10, 3) := by decide +kernel
theorem dX10_thicks_23 : decode cX10_thicks 23 = .ok (.aload_n 0, 1) := by decide +kernel
theorem dX10_thicks_24 : decode cX10_thicks 24 = .ok (.ldc 187, 2) := by decide +kernel
theorem dX10_thicks_26 : decode cX10_thicks 26 = .ok (.invokevirtual 49, 3) := by decide +kernel
theorem dX10_thicks_29 : decode cX10_thicks 29 = .ok (.ireturn, 1) := by decide +kernel
theorem dX10_thicks_30 : decode cX10_thicks 30 = .ok (.iconst 0, 1) := by decide +kernel
theorem dX10_thicks_31 : decode cX10_thicks 31 = .ok (.istore_n 2, 1) := by decide +kernel
theorem dX10_thicks_32 : decode cX10_thicks 32 = .ok (.iload_n 2, 1) := by decide +kernel
theorem dX10_thicks_33 : decode cX10_thicks 33 = .ok (.aload_n 0, 1) := by decide +kernel
theorem dX10_thicks_34 : decode cX10_thicks 34 = .ok (.getfield 28, 3) := by decide +kernel
theorem dX10_thicks_37 : decode cX10_thicks 37 = .ok (.iload_n 1, 1) := by decide +kernel
theorem dX10_thicks_38 : decode cX10_thicks 38 = .ok (.iaload, 1) := by decide +kernel
theorem dX10_thicks_39 : decode cX10_thicks 39 = .ok (.if_icmp .ge 54, 3) := by decide +kernel
theorem dX10_thicks_42 : decode cX10_thicks 42 = .ok (.aload_n 0, 1) := by decide +kernel
theorem dX10_thicks_43 : decode cX10_thicks 43 = .ok (.iload_n 2, 1) := by decide +kernel
theorem dX10_thicks_44 : decode cX10_thicks 44 = .ok (.invokevirtual 62, 3) := by decide +kernel
theorem dX10_thicks_47 : decode cX10_thicks 47 = .ok (.ifCond .eq 46, 3) := by decide +kernel
theorem dX10_thicks_50 : decode cX10_thicks 50 = .ok (.aload_n 0, 1) := by decide +kernel
theorem dX10_thicks_51 : decode cX10_thicks 51 = .ok (.getfield 31, 3) := by decide +kernel
theorem dX10_thicks_54 : decode cX10_thicks 54 = .ok (.bipush 40, 2) := by decide +kernel
theorem dX10_thicks_56 : decode cX10_thicks 56 = .ok (.iload_n 1, 1) := by decide +kernel
theorem dX10_thicks_57 : decode cX10_thicks 57 = .ok (.imul, 1) := by decide +kernel
theorem dX10_thicks_58 : decode cX10_thicks 58 = .ok (.iload_n 2, 1) := by decide +kernel
theorem dX10_thicks_59 : decode cX10_thicks 59 = .ok (.iadd, 1) := by decide +kernel
theorem dX10_thicks_60 : decode cX10_thicks 60 = .ok (.iaload, 1) := by decide +kernel
theorem dX10_thicks_61 : decode cX10_thicks 61 = .ok (.iconst 0, 1) := by decide +kernel
theorem dX10_thicks_62 : decode cX10_thicks 62 = .ok (.bipush 9, 2) := by decide +kernel
theorem dX10_thicks_64 : decode cX10_thicks 64 = .ok (.invokestatic 44, 3) := by decide +kernel
theorem dX10_thicks_67 : decode cX10_thicks 67 = .ok (.ifCond .eq 26, 3) := by decide +kernel
theorem dX10_thicks_70 : decode cX10_thicks 70 = .ok (.aload_n 0, 1) := by decide +kernel
theorem dX10_thicks_71 : decode cX10_thicks 71 = .ok (.iload_n 2, 1) := by decide +kernel
theorem dX10_thicks_72 : decode cX10_thicks 72 = .ok (.iconst 2, 1) := by decide +kernel
theorem dX10_thicks_73 : decode cX10_thicks 73 = .ok (.aload_n 0, 1) := by decide +kernel
theorem dX10_thicks_74 : decode cX10_thicks 74 = .ok (.getfield 31, 3) := by decide +kernel
theorem dX10_thicks_77 : decode cX10_thicks 77 = .ok (.bipush 40, 2) := by decide +kernel
theorem dX10_thicks_79 : decode cX10_thicks 79 = .ok (.iload_n 1, 1) := by decide +kernel
theorem dX10_thicks_80 : decode cX10_thicks 80 = .ok (.imul, 1) := by decide +kernel
theorem dX10_thicks_81 : decode cX10_thicks 81 = .ok (.iload_n 2, 1) := by decide +kernel
theorem dX10_thicks_82 : decode cX10_thicks 82 = .ok (.iadd, 1) := by decide +kernel
theorem dX10_thicks_83 : decode cX10_thicks 83 = .ok (.iaload, 1) := by decide +kernel
theorem dX10_thicks_84 : decode cX10_thicks 84 = .ok (.invokevirtual 58, 3) := by decide +kernel
theorem dX10_thicks_87 : decode cX10_thicks 87 = .ok (.iinc 2 1, 3) := by decide +kernel
theorem dX10_thicks_90 : decode cX10_thicks 90 = .ok (.goto (-58), 3) := by decide +kernel
theorem dX10_thicks_93 : decode cX10_thicks 93 = .ok (.iload_n 2, 1) := by decide +kernel
theorem dX10_thicks_94 : decode cX10_thicks 94 = .ok (.ireturn, 1) := by decide +kernel
theorem dX10_judge_0 : decode cX10_judge 0 = .ok (.iload_n 1, 1) := by decide +kernel
theorem dX10_judge_1 : decode cX10_judge 1 = .ok (.invokestatic 191, 3) := by decide +kernel
theorem dX10_judge_4 : decode cX10_judge 4 = .ok (.ifCond .ne 10, 3) := by decide +kernel
theorem dX10_judge_7 : decode cX10_judge 7 = .ok (.aload_n 0, 1) := by decide +kernel
theorem dX10_judge_8 : decode cX10_judge 8 = .ok (.ldc 48, 2) := by decide +kernel
theorem dX10_judge_10 : decode cX10_judge 10 = .ok (.invokevirtual 49, 3) := by decide +kernel
theorem dX10_judge_13 : decode cX10_judge 13 = .ok (.ireturn, 1) := by decide +kernel
theorem dX10_judge_14 : decode cX10_judge 14 = .ok (.aload_n 0, 1) := by decide +kernel
theorem dX10_judge_15 : decode cX10_judge 15 = .ok (.getfield 25, 3) := by decide +kernel
theorem dX10_judge_18 : decode cX10_judge 18 = .ok (.iload_n 1, 1) := by decide +kernel
theorem dX10_judge_19 : decode cX10_judge 19 = .ok (.iaload, 1) := by decide +kernel
theorem dX10_judge_20 : decode cX10_judge 20 = .ok (.ifCond .ne 10, 3) := by decide +kernel
theorem dX10_judge_23 : decode cX10_judge 23 = .ok (.aload_n 0, 1) := by decide +kernel
theorem dX10_judge_24 : decode cX10_judge 24 = .ok (.ldc 187, 2) := by decide +kernel
theorem dX10_judge_26 : decode cX10_judge 26 = .ok (.invokevirtual 49, 3) := by decide +kernel
theorem dX10_judge_29 : decode cX10_judge 29 = .ok (.ireturn, 1) := by decide +kernel
theorem dX10_judge_30 : decode cX10_judge 30 = .ok (.iconst 0, 1) := by decide +kernel
theorem dX10_judge_31 : decode cX10_judge 31 = .ok (.istore_n 2, 1) := by decide +kernel
theorem dX10_judge_32 : decode cX10_judge 32 = .ok (.iload_n 2, 1) := by decide +kernel
theorem dX10_judge_33 : decode cX10_judge 33 = .ok (.aload_n 0, 1) := by decide +kernel
theorem dX10_judge_34 : decode cX10_judge 34 = .ok (.getfield 7, 3) := by decide +kernel
theorem dX10_judge_37 : decode cX10_judge 37 = .ok (.iconst 2, 1) := by decide +kernel
theorem dX10_judge_38 : decode cX10_judge 38 = .ok (.iaload, 1) := by decide +kernel
theorem dX10_judge_39 : decode cX10_judge 39 = .ok (.if_icmp .ge 38, 3) := by decide +kernel
theorem dX10_judge_42 : decode cX10_judge 42 = .ok (.iload_n 2, 1) := by decide +kernel
theorem dX10_judge_43 : decode cX10_judge 43 = .ok (.aload_n 0, 1) := by decide +kernel
theorem dX10_judge_44 : decode cX10_judge 44 = .ok (.getfield 28, 3) := by decide +kernel
theorem dX10_judge_47 : decode cX10_judge 47 = .ok (.iload_n 1, 1) := by decide +kernel
theorem dX10_judge_48 : decode cX10_judge 48 = .ok (.iaload, 1) := by decide +kernel
theorem dX10_judge_49 : decode cX10_judge 49 = .ok (.if_icmp .ge 28, 3) := by decide +kernel
theorem dX10_judge_52 : decode cX10_judge 52 = .ok (.aload_n 0, 1) := by decide +kernel
theorem dX10_judge_53 : decode cX10_judge 53 = .ok (.getfield 31, 3) := by decide +kernel
theorem dX10_judge_56 : decode cX10_judge 56 = .ok (.bipush 40, 2) := by decide +kernel
theorem dX10_judge_58 : decode cX10_judge 58 = .ok (.iload_n 1, 1) := by decide +kernel
theorem dX10_judge_59 : decode cX10_judge 59 = .ok (.imul, 1) := by decide +kernel
theorem dX10_judge_60 : decode cX10_judge 60 = .ok (.iload_n 2, 1) := by decide +kernel
theorem dX10_judge_61 : decode cX10_judge 61 = .ok (.iadd, 1) := by decide +kernel
theorem dX10_judge_62 : decode cX10_judge 62 = .ok (.iaload, 1) := by decide +kernel
theorem dX10_judge_63 : decode cX10_judge 63 = .ok (.aload_n 0, 1) := by decide +kernel
theorem dX10_judge_64 : decode cX10_judge 64 = .ok (.iload_n 2, 1) := by decide +kernel
theorem dX10_judge_65 : decode cX10_judge 65 = .ok (.invokevirtual 75, 3) := by decide +kernel
theorem dX10_judge_68 : decode cX10_judge 68 = .ok (.if_icmp .ne 9, 3) := by decide +kernel
theorem dX10_judge_71 : decode cX10_judge 71 = .ok (.iinc 2 1, 3) := by decide +kernel
theorem dX10_judge_74 : decode cX10_judge 74 = .ok (.goto (-42), 3) := by decide +kernel
theorem dX10_judge_77 : decode cX10_judge 77 = .ok (.iload_n 2, 1) := by decide +kernel
theorem dX10_judge_78 : decode cX10_judge 78 = .ok (.aload_n 0, 1) := by decide +kernel
theorem dX10_judge_79 : decode cX10_judge 79 = .ok (.getfield 7, 3) := by decide +kernel
theorem dX10_judge_82 : decode cX10_judge 82 = .ok (.iconst 2, 1) := by decide +kernel
theorem dX10_judge_83 : decode cX10_judge 83 = .ok (.iaload, 1) := by decide +kernel
theorem dX10_judge_84 : decode cX10_judge 84 = .ok (.if_icmp .ne 17, 3) := by decide +kernel
theorem dX10_judge_87 : decode cX10_judge 87 = .ok (.iload_n 2, 1) := by decide +kernel
theorem dX10_judge_88 : decode cX10_judge 88 = .ok (.aload_n 0, 1) := by decide +kernel
theorem dX10_judge_89 : decode cX10_judge 89 = .ok (.getfield 28, 3) := by decide +kernel
theorem dX10_judge_92 : decode cX10_judge 92 = .ok (.iload_n 1, 1) := by decide +kernel
theorem dX10_judge_93 : decode cX10_judge 93 = .ok (.iaload, 1) := by decide +kernel
theorem dX10_judge_94 : decode cX10_judge 94 = .ok (.if_icmp .ne 7, 3) := by decide +kernel
theorem dX10_judge_97 : decode cX10_judge 97 = .ok (.iconst (-1), 1) := by decide +kernel
theorem dX10_judge_98 : decode cX10_judge 98 = .ok (.goto 4, 3) := by decide +kernel
theorem dX10_judge_101 : decode cX10_judge 101 = .ok (.iload_n 2, 1) := by decide +kernel
theorem dX10_judge_102 : decode cX10_judge 102 = .ok (.ireturn, 1) := by decide +kernel
theorem dX10_image_0 : decode cX10_image 0 = .ok (.aload_n 0, 1) := by decide +kernel
theorem dX10_image_1 : decode cX10_image 1 = .ok (.aload_n 0, 1) := by decide +kernel
theorem dX10_image_2 : decode cX10_image 2 = .ok (.getfield 7, 3) := by decide +kernel
theorem dX10_image_5 : decode cX10_image 5 = .ok (.aload_n 0, 1) := by decide +kernel
theorem dX10_image_6 : decode cX10_image 6 = .ok (.getfield 13, 3) := by decide +kernel
theorem dX10_image_9 : decode cX10_image 9 = .ok (.invokevirtual 158, 3) := by decide +kernel
theorem dX10_image_12 : decode cX10_image 12 = .ok (.aload_n 0, 1) := by decide +kernel
theorem dX10_image_13 : decode cX10_image 13 = .ok (.iconst 1, 1) := by decide +kernel
theorem dX10_image_14 : decode cX10_image 14 = .ok (.putfield 242, 3) := by decide +kernel
theorem dX10_image_17 : decode cX10_image 17 = .ok (.aload_n 0, 1) := by decide +kernel
theorem dX10_image_18 : decode cX10_image 18 = .ok (.dup, 1) := by decide +kernel
theorem dX10_image_19 : decode cX10_image 19 = .ok (.getfield 245, 3) := by decide +kernel
theorem dX10_image_22 : decode cX10_image 22 = .ok (.iconst 1, 1) := by decide +kernel
theorem dX10_image_23 : decode cX10_image 23 = .ok (.iadd, 1) := by decide +kernel
theorem dX10_image_24 : decode cX10_image 24 = .ok (.putfield 245, 3) := by decide +kernel
theorem dX10_image_27 : decode cX10_image 27 = .ok (.aload_n 0, 1) := by decide +kernel
theorem dX10_image_28 : decode cX10_image 28 = .ok (.getfield 245, 3) := by decide +kernel
theorem dX10_image_31 : decode cX10_image 31 = .ok (.ireturn, 1) := by decide +kernel
theorem dX10_restore_0 : decode cX10_restore 0 = .ok (.aload_n 0, 1) := by decide +kernel
theorem dX10_restore_1 : decode cX10_restore 1 = .ok (.getfield 242, 3) := by decide +kernel
theorem dX10_restore_4 : decode cX10_restore 4 = .ok (.ifCond .ne 10, 3) := by decide +kernel
theorem dX10_restore_7 : decode cX10_restore 7 = .ok (.aload_n 0, 1) := by decide +kernel
theorem dX10_restore_8 : decode cX10_restore 8 = .ok (.ldc 187, 2) := by decide +kernel
theorem dX10_restore_10 : decode cX10_restore 10 = .ok (.invokevirtual 49, 3) := by decide +kernel
theorem dX10_restore_13 : decode cX10_restore 13 = .ok (.ireturn, 1) := by decide +kernel
theorem dX10_restore_14 : decode cX10_restore 14 = .ok (.aload_n 0, 1) := by decide +kernel
theorem dX10_restore_15 : decode cX10_restore 15 = .ok (.aload_n 0, 1) := by decide +kernel
theorem dX10_restore_16 : decode cX10_restore 16 = .ok (.getfield 13, 3) := by decide +kernel
theorem dX10_restore_19 : decode cX10_restore 19 = .ok (.aload_n 0, 1) := by decide +kernel
theorem dX10_restore_20 : decode cX10_restore 20 = .ok (.getfield 7, 3) := by decide +kernel
theorem dX10_restore_23 : decode cX10_restore 23 = .ok (.invokevirtual 158, 3) := by decide +kernel
theorem dX10_restore_26 : decode cX10_restore 26 = .ok (.aload_n 0, 1) := by decide +kernel
theorem dX10_restore_27 : decode cX10_restore 27 = .ok (.getfield 7, 3) := by decide +kernel
theorem dX10_restore_30 : decode cX10_restore 30 = .ok (.iconst 0, 1) := by decide +kernel
theorem dX10_restore_31 : decode cX10_restore 31 = .ok (.iaload, 1) := by decide +kernel
theorem dX10_restore_32 : decode cX10_restore 32 = .ok (.ireturn, 1) := by decide +kernel
theorem dX10_tell_0 : decode cX10_tell 0 = .ok (.aload_n 0, 1) := by decide +kernel
theorem dX10_tell_1 : decode cX10_tell 1 = .ok (.getfield 7, 3) := by decide +kernel
theorem dX10_tell_4 : decode cX10_tell 4 = .ok (.iconst 4, 1) := by decide +kernel
theorem dX10_tell_5 : decode cX10_tell 5 = .ok (.iaload, 1) := by decide +kernel
theorem dX10_tell_6 : decode cX10_tell 6 = .ok (.bipush 20, 2) := by decide +kernel
theorem dX10_tell_8 : decode cX10_tell 8 = .ok (.if_icmp .ne 10, 3) := by decide +kernel
theorem dX10_tell_11 : decode cX10_tell 11 = .ok (.aload_n 0, 1) := by decide +kernel
theorem dX10_tell_12 : decode cX10_tell 12 = .ok (.ldc 57, 2) := by decide +kernel
theorem dX10_tell_14 : decode cX10_tell 14 = .ok (.invokevirtual 49, 3) := by decide +kernel
theorem dX10_tell_17 : decode cX10_tell 17 = .ok (.ireturn, 1) := by decide +kernel
theorem dX10_tell_18 : decode cX10_tell 18 = .ok (.aload_n 0, 1) := by decide +kernel
theorem dX10_tell_19 : decode cX10_tell 19 = .ok (.getfield 7, 3) := by decide +kernel
theorem dX10_tell_22 : decode cX10_tell 22 = .ok (.bipush 93, 2) := by decide +kernel
theorem dX10_tell_24 : decode cX10_tell 24 = .ok (.aload_n 0, 1) := by decide +kernel
theorem dX10_tell_25 : decode cX10_tell 25 = .ok (.getfield 7, 3) := by decide +kernel
theorem dX10_tell_28 : decode cX10_tell 28 = .ok (.iconst 4, 1) := by decide +kernel
theorem dX10_tell_29 : decode cX10_tell 29 = .ok (.iaload, 1) := by decide +kernel
theorem dX10_tell_30 : decode cX10_tell 30 = .ok (.iadd, 1) := by decide +kernel
theorem dX10_tell_31 : decode cX10_tell 31 = .ok (.iload_n 1, 1) := by decide +kernel
theorem dX10_tell_32 : decode cX10_tell 32 = .ok (.iastore, 1) := by decide +kernel
theorem dX10_tell_33 : decode cX10_tell 33 = .ok (.aload_n 0, 1) := by decide +kernel
theorem dX10_tell_34 : decode cX10_tell 34 = .ok (.getfield 7, 3) := by decide +kernel
theorem dX10_tell_37 : decode cX10_tell 37 = .ok (.iconst 4, 1) := by decide +kernel
theorem dX10_tell_38 : decode cX10_tell 38 = .ok (.dup2, 1) := by decide +kernel
theorem dX10_tell_39 : decode cX10_tell 39 = .ok (.iaload, 1) := by decide +kernel
theorem dX10_tell_40 : decode cX10_tell 40 = .ok (.iconst 1, 1) := by decide +kernel
theorem dX10_tell_41 : decode cX10_tell 41 = .ok (.iadd, 1) := by decide +kernel
theorem dX10_tell_42 : decode cX10_tell 42 = .ok (.iastore, 1) := by decide +kernel
theorem dX10_tell_43 : decode cX10_tell 43 = .ok (.aload_n 0, 1) := by decide +kernel
theorem dX10_tell_44 : decode cX10_tell 44 = .ok (.getfield 7, 3) := by decide +kernel
theorem dX10_tell_47 : decode cX10_tell 47 = .ok (.iconst 4, 1) := by decide +kernel
theorem dX10_tell_48 : decode cX10_tell 48 = .ok (.iaload, 1) := by decide +kernel
theorem dX10_tell_49 : decode cX10_tell 49 = .ok (.ireturn, 1) := by decide +kernel
theorem dX10_check_0 : decode cX10_check 0 = .ok (.aload_n 0, 1) := by decide +kernel
theorem dX10_check_1 : decode cX10_check 1 = .ok (.getfield 7, 3) := by decide +kernel
theorem dX10_check_4 : decode cX10_check 4 = .ok (.iconst 4, 1) := by decide +kernel
theorem dX10_check_5 : decode cX10_check 5 = .ok (.iaload, 1) := by decide +kernel
theorem dX10_check_6 : decode cX10_check 6 = .ok (.istore_n 1, 1) := by decide +kernel
theorem dX10_check_7 : decode cX10_check 7 = .ok (.aload_n 0, 1) := by decide +kernel
theorem dX10_check_8 : decode cX10_check 8 = .ok (.getfield 7, 3) := by decide +kernel
theorem dX10_check_11 : decode cX10_check 11 = .ok (.iconst 4, 1) := by decide +kernel
theorem dX10_check_12 : decode cX10_check 12 = .ok (.iconst 0, 1) := by decide +kernel
theorem dX10_check_13 : decode cX10_check 13 = .ok (.iastore, 1) := by decide +kernel
theorem dX10_check_14 : decode cX10_check 14 = .ok (.aload_n 0, 1) := by decide +kernel
theorem dX10_check_15 : decode cX10_check 15 = .ok (.aload_n 0, 1) := by decide +kernel
theorem dX10_check_16 : decode cX10_check 16 = .ok (.getfield 7, 3) := by decide +kernel
theorem dX10_check_19 : decode cX10_check 19 = .ok (.aload_n 0, 1) := by decide +kernel
theorem dX10_check_20 : decode cX10_check 20 = .ok (.getfield 16, 3) := by decide +kernel
theorem dX10_check_23 : decode cX10_check 23 = .ok (.invokevirtual 158, 3) := by decide +kernel
theorem dX10_check_26 : decode cX10_check 26 = .ok (.iconst 0, 1) := by decide +kernel
theorem dX10_check_27 : decode cX10_check 27 = .ok (.istore_n 2, 1) := by decide +kernel
theorem dX10_check_28 : decode cX10_check 28 = .ok (.iconst 1, 1) := by decide +kernel
theorem dX10_check_29 : decode cX10_check 29 = .ok (.istore_n 3, 1) := by decide +kernel
theorem dX10_check_30 : decode cX10_check 30 = .ok (.iload_n 2, 1) := by decide +kernel
theorem dX10_check_31 : decode cX10_check 31 = .ok (.iload_n 1, 1) := by decide +kernel
theorem dX10_check_32 : decode cX10_check 32 = .ok (.if_icmp .ge 72, 3) := by decide +kernel
theorem dX10_check_35 : decode cX10_check 35 = .ok (.iload_n 3, 1) := by decide +kernel
theorem dX10_check_36 : decode cX10_check 36 = .ok (.ifCond .eq 68, 3) := by decide +kernel
theorem dX10_check_39 : decode cX10_check 39 = .ok (.aload_n 0, 1) := by decide +kernel
theorem dX10_check_40 : decode cX10_check 40 = .ok (.getfield 7, 3) := by decide +kernel
theorem dX10_check_43 : decode cX10_check 43 = .ok (.iconst 2, 1) := by decide +kernel
theorem dX10_check_44 : decode cX10_check 44 = .ok (.iaload, 1) := by decide +kernel
theorem dX10_check_45 : decode cX10_check 45 = .ok (.ifCond .le 7, 3) := by decide +kernel
theorem dX10_check_48 : decode cX10_check 48 = .ok (.iconst 1, 1) := by decide +kernel
theorem dX10_check_49 : decode cX10_check 49 = .ok (.goto 4, 3) := by decide +kernel
theorem dX10_check_52 : decode cX10_check 52 = .ok (.iconst 0, 1) := by decide +kernel
theorem dX10_check_53 : decode cX10_check 53 = .ok (.istore_n 3, 1) := by decide +kernel
theorem dX10_check_54 : decode cX10_check 54 = .ok (.iload_n 3, 1) := by decide +kernel
theorem dX10_check_55 : decode cX10_check 55 = .ok (.ifCond .eq 34, 3) := by decide +kernel
theorem dX10_check_58 : decode cX10_check 58 = .ok (.aload_n 0, 1) := by decide +kernel
theorem dX10_check_59 : decode cX10_check 59 = .ok (.iconst 0, 1) := by decide +kernel
theorem dX10_check_60 : decode cX10_check 60 = .ok (.invokevirtual 165, 3) := by decide +kernel
theorem dX10_check_63 : decode cX10_check 63 = .ok (.ifCond .lt 24, 3) := by decide +kernel
theorem dX10_check_66 : decode cX10_check 66 = .ok (.aload_n 0, 1) := by decide +kernel
theorem dX10_check_67 : decode cX10_check 67 = .ok (.iconst 0, 1) := by decide +kernel
theorem dX10_check_68 : decode cX10_check 68 = .ok (.invokevirtual 75, 3) := by decide +kernel
theorem dX10_check_71 : decode cX10_check 71 = .ok (.aload_n 0, 1) := by decide +kernel
theorem dX10_check_72 : decode cX10_check 72 = .ok (.getfield 7, 3) := by decide +kernel
theorem dX10_check_75 : decode cX10_check 75 = .ok (.bipush 93, 2) := by decide +kernel
theorem dX10_check_77 : decode cX10_check 77 = .ok (.iload_n 2, 1) := by decide +kernel
theorem dX10_check_78 : decode cX10_check 78 = .ok (.iadd, 1) := by decide +kernel
theorem dX10_check_79 : decode cX10_check 79 = .ok (.iaload, 1) := by decide +kernel
theorem dX10_check_80 : decode cX10_check 80 = .ok (.if_icmp .ne 7, 3) := by decide +kernel
theorem dX10_check_83 : decode cX10_check 83 = .ok (.iconst 1, 1) := by decide +kernel
theorem dX10_check_84 : decode cX10_check 84 = .ok (.goto 4, 3) := by decide +kernel
theorem dX10_check_87 : decode cX10_check 87 = .ok (.iconst 0, 1) := by decide +kernel
theorem dX10_check_88 : decode cX10_check 88 = .ok (.istore_n 3, 1) := by decide +kernel
theorem dX10_check_89 : decode cX10_check 89 = .ok (.iload_n 2, 1) := by decide +kernel
theorem dX10_check_90 : decode cX10_check 90 = .ok (.iload_n 3, 1) := by decide +kernel
theorem dX10_check_91 : decode cX10_check 91 = .ok (.ifCond .eq 7, 3) := by decide +kernel
theorem dX10_check_94 : decode cX10_check 94 = .ok (.iconst 1, 1) := by decide +kernel
theorem dX10_check_95 : decode cX10_check 95 = .ok (.goto 4, 3) := by decide +kernel
theorem dX10_check_98 : decode cX10_check 98 = .ok (.iconst 0, 1) := by decide +kernel
theorem dX10_check_99 : decode cX10_check 99 = .ok (.iadd, 1) := by decide +kernel
theorem dX10_check_100 : decode cX10_check 100 = .ok (.istore_n 2, 1) := by decide +kernel
theorem dX10_check_101 : decode cX10_check 101 = .ok (.goto (-71), 3) := by decide +kernel
theorem dX10_check_104 : decode cX10_check 104 = .ok (.aload_n 0, 1) := by decide +kernel
theorem dX10_check_105 : decode cX10_check 105 = .ok (.aload_n 0, 1) := by decide +kernel
theorem dX10_check_106 : decode cX10_check 106 = .ok (.getfield 16, 3) := by decide +kernel
theorem dX10_check_109 : decode cX10_check 109 = .ok (.aload_n 0, 1) := by decide +kernel
theorem dX10_check_110 : decode cX10_check 110 = .ok (.getfield 7, 3) := by decide +kernel
theorem dX10_check_113 : decode cX10_check 113 = .ok (.invokevirtual 158, 3) := by decide +kernel
theorem dX10_check_116 : decode cX10_check 116 = .ok (.iload_n 3, 1) := by decide +kernel
theorem dX10_check_117 : decode cX10_check 117 = .ok (.ifCond .eq 7, 3) := by decide +kernel
theorem dX10_check_120 : decode cX10_check 120 = .ok (.iconst 0, 1) := by decide +kernel
theorem dX10_check_121 : decode cX10_check 121 = .ok (.goto 6, 3) := by decide +kernel
theorem dX10_check_124 : decode cX10_check 124 = .ok (.iconst 1, 1) := by decide +kernel
theorem dX10_check_125 : decode cX10_check 125 = .ok (.iload_n 2, 1) := by decide +kernel
theorem dX10_check_126 : decode cX10_check 126 = .ok (.iadd, 1) := by decide +kernel
theorem dX10_check_127 : decode cX10_check 127 = .ok (.ireturn, 1) := by decide +kernel
theorem dX10_sumOf_0 : decode cX10_sumOf 0 = .ok (.iconst 0, 1) := by decide +kernel
theorem dX10_sumOf_1 : decode cX10_sumOf 1 = .ok (.istore_n 2, 1) := by decide +kernel
theorem dX10_sumOf_2 : decode cX10_sumOf 2 = .ok (.iconst 0, 1) := by decide +kernel
theorem dX10_sumOf_3 : decode cX10_sumOf 3 = .ok (.istore_n 3, 1) := by decide +kernel
theorem dX10_sumOf_4 : decode cX10_sumOf 4 = .ok (.iload_n 3, 1) := by decide +kernel
theorem dX10_sumOf_5 : decode cX10_sumOf 5 = .ok (.aload_n 0, 1) := by decide +kernel
theorem dX10_sumOf_6 : decode cX10_sumOf 6 = .ok (.getfield 7, 3) := by decide +kernel
theorem dX10_sumOf_9 : decode cX10_sumOf 9 = .ok (.iconst 2, 1) := by decide +kernel
theorem dX10_sumOf_10 : decode cX10_sumOf 10 = .ok (.iaload, 1) := by decide +kernel
theorem dX10_sumOf_11 : decode cX10_sumOf 11 = .ok (.if_icmp .ge 18, 3) := by decide +kernel
theorem dX10_sumOf_14 : decode cX10_sumOf 14 = .ok (.iload_n 2, 1) := by decide +kernel
theorem dX10_sumOf_15 : decode cX10_sumOf 15 = .ok (.aload_n 0, 1) := by decide +kernel
theorem dX10_sumOf_16 : decode cX10_sumOf 16 = .ok (.iload_n 3, 1) := by decide +kernel
theorem dX10_sumOf_17 : decode cX10_sumOf 17 = .ok (.iload_n 1, 1) := by decide +kernel
theorem dX10_sumOf_18 : decode cX10_sumOf 18 = .ok (.invokevirtual 78, 3) := by decide +kernel
theorem dX10_sumOf_21 : decode cX10_sumOf 21 = .ok (.iadd, 1) := by decide +kernel
theorem dX10_sumOf_22 : decode cX10_sumOf 22 = .ok (.istore_n 2, 1) := by decide +kernel
theorem dX10_sumOf_23 : decode cX10_sumOf 23 = .ok (.iinc 3 1, 3) := by decide +kernel
theorem dX10_sumOf_26 : decode cX10_sumOf 26 = .ok (.goto (-22), 3) := by decide +kernel
theorem dX10_sumOf_29 : decode cX10_sumOf 29 = .ok (.iload_n 2, 1) := by decide +kernel
theorem dX10_sumOf_30 : decode cX10_sumOf 30 = .ok (.ireturn, 1) := by decide +kernel
theorem dX10_count_0 : decode cX10_count 0 = .ok (.iload_n 1, 1) := by decide +kernel
theorem dX10_count_1 : decode cX10_count 1 = .ok (.tableswitch 99 0 7 #[47, 54, 61, 67, 73, 80, 87, 92], 47) := by decide +kernel
theorem dX10_count_48 : decode cX10_count 48 = .ok (.aload_n 0, 1) := by decide +kernel
theorem dX10_count_49 : decode cX10_count 49 = .ok (.getfield 7, 3) := by decide +kernel
theorem dX10_count_52 : decode cX10_count 52 = .ok (.iconst 2, 1) := by decide +kernel
theorem dX10_count_53 : decode cX10_count 53 = .ok (.iaload, 1) := by decide +kernel
theorem dX10_count_54 : decode cX10_count 54 = .ok (.ireturn, 1) := by decide +kernel
theorem dX10_count_55 : decode cX10_count 55 = .ok (.aload_n 0, 1) := by decide +kernel
theorem dX10_count_56 : decode cX10_count 56 = .ok (.getfield 7, 3) := by decide +kernel
theorem dX10_count_59 : decode cX10_count 59 = .ok (.iconst 0, 1) := by decide +kernel
theorem dX10_count_60 : decode cX10_count 60 = .ok (.iaload, 1) := by decide +kernel
theorem dX10_count_61 : decode cX10_count 61 = .ok (.ireturn, 1) := by decide +kernel
theorem dX10_count_62 : decode cX10_count 62 = .ok (.aload_n 0, 1) := by decide +kernel
theorem dX10_count_63 : decode cX10_count 63 = .ok (.iconst 3, 1) := by decide +kernel
theorem dX10_count_64 : decode cX10_count 64 = .ok (.invokevirtual 248, 3) := by decide +kernel
theorem dX10_count_67 : decode cX10_count 67 = .ok (.ireturn, 1) := by decide +kernel
theorem dX10_count_68 : decode cX10_count 68 = .ok (.aload_n 0, 1) := by decide +kernel
theorem dX10_count_69 : decode cX10_count 69 = .ok (.iconst 4, 1) := by decide +kernel
theorem dX10_count_70 : decode cX10_count 70 = .ok (.invokevirtual 248, 3) := by decide +kernel
theorem dX10_count_73 : decode cX10_count 73 = .ok (.ireturn, 1) := by decide +kernel
theorem dX10_count_74 : decode cX10_count 74 = .ok (.aload_n 0, 1) := by decide +kernel
theorem dX10_count_75 : decode cX10_count 75 = .ok (.getfield 7, 3) := by decide +kernel
theorem dX10_count_78 : decode cX10_count 78 = .ok (.iconst 3, 1) := by decide +kernel
theorem dX10_count_79 : decode cX10_count 79 = .ok (.iaload, 1) := by decide +kernel
theorem dX10_count_80 : decode cX10_count 80 = .ok (.ireturn, 1) := by decide +kernel
theorem dX10_count_81 : decode cX10_count 81 = .ok (.aload_n 0, 1) := by decide +kernel
theorem dX10_count_82 : decode cX10_count 82 = .ok (.getfield 7, 3) := by decide +kernel
theorem dX10_count_85 : decode cX10_count 85 = .ok (.iconst 4, 1) := by decide +kernel
theorem dX10_count_86 : decode cX10_count 86 = .ok (.iaload, 1) := by decide +kernel
theorem dX10_count_87 : decode cX10_count 87 = .ok (.ireturn, 1) := by decide +kernel
theorem dX10_count_88 : decode cX10_count 88 = .ok (.aload_n 0, 1) := by decide +kernel
theorem dX10_count_89 : decode cX10_count 89 = .ok (.getfield 212, 3) := by decide +kernel
theorem dX10_count_92 : decode cX10_count 92 = .ok (.ireturn, 1) := by decide +kernel
theorem dX10_count_93 : decode cX10_count 93 = .ok (.aload_n 0, 1) := by decide +kernel
theorem dX10_count_94 : decode cX10_count 94 = .ok (.getfield 7, 3) := by decide +kernel
theorem dX10_count_97 : decode cX10_count 97 = .ok (.iconst 1, 1) := by decide +kernel
theorem dX10_count_98 : decode cX10_count 98 = .ok (.iaload, 1) := by decide +kernel
theorem dX10_count_99 : decode cX10_count 99 = .ok (.ireturn, 1) := by decide +kernel
theorem dX10_count_100 : decode cX10_count 100 = .ok (.aload_n 0, 1) := by decide +kernel
theorem dX10_count_101 : decode cX10_count 101 = .ok (.ldc 48, 2) := by decide +kernel
theorem dX10_count_103 : decode cX10_count 103 = .ok (.invokevirtual 49, 3) := by decide +kernel
theorem dX10_count_106 : decode cX10_count 106 = .ok (.ireturn, 1) := by decide +kernel
theorem dX10_told_0 : decode cX10_told 0 = .ok (.iload_n 1, 1) := by decide +kernel
theorem dX10_told_1 : decode cX10_told 1 = .ok (.iconst 1, 1) := by decide +kernel
theorem dX10_told_2 : decode cX10_told 2 = .ok (.iconst 5, 1) := by decide +kernel
theorem dX10_told_3 : decode cX10_told 3 = .ok (.invokestatic 44, 3) := by decide +kernel
theorem dX10_told_6 : decode cX10_told 6 = .ok (.ifCond .eq 12, 3) := by decide +kernel
theorem dX10_told_9 : decode cX10_told 9 = .ok (.aload_n 0, 1) := by decide +kernel
theorem dX10_told_10 : decode cX10_told 10 = .ok (.getfield 22, 3) := by decide +kernel
theorem dX10_told_13 : decode cX10_told 13 = .ok (.iload_n 1, 1) := by decide +kernel
theorem dX10_told_14 : decode cX10_told 14 = .ok (.iaload, 1) := by decide +kernel
theorem dX10_told_15 : decode cX10_told 15 = .ok (.goto 9, 3) := by decide +kernel
theorem dX10_told_18 : decode cX10_told 18 = .ok (.aload_n 0, 1) := by decide +kernel
theorem dX10_told_19 : decode cX10_told 19 = .ok (.ldc 48, 2) := by decide +kernel
theorem dX10_told_21 : decode cX10_told 21 = .ok (.invokevirtual 49, 3) := by decide +kernel
theorem dX10_told_24 : decode cX10_told 24 = .ok (.ireturn, 1) := by decide +kernel
end
section
theorem dL_law_0 : decode cL_law 0 = .ok (.new 7, 3) := by decide +kernel
theorem dL_law_3 : decode cL_law 3 = .ok (.dup, 1) := by decide +kernel
theorem dL_law_4 : decode cL_law 4 = .ok (.invokespecial 9, 3) := by decide +kernel
theorem dL_law_7 : decode cL_law 7 = .ok (.astore_n 1, 1) := by decide +kernel
theorem dL_law_8 : decode cL_law 8 = .ok (.new 10, 3) := by decide +kernel
theorem dL_law_11 : decode cL_law 11 = .ok (.dup, 1) := by decide +kernel
theorem dL_law_12 : decode cL_law 12 = .ok (.invokespecial 12, 3) := by decide +kernel
theorem dL_law_15 : decode cL_law 15 = .ok (.astore_n 2, 1) := by decide +kernel
theorem dL_law_16 : decode cL_law 16 = .ok (.iconst 0, 1) := by decide +kernel
theorem dL_law_17 : decode cL_law 17 = .ok (.istore_n 3, 1) := by decide +kernel
theorem dL_law_18 : decode cL_law 18 = .ok (.iload_n 3, 1) := by decide +kernel
theorem dL_law_19 : decode cL_law 19 = .ok (.aload_n 0, 1) := by decide +kernel
theorem dL_law_20 : decode cL_law 20 = .ok (.arraylength, 1) := by decide +kernel
theorem dL_law_21 : decode cL_law 21 = .ok (.bipush 6, 2) := by decide +kernel
theorem dL_law_23 : decode cL_law 23 = .ok (.isub, 1) := by decide +kernel
theorem dL_law_24 : decode cL_law 24 = .ok (.if_icmp .gt 1302, 3) := by decide +kernel
theorem dL_law_27 : decode cL_law 27 = .ok (.aload_n 0, 1) := by decide +kernel
theorem dL_law_28 : decode cL_law 28 = .ok (.iload_n 3, 1) := by decide +kernel
theorem dL_law_29 : decode cL_law 29 = .ok (.iaload, 1) := by decide +kernel
theorem dL_law_30 : decode cL_law 30 = .ok (.bipush 63, 2) := by decide +kernel
theorem dL_law_32 : decode cL_law 32 = .ok (.iand, 1) := by decide +kernel
theorem dL_law_33 : decode cL_law 33 = .ok (.tableswitch 1287 0 35 #[159, 192, 215, 248, 281, 324, 357, 390, 453, 476, 529, 562, 585, 608, 641, 664, 697, 720, 753, 776, 819, 862, 895, 918, 961, 984, 1027, 1070, 1133, 1156, 1179, 1192, 1205, 1228, 1241, 1264], 159) := by decide +kernel
theorem dL_law_192 : decode cL_law 192 = .ok (.aload_n 1, 1) := by decide +kernel
theorem dL_law_193 : decode cL_law 193 = .ok (.aload_n 0, 1) := by decide +kernel
theorem dL_law_194 : decode cL_law 194 = .ok (.iload_n 3, 1) := by decide +kernel
theorem dL_law_195 : decode cL_law 195 = .ok (.iconst 1, 1) := by decide +kernel
theorem dL_law_196 : decode cL_law 196 = .ok (.iadd, 1) := by decide +kernel
theorem dL_law_197 : decode cL_law 197 = .ok (.iaload, 1) := by decide +kernel
theorem dL_law_198 : decode cL_law 198 = .ok (.aload_n 0, 1) := by decide +kernel
theorem dL_law_199 : decode cL_law 199 = .ok (.iload_n 3, 1) := by decide +kernel
theorem dL_law_200 : decode cL_law 200 = .ok (.iconst 2, 1) := by decide +kernel
theorem dL_law_201 : decode cL_law 201 = .ok (.iadd, 1) := by decide +kernel
theorem dL_law_202 : decode cL_law 202 = .ok (.iaload, 1) := by decide +kernel
theorem dL_law_203 : decode cL_law 203 = .ok (.invokevirtual 13, 3) := by decide +kernel
theorem dL_law_206 : decode cL_law 206 = .ok (.aload_n 2, 1) := by decide +kernel
theorem dL_law_207 : decode cL_law 207 = .ok (.aload_n 0, 1) := by decide +kernel
theorem dL_law_208 : decode cL_law 208 = .ok (.iload_n 3, 1) := by decide +kernel
theorem dL_law_209 : decode cL_law 209 = .ok (.iconst 1, 1) := by decide +kernel
theorem dL_law_210 : decode cL_law 210 = .ok (.iadd, 1) := by decide +kernel
theorem dL_law_211 : decode cL_law 211 = .ok (.iaload, 1) := by decide +kernel
theorem dL_law_212 : decode cL_law 212 = .ok (.aload_n 0, 1) := by decide +kernel
theorem dL_law_213 : decode cL_law 213 = .ok (.iload_n 3, 1) := by decide +kernel
theorem dL_law_214 : decode cL_law 214 = .ok (.iconst 2, 1) := by decide +kernel
theorem dL_law_215 : decode cL_law 215 = .ok (.iadd, 1) := by decide +kernel
theorem dL_law_216 : decode cL_law 216 = .ok (.iaload, 1) := by decide +kernel
theorem dL_law_217 : decode cL_law 217 = .ok (.invokevirtual 17, 3) := by decide +kernel
theorem dL_law_220 : decode cL_law 220 = .ok (.if_icmp .eq 1100, 3) := by decide +kernel
theorem dL_law_223 : decode cL_law 223 = .ok (.iconst 0, 1) := by decide +kernel
theorem dL_law_224 : decode cL_law 224 = .ok (.ireturn, 1) := by decide +kernel
theorem dL_law_225 : decode cL_law 225 = .ok (.aload_n 1, 1) := by decide +kernel
theorem dL_law_226 : decode cL_law 226 = .ok (.aload_n 0, 1) := by decide +kernel
theorem dL_law_227 : decode cL_law 227 = .ok (.iload_n 3, 1) := by decide +kernel
theorem dL_law_228 : decode cL_law 228 = .ok (.iconst 1, 1) := by decide +kernel
theorem dL_law_229 : decode cL_law 229 = .ok (.iadd, 1) := by decide +kernel
theorem dL_law_230 : decode cL_law 230 = .ok (.iaload, 1) := by decide +kernel
theorem dL_law_231 : decode cL_law 231 = .ok (.invokevirtual 18, 3) := by decide +kernel
theorem dL_law_234 : decode cL_law 234 = .ok (.aload_n 2, 1) := by decide +kernel
theorem dL_law_235 : decode cL_law 235 = .ok (.aload_n 0, 1) := by decide +kernel
theorem dL_law_236 : decode cL_law 236 = .ok (.iload_n 3, 1) := by decide +kernel
theorem dL_law_237 : decode cL_law 237 = .ok (.iconst 1, 1) := by decide +kernel
theorem dL_law_238 : decode cL_law 238 = .ok (.iadd, 1) := by decide +kernel
theorem dL_law_239 : decode cL_law 239 = .ok (.iaload, 1) := by decide +kernel
theorem dL_law_240 : decode cL_law 240 = .ok (.invokevirtual 22, 3) := by decide +kernel
theorem dL_law_243 : decode cL_law 243 = .ok (.if_icmp .eq 1077, 3) := by decide +kernel
theorem dL_law_246 : decode cL_law 246 = .ok (.iconst 0, 1) := by decide +kernel
theorem dL_law_247 : decode cL_law 247 = .ok (.ireturn, 1) := by decide +kernel
theorem dL_law_248 : decode cL_law 248 = .ok (.aload_n 1, 1) := by decide +kernel
theorem dL_law_249 : decode cL_law 249 = .ok (.aload_n 0, 1) := by decide +kernel
theorem dL_law_250 : decode cL_law 250 = .ok (.iload_n 3, 1) := by decide +kernel
theorem dL_law_251 : decode cL_law 251 = .ok (.iconst 1, 1) := by decide +kernel
theorem dL_law_252 : decode cL_law 252 = .ok (.iadd, 1) := by decide +kernel
theorem dL_law_253 : decode cL_law 253 = .ok (.iaload, 1) := by decide +kernel
theorem dL_law_254 : decode cL_law 254 = .ok (.aload_n 0, 1) := by decide +kernel
theorem dL_law_255 : decode cL_law 255 = .ok (.iload_n 3, 1) := by decide +kernel
theorem dL_law_256 : decode cL_law 256 = .ok (.iconst 2, 1) := by decide +kernel
theorem dL_law_257 : decode cL_law 257 = .ok (.iadd, 1) := by decide +kernel
theorem dL_law_258 : decode cL_law 258 = .ok (.iaload, 1) := by decide +kernel
theorem dL_law_259 : decode cL_law 259 = .ok (.invokevirtual 23, 3) := by decide +kernel
theorem dL_law_262 : decode cL_law 262 = .ok (.aload_n 2, 1) := by decide +kernel
theorem dL_law_263 : decode cL_law 263 = .ok (.aload_n 0, 1) := by decide +kernel
theorem dL_law_264 : decode cL_law 264 = .ok (.iload_n 3, 1) := by decide +kernel
theorem dL_law_265 : decode cL_law 265 = .ok (.iconst 1, 1) := by decide +kernel
theorem dL_law_266 : decode cL_law 266 = .ok (.iadd, 1) := by decide +kernel
theorem dL_law_267 : decode cL_law 267 = .ok (.iaload, 1) := by decide +kernel
theorem dL_law_268 : decode cL_law 268 = .ok (.aload_n 0, 1) := by decide +kernel
theorem dL_law_269 : decode cL_law 269 = .ok (.iload_n 3, 1) := by decide +kernel
theorem dL_law_270 : decode cL_law 270 = .ok (.iconst 2, 1) := by decide +kernel
theorem dL_law_271 : decode cL_law 271 = .ok (.iadd, 1) := by decide +kernel
theorem dL_law_272 : decode cL_law 272 = .ok (.iaload, 1) := by decide +kernel
theorem dL_law_273 : decode cL_law 273 = .ok (.invokevirtual 26, 3) := by decide +kernel
theorem dL_law_276 : decode cL_law 276 = .ok (.if_icmp .eq 1044, 3) := by decide +kernel
theorem dL_law_279 : decode cL_law 279 = .ok (.iconst 0, 1) := by decide +kernel
theorem dL_law_280 : decode cL_law 280 = .ok (.ireturn, 1) := by decide +kernel
theorem dL_law_281 : decode cL_law 281 = .ok (.aload_n 1, 1) := by decide +kernel
theorem dL_law_282 : decode cL_law 282 = .ok (.aload_n 0, 1) := by decide +kernel
theorem dL_law_283 : decode cL_law 283 = .ok (.iload_n 3, 1) := by decide +kernel
theorem dL_law_284 : decode cL_law 284 = .ok (.iconst 1, 1) := by decide +kernel
theorem dL_law_285 : decode cL_law 285 = .ok (.iadd, 1) := by decide +kernel
theorem dL_law_286 : decode cL_law 286 = .ok (.iaload, 1) := by decide +kernel
theorem dL_law_287 : decode cL_law 287 = .ok (.aload_n 0, 1) := by decide +kernel
theorem dL_law_288 : decode cL_law 288 = .ok (.iload_n 3, 1) := by decide +kernel
theorem dL_law_289 : decode cL_law 289 = .ok (.iconst 2, 1) := by decide +kernel
theorem dL_law_290 : decode cL_law 290 = .ok (.iadd, 1) := by decide +kernel
theorem dL_law_291 : decode cL_law 291 = .ok (.iaload, 1) := by decide +kernel
theorem dL_law_292 : decode cL_law 292 = .ok (.invokevirtual 27, 3) := by decide +kernel
theorem dL_law_295 : decode cL_law 295 = .ok (.aload_n 2, 1) := by decide +kernel
theorem dL_law_296 : decode cL_law 296 = .ok (.aload_n 0, 1) := by decide +kernel
theorem dL_law_297 : decode cL_law 297 = .ok (.iload_n 3, 1) := by decide +kernel
theorem dL_law_298 : decode cL_law 298 = .ok (.iconst 1, 1) := by decide +kernel
theorem dL_law_299 : decode cL_law 299 = .ok (.iadd, 1) := by decide +kernel
theorem dL_law_300 : decode cL_law 300 = .ok (.iaload, 1) := by decide +kernel
theorem dL_law_301 : decode cL_law 301 = .ok (.aload_n 0, 1) := by decide +kernel
theorem dL_law_302 : decode cL_law 302 = .ok (.iload_n 3, 1) := by decide +kernel
theorem dL_law_303 : decode cL_law 303 = .ok (.iconst 2, 1) := by decide +kernel
theorem dL_law_304 : decode cL_law 304 = .ok (.iadd, 1) := by decide +kernel
theorem dL_law_305 : decode cL_law 305 = .ok (.iaload, 1) := by decide +kernel
theorem dL_law_306 : decode cL_law 306 = .ok (.invokevirtual 30, 3) := by decide +kernel
theorem dL_law_309 : decode cL_law 309 = .ok (.if_icmp .eq 1011, 3) := by decide +kernel
theorem dL_law_312 : decode cL_law 312 = .ok (.iconst 0, 1) := by decide +kernel
theorem dL_law_313 : decode cL_law 313 = .ok (.ireturn, 1) := by decide +kernel
theorem dL_law_314 : decode cL_law 314 = .ok (.aload_n 1, 1) := by decide +kernel
theorem dL_law_315 : decode cL_law 315 = .ok (.aload_n 0, 1) := by decide +kernel
theorem dL_law_316 : decode cL_law 316 = .ok (.iload_n 3, 1) := by decide +kernel
theorem dL_law_317 : decode cL_law 317 = .ok (.iconst 1, 1) := by decide +kernel
theorem dL_law_318 : decode cL_law 318 = .ok (.iadd, 1) := by decide +kernel
theorem dL_law_319 : decode cL_law 319 = .ok (.iaload, 1) := by decide +kernel
theorem dL_law_320 : decode cL_law 320 = .ok (.aload_n 0, 1) := by decide +kernel
theorem dL_law_321 : decode cL_law 321 = .ok (.iload_n 3, 1) := by decide +kernel
theorem dL_law_322 : decode cL_law 322 = .ok (.iconst 2, 1) := by decide +kernel
theorem dL_law_323 : decode cL_law 323 = .ok (.iadd, 1) := by decide +kernel
theorem dL_law_324 : decode cL_law 324 = .ok (.iaload, 1) := by decide +kernel
theorem dL_law_325 : decode cL_law 325 = .ok (.aload_n 0, 1) := by decide +kernel
theorem dL_law_326 : decode cL_law 326 = .ok (.iload_n 3, 1) := by decide +kernel
theorem dL_law_327 : decode cL_law 327 = .ok (.iconst 3, 1) := by decide +kernel
theorem dL_law_328 : decode cL_law 328 = .ok (.iadd, 1) := by decide +kernel
theorem dL_law_329 : decode cL_law 329 = .ok (.iaload, 1) := by decide +kernel
theorem dL_law_330 : decode cL_law 330 = .ok (.invokevirtual 31, 3) := by decide +kernel
theorem dL_law_333 : decode cL_law 333 = .ok (.aload_n 2, 1) := by decide +kernel
theorem dL_law_334 : decode cL_law 334 = .ok (.aload_n 0, 1) := by decide +kernel
theorem dL_law_335 : decode cL_law 335 = .ok (.iload_n 3, 1) := by decide +kernel
theorem dL_law_336 : decode cL_law 336 = .ok (.iconst 1, 1) := by decide +kernel
theorem dL_law_337 : decode cL_law 337 = .ok (.iadd, 1) := by decide +kernel
theorem dL_law_338 : decode cL_law 338 = .ok (.iaload, 1) := by decide +kernel
theorem dL_law_339 : decode cL_law 339 = .ok (.aload_n 0, 1) := by decide +kernel
theorem dL_law_340 : decode cL_law 340 = .ok (.iload_n 3, 1) := by decide +kernel
theorem dL_law_341 : decode cL_law 341 = .ok (.iconst 2, 1) := by decide +kernel
theorem dL_law_342 : decode cL_law 342 = .ok (.iadd, 1) := by decide +kernel
theorem dL_law_343 : decode cL_law 343 = .ok (.iaload, 1) := by decide +kernel
theorem dL_law_344 : decode cL_law 344 = .ok (.aload_n 0, 1) := by decide +kernel
theorem dL_law_345 : decode cL_law 345 = .ok (.iload_n 3, 1) := by decide +kernel
theorem dL_law_346 : decode cL_law 346 = .ok (.iconst 3, 1) := by decide +kernel
theorem dL_law_347 : decode cL_law 347 = .ok (.iadd, 1) := by decide +kernel
theorem dL_law_348 : decode cL_law 348 = .ok (.iaload, 1) := by decide +kernel
theorem dL_law_349 : decode cL_law 349 = .ok (.invokevirtual 35, 3) := by decide +kernel
theorem dL_law_352 : decode cL_law 352 = .ok (.if_icmp .eq 968, 3) := by decide +kernel
theorem dL_law_355 : decode cL_law 355 = .ok (.iconst 0, 1) := by decide +kernel
theorem dL_law_356 : decode cL_law 356 = .ok (.ireturn, 1) := by decide +kernel
theorem dL_law_357 : decode cL_law 357 = .ok (.aload_n 1, 1) := by decide +kernel
theorem dL_law_358 : decode cL_law 358 = .ok (.aload_n 0, 1) := by decide +kernel
theorem dL_law_359 : decode cL_law 359 = .ok (.iload_n 3, 1) := by decide +kernel
theorem dL_law_360 : decode cL_law 360 = .ok (.iconst 1, 1) := by decide +kernel
theorem dL_law_361 : decode cL_law 361 = .ok (.iadd, 1) := by decide +kernel
theorem dL_law_362 : decode cL_law 362 = .ok (.iaload, 1) := by decide +kernel
theorem dL_law_363 : decode cL_law 363 = .ok (.aload_n 0, 1) := by decide +kernel
theorem dL_law_364 : decode cL_law 364 = .ok (.iload_n 3, 1) := by decide +kernel
theorem dL_law_365 : decode cL_law 365 = .ok (.iconst 2, 1) := by decide +kernel
theorem dL_law_366 : decode cL_law 366 = .ok (.iadd, 1) := by decide +kernel
theorem dL_law_367 : decode cL_law 367 = .ok (.iaload, 1) := by decide +kernel
theorem dL_law_368 : decode cL_law 368 = .ok (.invokevirtual 36, 3) := by decide +kernel
theorem dL_law_371 : decode cL_law 371 = .ok (.aload_n 2, 1) := by decide +kernel
theorem dL_law_372 : decode cL_law 372 = .ok (.aload_n 0, 1) := by decide +kernel
theorem dL_law_373 : decode cL_law 373 = .ok (.iload_n 3, 1) := by decide +kernel
theorem dL_law_374 : decode cL_law 374 = .ok (.iconst 1, 1) := by decide +kernel
theorem dL_law_375 : decode cL_law 375 = .ok (.iadd, 1) := by decide +kernel
theorem dL_law_376 : decode cL_law 376 = .ok (.iaload, 1) := by decide +kernel
theorem dL_law_377 : decode cL_law 377 = .ok (.aload_n 0, 1) := by decide +kernel
theorem dL_law_378 : decode cL_law 378 = .ok (.iload_n 3, 1) := by decide +kernel
theorem dL_law_379 : decode cL_law 379 = .ok (.iconst 2, 1) := by decide +kernel
theorem dL_law_380 : decode cL_law 380 = .ok (.iadd, 1) := by decide +kernel
theorem dL_law_381 : decode cL_law 381 = .ok (.iaload, 1) := by decide +kernel
theorem dL_law_382 : decode cL_law 382 = .ok (.invokevirtual 39, 3) := by decide +kernel
theorem dL_law_385 : decode cL_law 385 = .ok (.if_icmp .eq 935, 3) := by decide +kernel
theorem dL_law_388 : decode cL_law 388 = .ok (.iconst 0, 1) := by decide +kernel
theorem dL_law_389 : decode cL_law 389 = .ok (.ireturn, 1) := by decide +kernel
theorem dL_law_390 : decode cL_law 390 = .ok (.aload_n 1, 1) := by decide +kernel
theorem dL_law_391 : decode cL_law 391 = .ok (.aload_n 0, 1) := by decide +kernel
theorem dL_law_392 : decode cL_law 392 = .ok (.iload_n 3, 1) := by decide +kernel
theorem dL_law_393 : decode cL_law 393 = .ok (.iconst 1, 1) := by decide +kernel
theorem dL_law_394 : decode cL_law 394 = .ok (.iadd, 1) := by decide +kernel
theorem dL_law_395 : decode cL_law 395 = .ok (.iaload, 1) := by decide +kernel
theorem dL_law_396 : decode cL_law 396 = .ok (.aload_n 0, 1) := by decide +kernel
theorem dL_law_397 : decode cL_law 397 = .ok (.iload_n 3, 1) := by decide +kernel
theorem dL_law_398 : decode cL_law 398 = .ok (.iconst 2, 1) := by decide +kernel
theorem dL_law_399 : decode cL_law 399 = .ok (.iadd, 1) := by decide +kernel
theorem dL_law_400 : decode cL_law 400 = .ok (.iaload, 1) := by decide +kernel
theorem dL_law_401 : decode cL_law 401 = .ok (.invokevirtual 40, 3) := by decide +kernel
theorem dL_law_404 : decode cL_law 404 = .ok (.aload_n 2, 1) := by decide +kernel
theorem dL_law_405 : decode cL_law 405 = .ok (.aload_n 0, 1) := by decide +kernel
theorem dL_law_406 : decode cL_law 406 = .ok (.iload_n 3, 1) := by decide +kernel
theorem dL_law_407 : decode cL_law 407 = .ok (.iconst 1, 1) := by decide +kernel
theorem dL_law_408 : decode cL_law 408 = .ok (.iadd, 1) := by decide +kernel
theorem dL_law_409 : decode cL_law 409 = .ok (.iaload, 1) := by decide +kernel
theorem dL_law_410 : decode cL_law 410 = .ok (.aload_n 0, 1) := by decide +kernel
theorem dL_law_411 : decode cL_law 411 = .ok (.iload_n 3, 1) := by decide +kernel
theorem dL_law_412 : decode cL_law 412 = .ok (.iconst 2, 1) := by decide +kernel
theorem dL_law_413 : decode cL_law 413 = .ok (.iadd, 1) := by decide +kernel
theorem dL_law_414 : decode cL_law 414 = .ok (.iaload, 1) := by decide +kernel
theorem dL_law_415 : decode cL_law 415 = .ok (.invokevirtual 43, 3) := by decide +kernel
theorem dL_law_418 : decode cL_law 418 = .ok (.if_icmp .eq 902, 3) := by decide +kernel
theorem dL_law_421 : decode cL_law 421 = .ok (.iconst 0, 1) := by decide +kernel
theorem dL_law_422 : decode cL_law 422 = .ok (.ireturn, 1) := by decide +kernel
theorem dL_law_423 : decode cL_law 423 = .ok (.aload_n 1, 1) := by decide +kernel
theorem dL_law_424 : decode cL_law 424 = .ok (.aload_n 0, 1) := by decide +kernel
theorem dL_law_425 : decode cL_law 425 = .ok (.iload_n 3, 1) := by decide +kernel
theorem dL_law_426 : decode cL_law 426 = .ok (.iconst 1, 1) := by decide +kernel
theorem dL_law_427 : decode cL_law 427 = .ok (.iadd, 1) := by decide +kernel
theorem dL_law_428 : decode cL_law 428 = .ok (.iaload, 1) := by decide +kernel
theorem dL_law_429 : decode cL_law 429 = .ok (.i2l, 1) := by decide +kernel
theorem dL_law_430 : decode cL_law 430 = .ok (.bipush 32, 2) := by decide +kernel
theorem dL_law_432 : decode cL_law 432 = .ok (.lshl, 1) := by decide +kernel
theorem dL_law_433 : decode cL_law 433 = .ok (.aload_n 0, 1) := by decide +kernel
theorem dL_law_434 : decode cL_law 434 = .ok (.iload_n 3, 1) := by decide +kernel
theorem dL_law_435 : decode cL_law 435 = .ok (.iconst 2, 1) := by decide +kernel
theorem dL_law_436 : decode cL_law 436 = .ok (.iadd, 1) := by decide +kernel
theorem dL_law_437 : decode cL_law 437 = .ok (.iaload, 1) := by decide +kernel
theorem dL_law_438 : decode cL_law 438 = .ok (.i2l, 1) := by decide +kernel
theorem dL_law_439 : decode cL_law 439 = .ok (.ldc2_w 44, 3) := by decide +kernel
theorem dL_law_442 : decode cL_law 442 = .ok (.land, 1) := by decide +kernel
theorem dL_law_443 : decode cL_law 443 = .ok (.lor, 1) := by decide +kernel
theorem dL_law_444 : decode cL_law 444 = .ok (.aload_n 0, 1) := by decide +kernel
theorem dL_law_445 : decode cL_law 445 = .ok (.iload_n 3, 1) := by decide +kernel
theorem dL_law_446 : decode cL_law 446 = .ok (.iconst 3, 1) := by decide +kernel
theorem dL_law_447 : decode cL_law 447 = .ok (.iadd, 1) := by decide +kernel
theorem dL_law_448 : decode cL_law 448 = .ok (.iaload, 1) := by decide +kernel
theorem dL_law_449 : decode cL_law 449 = .ok (.invokevirtual 46, 3) := by decide +kernel
theorem dL_law_452 : decode cL_law 452 = .ok (.aload_n 2, 1) := by decide +kernel
theorem dL_law_453 : decode cL_law 453 = .ok (.aload_n 0, 1) := by decide +kernel
theorem dL_law_454 : decode cL_law 454 = .ok (.iload_n 3, 1) := by decide +kernel
theorem dL_law_455 : decode cL_law 455 = .ok (.iconst 1, 1) := by decide +kernel
theorem dL_law_456 : decode cL_law 456 = .ok (.iadd, 1) := by decide +kernel
theorem dL_law_457 : decode cL_law 457 = .ok (.iaload, 1) := by decide +kernel
theorem dL_law_458 : decode cL_law 458 = .ok (.i2l, 1) := by decide +kernel
theorem dL_law_459 : decode cL_law 459 = .ok (.bipush 32, 2) := by decide +kernel
theorem dL_law_461 : decode cL_law 461 = .ok (.lshl, 1) := by decide +kernel
theorem dL_law_462 : decode cL_law 462 = .ok (.aload_n 0, 1) := by decide +kernel
theorem dL_law_463 : decode cL_law 463 = .ok (.iload_n 3, 1) := by decide +kernel
theorem dL_law_464 : decode cL_law 464 = .ok (.iconst 2, 1) := by decide +kernel
theorem dL_law_465 : decode cL_law 465 = .ok (.iadd, 1) := by decide +kernel
theorem dL_law_466 : decode cL_law 466 = .ok (.iaload, 1) := by decide +kernel
theorem dL_law_467 : decode cL_law 467 = .ok (.i2l, 1) := by decide +kernel
theorem dL_law_468 : decode cL_law 468 = .ok (.ldc2_w 44, 3) := by decide +kernel
theorem dL_law_471 : decode cL_law 471 = .ok (.land, 1) := by decide +kernel
theorem dL_law_472 : decode cL_law 472 = .ok (.lor, 1) := by decide +kernel
theorem dL_law_473 : decode cL_law 473 = .ok (.aload_n 0, 1) := by decide +kernel
theorem dL_law_474 : decode cL_law 474 = .ok (.iload_n 3, 1) := by decide +kernel
theorem dL_law_475 : decode cL_law 475 = .ok (.iconst 3, 1) := by decide +kernel
theorem dL_law_476 : decode cL_law 476 = .ok (.iadd, 1) := by decide +kernel
theorem dL_law_477 : decode cL_law 477 = .ok (.iaload, 1) := by decide +kernel
theorem dL_law_478 : decode cL_law 478 = .ok (.invokevirtual 50, 3) := by decide +kernel
theorem dL_law_481 : decode cL_law 481 = .ok (.if_icmp .eq 839, 3) := by decide +kernel
theorem dL_law_484 : decode cL_law 484 = .ok (.iconst 0, 1) := by decide +kernel
theorem dL_law_485 : decode cL_law 485 = .ok (.ireturn, 1) := by decide +kernel
theorem dL_law_486 : decode cL_law 486 = .ok (.aload_n 1, 1) := by decide +kernel
theorem dL_law_487 : decode cL_law 487 = .ok (.aload_n 0, 1) := by decide +kernel
theorem dL_law_488 : decode cL_law 488 = .ok (.iload_n 3, 1) := by decide +kernel
theorem dL_law_489 : decode cL_law 489 = .ok (.iconst 1, 1) := by decide +kernel
theorem dL_law_490 : decode cL_law 490 = .ok (.iadd, 1) := by decide +kernel
theorem dL_law_491 : decode cL_law 491 = .ok (.iaload, 1) := by decide +kernel
theorem dL_law_492 : decode cL_law 492 = .ok (.invokevirtual 51, 3) := by decide +kernel
theorem dL_law_495 : decode cL_law 495 = .ok (.aload_n 2, 1) := by decide +kernel
theorem dL_law_496 : decode cL_law 496 = .ok (.aload_n 0, 1) := by decide +kernel
theorem dL_law_497 : decode cL_law 497 = .ok (.iload_n 3, 1) := by decide +kernel
theorem dL_law_498 : decode cL_law 498 = .ok (.iconst 1, 1) := by decide +kernel
theorem dL_law_499 : decode cL_law 499 = .ok (.iadd, 1) := by decide +kernel
theorem dL_law_500 : decode cL_law 500 = .ok (.iaload, 1) := by decide +kernel
theorem dL_law_501 : decode cL_law 501 = .ok (.invokevirtual 54, 3) := by decide +kernel
theorem dL_law_504 : decode cL_law 504 = .ok (.if_icmp .eq 816, 3) := by decide +kernel
theorem dL_law_507 : decode cL_law 507 = .ok (.iconst 0, 1) := by decide +kernel
theorem dL_law_508 : decode cL_law 508 = .ok (.ireturn, 1) := by decide +kernel
theorem dL_law_509 : decode cL_law 509 = .ok (.aload_n 1, 1) := by decide +kernel
theorem dL_law_510 : decode cL_law 510 = .ok (.aload_n 0, 1) := by decide +kernel
theorem dL_law_511 : decode cL_law 511 = .ok (.iload_n 3, 1) := by decide +kernel
theorem dL_law_512 : decode cL_law 512 = .ok (.iconst 1, 1) := by decide +kernel
theorem dL_law_513 : decode cL_law 513 = .ok (.iadd, 1) := by decide +kernel
theorem dL_law_514 : decode cL_law 514 = .ok (.iaload, 1) := by decide +kernel
theorem dL_law_515 : decode cL_law 515 = .ok (.aload_n 0, 1) := by decide +kernel
theorem dL_law_516 : decode cL_law 516 = .ok (.iload_n 3, 1) := by decide +kernel
theorem dL_law_517 : decode cL_law 517 = .ok (.iconst 2, 1) := by decide +kernel
theorem dL_law_518 : decode cL_law 518 = .ok (.iadd, 1) := by decide +kernel
theorem dL_law_519 : decode cL_law 519 = .ok (.iaload, 1) := by decide +kernel
theorem dL_law_520 : decode cL_law 520 = .ok (.aload_n 0, 1) := by decide +kernel
theorem dL_law_521 : decode cL_law 521 = .ok (.iload_n 3, 1) := by decide +kernel
theorem dL_law_522 : decode cL_law 522 = .ok (.iconst 3, 1) := by decide +kernel
theorem dL_law_523 : decode cL_law 523 = .ok (.iadd, 1) := by decide +kernel
theorem dL_law_524 : decode cL_law 524 = .ok (.iaload, 1) := by decide +kernel
theorem dL_law_525 : decode cL_law 525 = .ok (.aload_n 0, 1) := by decide +kernel
theorem dL_law_526 : decode cL_law 526 = .ok (.iload_n 3, 1) := by decide +kernel
theorem dL_law_527 : decode cL_law 527 = .ok (.iconst 4, 1) := by decide +kernel
theorem dL_law_528 : decode cL_law 528 = .ok (.iadd, 1) := by decide +kernel
theorem dL_law_529 : decode cL_law 529 = .ok (.iaload, 1) := by decide +kernel
theorem dL_law_530 : decode cL_law 530 = .ok (.invokevirtual 55, 3) := by decide +kernel
theorem dL_law_533 : decode cL_law 533 = .ok (.aload_n 2, 1) := by decide +kernel
theorem dL_law_534 : decode cL_law 534 = .ok (.aload_n 0, 1) := by decide +kernel
theorem dL_law_535 : decode cL_law 535 = .ok (.iload_n 3, 1) := by decide +kernel
theorem dL_law_536 : decode cL_law 536 = .ok (.iconst 1, 1) := by decide +kernel
theorem dL_law_537 : decode cL_law 537 = .ok (.iadd, 1) := by decide +kernel
theorem dL_law_538 : decode cL_law 538 = .ok (.iaload, 1) := by decide +kernel
theorem dL_law_539 : decode cL_law 539 = .ok (.aload_n 0, 1) := by decide +kernel
theorem dL_law_540 : decode cL_law 540 = .ok (.iload_n 3, 1) := by decide +kernel
theorem dL_law_541 : decode cL_law 541 = .ok (.iconst 2, 1) := by decide +kernel
theorem dL_law_542 : decode cL_law 542 = .ok (.iadd, 1) := by decide +kernel
theorem dL_law_543 : decode cL_law 543 = .ok (.iaload, 1) := by decide +kernel
theorem dL_law_544 : decode cL_law 544 = .ok (.aload_n 0, 1) := by decide +kernel
theorem dL_law_545 : decode cL_law 545 = .ok (.iload_n 3, 1) := by decide +kernel
theorem dL_law_546 : decode cL_law 546 = .ok (.iconst 3, 1) := by decide +kernel
theorem dL_law_547 : decode cL_law 547 = .ok (.iadd, 1) := by decide +kernel
theorem dL_law_548 : decode cL_law 548 = .ok (.iaload, 1) := by decide +kernel
theorem dL_law_549 : decode cL_law 549 = .ok (.aload_n 0, 1) := by decide +kernel
theorem dL_law_550 : decode cL_law 550 = .ok (.iload_n 3, 1) := by decide +kernel
theorem dL_law_551 : decode cL_law 551 = .ok (.iconst 4, 1) := by decide +kernel
theorem dL_law_552 : decode cL_law 552 = .ok (.iadd, 1) := by decide +kernel
theorem dL_law_553 : decode cL_law 553 = .ok (.iaload, 1) := by decide +kernel
theorem dL_law_554 : decode cL_law 554 = .ok (.invokevirtual 59, 3) := by decide +kernel
theorem dL_law_557 : decode cL_law 557 = .ok (.if_icmp .eq 763, 3) := by decide +kernel
theorem dL_law_560 : decode cL_law 560 = .ok (.iconst 0, 1) := by decide +kernel
theorem dL_law_561 : decode cL_law 561 = .ok (.ireturn, 1) := by decide +kernel
theorem dL_law_562 : decode cL_law 562 = .ok (.aload_n 1, 1) := by decide +kernel
theorem dL_law_563 : decode cL_law 563 = .ok (.aload_n 0, 1) := by decide +kernel
theorem dL_law_564 : decode cL_law 564 = .ok (.iload_n 3, 1) := by decide +kernel
theorem dL_law_565 : decode cL_law 565 = .ok (.iconst 1, 1) := by decide +kernel
theorem dL_law_566 : decode cL_law 566 = .ok (.iadd, 1) := by decide +kernel
theorem dL_law_567 : decode cL_law 567 = .ok (.iaload, 1) := by decide +kernel
theorem dL_law_568 : decode cL_law 568 = .ok (.aload_n 0, 1) := by decide +kernel
theorem dL_law_569 : decode cL_law 569 = .ok (.iload_n 3, 1) := by decide +kernel
theorem dL_law_570 : decode cL_law 570 = .ok (.iconst 2, 1) := by decide +kernel
theorem dL_law_571 : decode cL_law 571 = .ok (.iadd, 1) := by decide +kernel
theorem dL_law_572 : decode cL_law 572 = .ok (.iaload, 1) := by decide +kernel
theorem dL_law_573 : decode cL_law 573 = .ok (.invokevirtual 60, 3) := by decide +kernel
theorem dL_law_576 : decode cL_law 576 = .ok (.aload_n 2, 1) := by decide +kernel
theorem dL_law_577 : decode cL_law 577 = .ok (.aload_n 0, 1) := by decide +kernel
theorem dL_law_578 : decode cL_law 578 = .ok (.iload_n 3, 1) := by decide +kernel
theorem dL_law_579 : decode cL_law 579 = .ok (.iconst 1, 1) := by decide +kernel
theorem dL_law_580 : decode cL_law 580 = .ok (.iadd, 1) := by decide +kernel
theorem dL_law_581 : decode cL_law 581 = .ok (.iaload, 1) := by decide +kernel
theorem dL_law_582 : decode cL_law 582 = .ok (.aload_n 0, 1) := by decide +kernel
theorem dL_law_583 : decode cL_law 583 = .ok (.iload_n 3, 1) := by decide +kernel
theorem dL_law_584 : decode cL_law 584 = .ok (.iconst 2, 1) := by decide +kernel
theorem dL_law_585 : decode cL_law 585 = .ok (.iadd, 1) := by decide +kernel
theorem dL_law_586 : decode cL_law 586 = .ok (.iaload, 1) := by decide +kernel
theorem dL_law_587 : decode cL_law 587 = .ok (.invokevirtual 63, 3) := by decide +kernel
theorem dL_law_590 : decode cL_law 590 = .ok (.if_icmp .eq 730, 3) := by decide +kernel
theorem dL_law_593 : decode cL_law 593 = .ok (.iconst 0, 1) := by decide +kernel
theorem dL_law_594 : decode cL_law 594 = .ok (.ireturn, 1) := by decide +kernel
theorem dL_law_595 : decode cL_law 595 = .ok (.aload_n 1, 1) := by decide +kernel
theorem dL_law_596 : decode cL_law 596 = .ok (.aload_n 0, 1) := by decide +kernel
theorem dL_law_597 : decode cL_law 597 = .ok (.iload_n 3, 1) := by decide +kernel
theorem dL_law_598 : decode cL_law 598 = .ok (.iconst 1, 1) := by decide +kernel
theorem dL_law_599 : decode cL_law 599 = .ok (.iadd, 1) := by decide +kernel
theorem dL_law_600 : decode cL_law 600 = .ok (.iaload, 1) := by decide +kernel
theorem dL_law_601 : decode cL_law 601 = .ok (.invokevirtual 64, 3) := by decide +kernel
theorem dL_law_604 : decode cL_law 604 = .ok (.aload_n 2, 1) := by decide +kernel
theorem dL_law_605 : decode cL_law 605 = .ok (.aload_n 0, 1) := by decide +kernel
theorem dL_law_606 : decode cL_law 606 = .ok (.iload_n 3, 1) := by decide +kernel
theorem dL_law_607 : decode cL_law 607 = .ok (.iconst 1, 1) := by decide +kernel
theorem dL_law_608 : decode cL_law 608 = .ok (.iadd, 1) := by decide +kernel
theorem dL_law_609 : decode cL_law 609 = .ok (.iaload, 1) := by decide +kernel
theorem dL_law_610 : decode cL_law 610 = .ok (.invokevirtual 67, 3) := by decide +kernel
theorem dL_law_613 : decode cL_law 613 = .ok (.if_icmp .eq 707, 3) := by decide +kernel
theorem dL_law_616 : decode cL_law 616 = .ok (.iconst 0, 1) := by decide +kernel
theorem dL_law_617 : decode cL_law 617 = .ok (.ireturn, 1) := by decide +kernel
theorem dL_law_618 : decode cL_law 618 = .ok (.aload_n 1, 1) := by decide +kernel
theorem dL_law_619 : decode cL_law 619 = .ok (.aload_n 0, 1) := by decide +kernel
theorem dL_law_620 : decode cL_law 620 = .ok (.iload_n 3, 1) := by decide +kernel
theorem dL_law_621 : decode cL_law 621 = .ok (.iconst 1, 1) := by decide +kernel
theorem dL_law_622 : decode cL_law 622 = .ok (.iadd, 1) := by decide +kernel
theorem dL_law_623 : decode cL_law 623 = .ok (.iaload, 1) := by decide +kernel
theorem dL_law_624 : decode cL_law 624 = .ok (.invokevirtual 68, 3) := by decide +kernel
theorem dL_law_627 : decode cL_law 627 = .ok (.aload_n 2, 1) := by decide +kernel
theorem dL_law_628 : decode cL_law 628 = .ok (.aload_n 0, 1) := by decide +kernel
theorem dL_law_629 : decode cL_law 629 = .ok (.iload_n 3, 1) := by decide +kernel
theorem dL_law_630 : decode cL_law 630 = .ok (.iconst 1, 1) := by decide +kernel
theorem dL_law_631 : decode cL_law 631 = .ok (.iadd, 1) := by decide +kernel
theorem dL_law_632 : decode cL_law 632 = .ok (.iaload, 1) := by decide +kernel
theorem dL_law_633 : decode cL_law 633 = .ok (.invokevirtual 71, 3) := by decide +kernel
theorem dL_law_636 : decode cL_law 636 = .ok (.if_icmp .eq 684, 3) := by decide +kernel
theorem dL_law_639 : decode cL_law 639 = .ok (.iconst 0, 1) := by decide +kernel
theorem dL_law_640 : decode cL_law 640 = .ok (.ireturn, 1) := by decide +kernel
theorem dL_law_641 : decode cL_law 641 = .ok (.aload_n 1, 1) := by decide +kernel
theorem dL_law_642 : decode cL_law 642 = .ok (.aload_n 0, 1) := by decide +kernel
theorem dL_law_643 : decode cL_law 643 = .ok (.iload_n 3, 1) := by decide +kernel
theorem dL_law_644 : decode cL_law 644 = .ok (.iconst 1, 1) := by decide +kernel
theorem dL_law_645 : decode cL_law 645 = .ok (.iadd, 1) := by decide +kernel
theorem dL_law_646 : decode cL_law 646 = .ok (.iaload, 1) := by decide +kernel
theorem dL_law_647 : decode cL_law 647 = .ok (.aload_n 0, 1) := by decide +kernel
theorem dL_law_648 : decode cL_law 648 = .ok (.iload_n 3, 1) := by decide +kernel
theorem dL_law_649 : decode cL_law 649 = .ok (.iconst 2, 1) := by decide +kernel
theorem dL_law_650 : decode cL_law 650 = .ok (.iadd, 1) := by decide +kernel
theorem dL_law_651 : decode cL_law 651 = .ok (.iaload, 1) := by decide +kernel
theorem dL_law_652 : decode cL_law 652 = .ok (.invokevirtual 72, 3) := by decide +kernel
theorem dL_law_655 : decode cL_law 655 = .ok (.aload_n 2, 1) := by decide +kernel
theorem dL_law_656 : decode cL_law 656 = .ok (.aload_n 0, 1) := by decide +kernel
theorem dL_law_657 : decode cL_law 657 = .ok (.iload_n 3, 1) := by decide +kernel
theorem dL_law_658 : decode cL_law 658 = .ok (.iconst 1, 1) := by decide +kernel
theorem dL_law_659 : decode cL_law 659 = .ok (.iadd, 1) := by decide +kernel
theorem dL_law_660 : decode cL_law 660 = .ok (.iaload, 1) := by decide +kernel
theorem dL_law_661 : decode cL_law 661 = .ok (.aload_n 0, 1) := by decide +kernel
theorem dL_law_662 : decode cL_law 662 = .ok (.iload_n 3, 1) := by decide +kernel
theorem dL_law_663 : decode cL_law 663 = .ok (.iconst 2, 1) := by decide +kernel
theorem dL_law_664 : decode cL_law 664 = .ok (.iadd, 1) := by decide +kernel
theorem dL_law_665 : decode cL_law 665 = .ok (.iaload, 1) := by decide +kernel
theorem dL_law_666 : decode cL_law 666 = .ok (.invokevirtual 75, 3) := by decide +kernel
theorem dL_law_669 : decode cL_law 669 = .ok (.if_icmp .eq 651, 3) := by decide +kernel
theorem dL_law_672 : decode cL_law 672 = .ok (.iconst 0, 1) := by decide +kernel
theorem dL_law_673 : decode cL_law 673 = .ok (.ireturn, 1) := by decide +kernel
theorem dL_law_674 : decode cL_law 674 = .ok (.aload_n 1, 1) := by decide +kernel
theorem dL_law_675 : decode cL_law 675 = .ok (.aload_n 0, 1) := by decide +kernel
theorem dL_law_676 : decode cL_law 676 = .ok (.iload_n 3, 1) := by decide +kernel
theorem dL_law_677 : decode cL_law 677 = .ok (.iconst 1, 1) := by decide +kernel
theorem dL_law_678 : decode cL_law 678 = .ok (.iadd, 1) := by decide +kernel
theorem dL_law_679 : decode cL_law 679 = .ok (.iaload, 1) := by decide +kernel
theorem dL_law_680 : decode cL_law 680 = .ok (.invokevirtual 76, 3) := by decide +kernel
theorem dL_law_683 : decode cL_law 683 = .ok (.aload_n 2, 1) := by decide +kernel
theorem dL_law_684 : decode cL_law 684 = .ok (.aload_n 0, 1) := by decide +kernel
theorem dL_law_685 : decode cL_law 685 = .ok (.iload_n 3, 1) := by decide +kernel
theorem dL_law_686 : decode cL_law 686 = .ok (.iconst 1, 1) := by decide +kernel
theorem dL_law_687 : decode cL_law 687 = .ok (.iadd, 1) := by decide +kernel
theorem dL_law_688 : decode cL_law 688 = .ok (.iaload, 1) := by decide +kernel
theorem dL_law_689 : decode cL_law 689 = .ok (.invokevirtual 79, 3) := by decide +kernel
theorem dL_law_692 : decode cL_law 692 = .ok (.if_icmp .eq 628, 3) := by decide +kernel
theorem dL_law_695 : decode cL_law 695 = .ok (.iconst 0, 1) := by decide +kernel
theorem dL_law_696 : decode cL_law 696 = .ok (.ireturn, 1) := by decide +kernel
theorem dL_law_697 : decode cL_law 697 = .ok (.aload_n 1, 1) := by decide +kernel
theorem dL_law_698 : decode cL_law 698 = .ok (.aload_n 0, 1) := by decide +kernel
theorem dL_law_699 : decode cL_law 699 = .ok (.iload_n 3, 1) := by decide +kernel
theorem dL_law_700 : decode cL_law 700 = .ok (.iconst 1, 1) := by decide +kernel
theorem dL_law_701 : decode cL_law 701 = .ok (.iadd, 1) := by decide +kernel
theorem dL_law_702 : decode cL_law 702 = .ok (.iaload, 1) := by decide +kernel
theorem dL_law_703 : decode cL_law 703 = .ok (.aload_n 0, 1) := by decide +kernel
theorem dL_law_704 : decode cL_law 704 = .ok (.iload_n 3, 1) := by decide +kernel
theorem dL_law_705 : decode cL_law 705 = .ok (.iconst 2, 1) := by decide +kernel
theorem dL_law_706 : decode cL_law 706 = .ok (.iadd, 1) := by decide +kernel
theorem dL_law_707 : decode cL_law 707 = .ok (.iaload, 1) := by decide +kernel
theorem dL_law_708 : decode cL_law 708 = .ok (.invokevirtual 80, 3) := by decide +kernel
theorem dL_law_711 : decode cL_law 711 = .ok (.aload_n 2, 1) := by decide +kernel
theorem dL_law_712 : decode cL_law 712 = .ok (.aload_n 0, 1) := by decide +kernel
theorem dL_law_713 : decode cL_law 713 = .ok (.iload_n 3, 1) := by decide +kernel
theorem dL_law_714 : decode cL_law 714 = .ok (.iconst 1, 1) := by decide +kernel
theorem dL_law_715 : decode cL_law 715 = .ok (.iadd, 1) := by decide +kernel
theorem dL_law_716 : decode cL_law 716 = .ok (.iaload, 1) := by decide +kernel
theorem dL_law_717 : decode cL_law 717 = .ok (.aload_n 0, 1) := by decide +kernel
theorem dL_law_718 : decode cL_law 718 = .ok (.iload_n 3, 1) := by decide +kernel
theorem dL_law_719 : decode cL_law 719 = .ok (.iconst 2, 1) := by decide +kernel
theorem dL_law_720 : decode cL_law 720 = .ok (.iadd, 1) := by decide +kernel
theorem dL_law_721 : decode cL_law 721 = .ok (.iaload, 1) := by decide +kernel
theorem dL_law_722 : decode cL_law 722 = .ok (.invokevirtual 83, 3) := by decide +kernel
theorem dL_law_725 : decode cL_law 725 = .ok (.if_icmp .eq 595, 3) := by decide +kernel
theorem dL_law_728 : decode cL_law 728 = .ok (.iconst 0, 1) := by decide +kernel
theorem dL_law_729 : decode cL_law 729 = .ok (.ireturn, 1) := by decide +kernel
theorem dL_law_730 : decode cL_law 730 = .ok (.aload_n 1, 1) := by decide +kernel
theorem dL_law_731 : decode cL_law 731 = .ok (.aload_n 0, 1) := by decide +kernel
theorem dL_law_732 : decode cL_law 732 = .ok (.iload_n 3, 1) := by decide +kernel
theorem dL_law_733 : decode cL_law 733 = .ok (.iconst 1, 1) := by decide +kernel
theorem dL_law_734 : decode cL_law 734 = .ok (.iadd, 1) := by decide +kernel
theorem dL_law_735 : decode cL_law 735 = .ok (.iaload, 1) := by decide +kernel
theorem dL_law_736 : decode cL_law 736 = .ok (.invokevirtual 84, 3) := by decide +kernel
theorem dL_law_739 : decode cL_law 739 = .ok (.aload_n 2, 1) := by decide +kernel
theorem dL_law_740 : decode cL_law 740 = .ok (.aload_n 0, 1) := by decide +kernel
theorem dL_law_741 : decode cL_law 741 = .ok (.iload_n 3, 1) := by decide +kernel
theorem dL_law_742 : decode cL_law 742 = .ok (.iconst 1, 1) := by decide +kernel
theorem dL_law_743 : decode cL_law 743 = .ok (.iadd, 1) := by decide +kernel
theorem dL_law_744 : decode cL_law 744 = .ok (.iaload, 1) := by decide +kernel
theorem dL_law_745 : decode cL_law 745 = .ok (.invokevirtual 87, 3) := by decide +kernel
theorem dL_law_748 : decode cL_law 748 = .ok (.if_icmp .eq 572, 3) := by decide +kernel
theorem dL_law_751 : decode cL_law 751 = .ok (.iconst 0, 1) := by decide +kernel
theorem dL_law_752 : decode cL_law 752 = .ok (.ireturn, 1) := by decide +kernel
theorem dL_law_753 : decode cL_law 753 = .ok (.aload_n 1, 1) := by decide +kernel
theorem dL_law_754 : decode cL_law 754 = .ok (.aload_n 0, 1) := by decide +kernel
theorem dL_law_755 : decode cL_law 755 = .ok (.iload_n 3, 1) := by decide +kernel
theorem dL_law_756 : decode cL_law 756 = .ok (.iconst 1, 1) := by decide +kernel
theorem dL_law_757 : decode cL_law 757 = .ok (.iadd, 1) := by decide +kernel
theorem dL_law_758 : decode cL_law 758 = .ok (.iaload, 1) := by decide +kernel
theorem dL_law_759 : decode cL_law 759 = .ok (.aload_n 0, 1) := by decide +kernel
theorem dL_law_760 : decode cL_law 760 = .ok (.iload_n 3, 1) := by decide +kernel
theorem dL_law_761 : decode cL_law 761 = .ok (.iconst 2, 1) := by decide +kernel
theorem dL_law_762 : decode cL_law 762 = .ok (.iadd, 1) := by decide +kernel
theorem dL_law_763 : decode cL_law 763 = .ok (.iaload, 1) := by decide +kernel
theorem dL_law_764 : decode cL_law 764 = .ok (.invokevirtual 88, 3) := by decide +kernel
theorem dL_law_767 : decode cL_law 767 = .ok (.aload_n 2, 1) := by decide +kernel
theorem dL_law_768 : decode cL_law 768 = .ok (.aload_n 0, 1) := by decide +kernel
theorem dL_law_769 : decode cL_law 769 = .ok (.iload_n 3, 1) := by decide +kernel
theorem dL_law_770 : decode cL_law 770 = .ok (.iconst 1, 1) := by decide +kernel
theorem dL_law_771 : decode cL_law 771 = .ok (.iadd, 1) := by decide +kernel
theorem dL_law_772 : decode cL_law 772 = .ok (.iaload, 1) := by decide +kernel
theorem dL_law_773 : decode cL_law 773 = .ok (.aload_n 0, 1) := by decide +kernel
theorem dL_law_774 : decode cL_law 774 = .ok (.iload_n 3, 1) := by decide +kernel
theorem dL_law_775 : decode cL_law 775 = .ok (.iconst 2, 1) := by decide +kernel
theorem dL_law_776 : decode cL_law 776 = .ok (.iadd, 1) := by decide +kernel
theorem dL_law_777 : decode cL_law 777 = .ok (.iaload, 1) := by decide +kernel
theorem dL_law_778 : decode cL_law 778 = .ok (.invokevirtual 91, 3) := by decide +kernel
theorem dL_law_781 : decode cL_law 781 = .ok (.if_icmp .eq 539, 3) := by decide +kernel
theorem dL_law_784 : decode cL_law 784 = .ok (.iconst 0, 1) := by decide +kernel
theorem dL_law_785 : decode cL_law 785 = .ok (.ireturn, 1) := by decide +kernel
theorem dL_law_786 : decode cL_law 786 = .ok (.aload_n 1, 1) := by decide +kernel
theorem dL_law_787 : decode cL_law 787 = .ok (.aload_n 0, 1) := by decide +kernel
theorem dL_law_788 : decode cL_law 788 = .ok (.iload_n 3, 1) := by decide +kernel
theorem dL_law_789 : decode cL_law 789 = .ok (.iconst 1, 1) := by decide +kernel
theorem dL_law_790 : decode cL_law 790 = .ok (.iadd, 1) := by decide +kernel
theorem dL_law_791 : decode cL_law 791 = .ok (.iaload, 1) := by decide +kernel
theorem dL_law_792 : decode cL_law 792 = .ok (.invokevirtual 92, 3) := by decide +kernel
theorem dL_law_795 : decode cL_law 795 = .ok (.aload_n 2, 1) := by decide +kernel
theorem dL_law_796 : decode cL_law 796 = .ok (.aload_n 0, 1) := by decide +kernel
theorem dL_law_797 : decode cL_law 797 = .ok (.iload_n 3, 1) := by decide +kernel
theorem dL_law_798 : decode cL_law 798 = .ok (.iconst 1, 1) := by decide +kernel
theorem dL_law_799 : decode cL_law 799 = .ok (.iadd, 1) := by decide +kernel
theorem dL_law_800 : decode cL_law 800 = .ok (.iaload, 1) := by decide +kernel
theorem dL_law_801 : decode cL_law 801 = .ok (.invokevirtual 95, 3) := by decide +kernel
theorem dL_law_804 : decode cL_law 804 = .ok (.if_icmp .eq 516, 3) := by decide +kernel
theorem dL_law_807 : decode cL_law 807 = .ok (.iconst 0, 1) := by decide +kernel
theorem dL_law_808 : decode cL_law 808 = .ok (.ireturn, 1) := by decide +kernel
theorem dL_law_809 : decode cL_law 809 = .ok (.aload_n 1, 1) := by decide +kernel
theorem dL_law_810 : decode cL_law 810 = .ok (.aload_n 0, 1) := by decide +kernel
theorem dL_law_811 : decode cL_law 811 = .ok (.iload_n 3, 1) := by decide +kernel
theorem dL_law_812 : decode cL_law 812 = .ok (.iconst 1, 1) := by decide +kernel
theorem dL_law_813 : decode cL_law 813 = .ok (.iadd, 1) := by decide +kernel
theorem dL_law_814 : decode cL_law 814 = .ok (.iaload, 1) := by decide +kernel
theorem dL_law_815 : decode cL_law 815 = .ok (.aload_n 0, 1) := by decide +kernel
theorem dL_law_816 : decode cL_law 816 = .ok (.iload_n 3, 1) := by decide +kernel
theorem dL_law_817 : decode cL_law 817 = .ok (.iconst 2, 1) := by decide +kernel
theorem dL_law_818 : decode cL_law 818 = .ok (.iadd, 1) := by decide +kernel
theorem dL_law_819 : decode cL_law 819 = .ok (.iaload, 1) := by decide +kernel
theorem dL_law_820 : decode cL_law 820 = .ok (.aload_n 0, 1) := by decide +kernel
theorem dL_law_821 : decode cL_law 821 = .ok (.iload_n 3, 1) := by decide +kernel
theorem dL_law_822 : decode cL_law 822 = .ok (.iconst 3, 1) := by decide +kernel
theorem dL_law_823 : decode cL_law 823 = .ok (.iadd, 1) := by decide +kernel
theorem dL_law_824 : decode cL_law 824 = .ok (.iaload, 1) := by decide +kernel
theorem dL_law_825 : decode cL_law 825 = .ok (.invokevirtual 96, 3) := by decide +kernel
theorem dL_law_828 : decode cL_law 828 = .ok (.aload_n 2, 1) := by decide +kernel
theorem dL_law_829 : decode cL_law 829 = .ok (.aload_n 0, 1) := by decide +kernel
theorem dL_law_830 : decode cL_law 830 = .ok (.iload_n 3, 1) := by decide +kernel
theorem dL_law_831 : decode cL_law 831 = .ok (.iconst 1, 1) := by decide +kernel
theorem dL_law_832 : decode cL_law 832 = .ok (.iadd, 1) := by decide +kernel
theorem dL_law_833 : decode cL_law 833 = .ok (.iaload, 1) := by decide +kernel
theorem dL_law_834 : decode cL_law 834 = .ok (.aload_n 0, 1) := by decide +kernel
theorem dL_law_835 : decode cL_law 835 = .ok (.iload_n 3, 1) := by decide +kernel
theorem dL_law_836 : decode cL_law 836 = .ok (.iconst 2, 1) := by decide +kernel
theorem dL_law_837 : decode cL_law 837 = .ok (.iadd, 1) := by decide +kernel
theorem dL_law_838 : decode cL_law 838 = .ok (.iaload, 1) := by decide +kernel
theorem dL_law_839 : decode cL_law 839 = .ok (.aload_n 0, 1) := by decide +kernel
theorem dL_law_840 : decode cL_law 840 = .ok (.iload_n 3, 1) := by decide +kernel
theorem dL_law_841 : decode cL_law 841 = .ok (.iconst 3, 1) := by decide +kernel
theorem dL_law_842 : decode cL_law 842 = .ok (.iadd, 1) := by decide +kernel
theorem dL_law_843 : decode cL_law 843 = .ok (.iaload, 1) := by decide +kernel
theorem dL_law_844 : decode cL_law 844 = .ok (.invokevirtual 99, 3) := by decide +kernel
theorem dL_law_847 : decode cL_law 847 = .ok (.if_icmp .eq 473, 3) := by decide +kernel
theorem dL_law_850 : decode cL_law 850 = .ok (.iconst 0, 1) := by decide +kernel
theorem dL_law_851 : decode cL_law 851 = .ok (.ireturn, 1) := by decide +kernel
theorem dL_law_852 : decode cL_law 852 = .ok (.aload_n 1, 1) := by decide +kernel
theorem dL_law_853 : decode cL_law 853 = .ok (.aload_n 0, 1) := by decide +kernel
theorem dL_law_854 : decode cL_law 854 = .ok (.iload_n 3, 1) := by decide +kernel
theorem dL_law_855 : decode cL_law 855 = .ok (.iconst 1, 1) := by decide +kernel
theorem dL_law_856 : decode cL_law 856 = .ok (.iadd, 1) := by decide +kernel
theorem dL_law_857 : decode cL_law 857 = .ok (.iaload, 1) := by decide +kernel
theorem dL_law_858 : decode cL_law 858 = .ok (.aload_n 0, 1) := by decide +kernel
theorem dL_law_859 : decode cL_law 859 = .ok (.iload_n 3, 1) := by decide +kernel
theorem dL_law_860 : decode cL_law 860 = .ok (.iconst 2, 1) := by decide +kernel
theorem dL_law_861 : decode cL_law 861 = .ok (.iadd, 1) := by decide +kernel
theorem dL_law_862 : decode cL_law 862 = .ok (.iaload, 1) := by decide +kernel
theorem dL_law_863 : decode cL_law 863 = .ok (.aload_n 0, 1) := by decide +kernel
theorem dL_law_864 : decode cL_law 864 = .ok (.iload_n 3, 1) := by decide +kernel
theorem dL_law_865 : decode cL_law 865 = .ok (.iconst 3, 1) := by decide +kernel
theorem dL_law_866 : decode cL_law 866 = .ok (.iadd, 1) := by decide +kernel
theorem dL_law_867 : decode cL_law 867 = .ok (.iaload, 1) := by decide +kernel
theorem dL_law_868 : decode cL_law 868 = .ok (.invokevirtual 100, 3) := by decide +kernel
theorem dL_law_871 : decode cL_law 871 = .ok (.aload_n 2, 1) := by decide +kernel
theorem dL_law_872 : decode cL_law 872 = .ok (.aload_n 0, 1) := by decide +kernel
theorem dL_law_873 : decode cL_law 873 = .ok (.iload_n 3, 1) := by decide +kernel
theorem dL_law_874 : decode cL_law 874 = .ok (.iconst 1, 1) := by decide +kernel
theorem dL_law_875 : decode cL_law 875 = .ok (.iadd, 1) := by decide +kernel
theorem dL_law_876 : decode cL_law 876 = .ok (.iaload, 1) := by decide +kernel
theorem dL_law_877 : decode cL_law 877 = .ok (.aload_n 0, 1) := by decide +kernel
theorem dL_law_878 : decode cL_law 878 = .ok (.iload_n 3, 1) := by decide +kernel
theorem dL_law_879 : decode cL_law 879 = .ok (.iconst 2, 1) := by decide +kernel
theorem dL_law_880 : decode cL_law 880 = .ok (.iadd, 1) := by decide +kernel
theorem dL_law_881 : decode cL_law 881 = .ok (.iaload, 1) := by decide +kernel
theorem dL_law_882 : decode cL_law 882 = .ok (.aload_n 0, 1) := by decide +kernel
theorem dL_law_883 : decode cL_law 883 = .ok (.iload_n 3, 1) := by decide +kernel
theorem dL_law_884 : decode cL_law 884 = .ok (.iconst 3, 1) := by decide +kernel
theorem dL_law_885 : decode cL_law 885 = .ok (.iadd, 1) := by decide +kernel
theorem dL_law_886 : decode cL_law 886 = .ok (.iaload, 1) := by decide +kernel
theorem dL_law_887 : decode cL_law 887 = .ok (.invokevirtual 103, 3) := by decide +kernel
theorem dL_law_890 : decode cL_law 890 = .ok (.if_icmp .eq 430, 3) := by decide +kernel
theorem dL_law_893 : decode cL_law 893 = .ok (.iconst 0, 1) := by decide +kernel
theorem dL_law_894 : decode cL_law 894 = .ok (.ireturn, 1) := by decide +kernel
theorem dL_law_895 : decode cL_law 895 = .ok (.aload_n 1, 1) := by decide +kernel
theorem dL_law_896 : decode cL_law 896 = .ok (.aload_n 0, 1) := by decide +kernel
theorem dL_law_897 : decode cL_law 897 = .ok (.iload_n 3, 1) := by decide +kernel
theorem dL_law_898 : decode cL_law 898 = .ok (.iconst 1, 1) := by decide +kernel
theorem dL_law_899 : decode cL_law 899 = .ok (.iadd, 1) := by decide +kernel
theorem dL_law_900 : decode cL_law 900 = .ok (.iaload, 1) := by decide +kernel
theorem dL_law_901 : decode cL_law 901 = .ok (.aload_n 0, 1) := by decide +kernel
theorem dL_law_902 : decode cL_law 902 = .ok (.iload_n 3, 1) := by decide +kernel
theorem dL_law_903 : decode cL_law 903 = .ok (.iconst 2, 1) := by decide +kernel
theorem dL_law_904 : decode cL_law 904 = .ok (.iadd, 1) := by decide +kernel
theorem dL_law_905 : decode cL_law 905 = .ok (.iaload, 1) := by decide +kernel
theorem dL_law_906 : decode cL_law 906 = .ok (.invokevirtual 104, 3) := by decide +kernel
theorem dL_law_909 : decode cL_law 909 = .ok (.aload_n 2, 1) := by decide +kernel
theorem dL_law_910 : decode cL_law 910 = .ok (.aload_n 0, 1) := by decide +kernel
theorem dL_law_911 : decode cL_law 911 = .ok (.iload_n 3, 1) := by decide +kernel
theorem dL_law_912 : decode cL_law 912 = .ok (.iconst 1, 1) := by decide +kernel
theorem dL_law_913 : decode cL_law 913 = .ok (.iadd, 1) := by decide +kernel
theorem dL_law_914 : decode cL_law 914 = .ok (.iaload, 1) := by decide +kernel
theorem dL_law_915 : decode cL_law 915 = .ok (.aload_n 0, 1) := by decide +kernel
theorem dL_law_916 : decode cL_law 916 = .ok (.iload_n 3, 1) := by decide +kernel
theorem dL_law_917 : decode cL_law 917 = .ok (.iconst 2, 1) := by decide +kernel
theorem dL_law_918 : decode cL_law 918 = .ok (.iadd, 1) := by decide +kernel
theorem dL_law_919 : decode cL_law 919 = .ok (.iaload, 1) := by decide +kernel
theorem dL_law_920 : decode cL_law 920 = .ok (.invokevirtual 107, 3) := by decide +kernel
theorem dL_law_923 : decode cL_law 923 = .ok (.if_icmp .eq 397, 3) := by decide +kernel
theorem dL_law_926 : decode cL_law 926 = .ok (.iconst 0, 1) := by decide +kernel
theorem dL_law_927 : decode cL_law 927 = .ok (.ireturn, 1) := by decide +kernel
theorem dL_law_928 : decode cL_law 928 = .ok (.aload_n 1, 1) := by decide +kernel
theorem dL_law_929 : decode cL_law 929 = .ok (.aload_n 0, 1) := by decide +kernel
theorem dL_law_930 : decode cL_law 930 = .ok (.iload_n 3, 1) := by decide +kernel
theorem dL_law_931 : decode cL_law 931 = .ok (.iconst 1, 1) := by decide +kernel
theorem dL_law_932 : decode cL_law 932 = .ok (.iadd, 1) := by decide +kernel
theorem dL_law_933 : decode cL_law 933 = .ok (.iaload, 1) := by decide +kernel
theorem dL_law_934 : decode cL_law 934 = .ok (.invokevirtual 108, 3) := by decide +kernel
theorem dL_law_937 : decode cL_law 937 = .ok (.aload_n 2, 1) := by decide +kernel
theorem dL_law_938 : decode cL_law 938 = .ok (.aload_n 0, 1) := by decide +kernel
theorem dL_law_939 : decode cL_law 939 = .ok (.iload_n 3, 1) := by decide +kernel
theorem dL_law_940 : decode cL_law 940 = .ok (.iconst 1, 1) := by decide +kernel
theorem dL_law_941 : decode cL_law 941 = .ok (.iadd, 1) := by decide +kernel
theorem dL_law_942 : decode cL_law 942 = .ok (.iaload, 1) := by decide +kernel
theorem dL_law_943 : decode cL_law 943 = .ok (.invokevirtual 111, 3) := by decide +kernel
theorem dL_law_946 : decode cL_law 946 = .ok (.if_icmp .eq 374, 3) := by decide +kernel
theorem dL_law_949 : decode cL_law 949 = .ok (.iconst 0, 1) := by decide +kernel
theorem dL_law_950 : decode cL_law 950 = .ok (.ireturn, 1) := by decide +kernel
theorem dL_law_951 : decode cL_law 951 = .ok (.aload_n 1, 1) := by decide +kernel
theorem dL_law_952 : decode cL_law 952 = .ok (.aload_n 0, 1) := by decide +kernel
theorem dL_law_953 : decode cL_law 953 = .ok (.iload_n 3, 1) := by decide +kernel
theorem dL_law_954 : decode cL_law 954 = .ok (.iconst 1, 1) := by decide +kernel
theorem dL_law_955 : decode cL_law 955 = .ok (.iadd, 1) := by decide +kernel
theorem dL_law_956 : decode cL_law 956 = .ok (.iaload, 1) := by decide +kernel
theorem dL_law_957 : decode cL_law 957 = .ok (.aload_n 0, 1) := by decide +kernel
theorem dL_law_958 : decode cL_law 958 = .ok (.iload_n 3, 1) := by decide +kernel
theorem dL_law_959 : decode cL_law 959 = .ok (.iconst 2, 1) := by decide +kernel
theorem dL_law_960 : decode cL_law 960 = .ok (.iadd, 1) := by decide +kernel
theorem dL_law_961 : decode cL_law 961 = .ok (.iaload, 1) := by decide +kernel
theorem dL_law_962 : decode cL_law 962 = .ok (.aload_n 0, 1) := by decide +kernel
theorem dL_law_963 : decode cL_law 963 = .ok (.iload_n 3, 1) := by decide +kernel
theorem dL_law_964 : decode cL_law 964 = .ok (.iconst 3, 1) := by decide +kernel
theorem dL_law_965 : decode cL_law 965 = .ok (.iadd, 1) := by decide +kernel
theorem dL_law_966 : decode cL_law 966 = .ok (.iaload, 1) := by decide +kernel
theorem dL_law_967 : decode cL_law 967 = .ok (.invokevirtual 112, 3) := by decide +kernel
theorem dL_law_970 : decode cL_law 970 = .ok (.aload_n 2, 1) := by decide +kernel
theorem dL_law_971 : decode cL_law 971 = .ok (.aload_n 0, 1) := by decide +kernel
theorem dL_law_972 : decode cL_law 972 = .ok (.iload_n 3, 1) := by decide +kernel
theorem dL_law_973 : decode cL_law 973 = .ok (.iconst 1, 1) := by decide +kernel
theorem dL_law_974 : decode cL_law 974 = .ok (.iadd, 1) := by decide +kernel
theorem dL_law_975 : decode cL_law 975 = .ok (.iaload, 1) := by decide +kernel
theorem dL_law_976 : decode cL_law 976 = .ok (.aload_n 0, 1) := by decide +kernel
theorem dL_law_977 : decode cL_law 977 = .ok (.iload_n 3, 1) := by decide +kernel
theorem dL_law_978 : decode cL_law 978 = .ok (.iconst 2, 1) := by decide +kernel
theorem dL_law_979 : decode cL_law 979 = .ok (.iadd, 1) := by decide +kernel
theorem dL_law_980 : decode cL_law 980 = .ok (.iaload, 1) := by decide +kernel
theorem dL_law_981 : decode cL_law 981 = .ok (.aload_n 0, 1) := by decide +kernel
theorem dL_law_982 : decode cL_law 982 = .ok (.iload_n 3, 1) := by decide +kernel
theorem dL_law_983 : decode cL_law 983 = .ok (.iconst 3, 1) := by decide +kernel
theorem dL_law_984 : decode cL_law 984 = .ok (.iadd, 1) := by decide +kernel
theorem dL_law_985 : decode cL_law 985 = .ok (.iaload, 1) := by decide +kernel
theorem dL_law_986 : decode cL_law 986 = .ok (.invokevirtual 115, 3) := by decide +kernel
theorem dL_law_989 : decode cL_law 989 = .ok (.if_icmp .eq 331, 3) := by decide +kernel
theorem dL_law_992 : decode cL_law 992 = .ok (.iconst 0, 1) := by decide +kernel
theorem dL_law_993 : decode cL_law 993 = .ok (.ireturn, 1) := by decide +kernel
theorem dL_law_994 : decode cL_law 994 = .ok (.aload_n 1, 1) := by decide +kernel
theorem dL_law_995 : decode cL_law 995 = .ok (.aload_n 0, 1) := by decide +kernel
theorem dL_law_996 : decode cL_law 996 = .ok (.iload_n 3, 1) := by decide +kernel
theorem dL_law_997 : decode cL_law 997 = .ok (.iconst 1, 1) := by decide +kernel
theorem dL_law_998 : decode cL_law 998 = .ok (.iadd, 1) := by decide +kernel
theorem dL_law_999 : decode cL_law 999 = .ok (.iaload, 1) := by decide +kernel
theorem dL_law_1000 : decode cL_law 1000 = .ok (.invokevirtual 116, 3) := by decide +kernel
theorem dL_law_1003 : decode cL_law 1003 = .ok (.aload_n 2, 1) := by decide +kernel
theorem dL_law_1004 : decode cL_law 1004 = .ok (.aload_n 0, 1) := by decide +kernel
theorem dL_law_1005 : decode cL_law 1005 = .ok (.iload_n 3, 1) := by decide +kernel
theorem dL_law_1006 : decode cL_law 1006 = .ok (.iconst 1, 1) := by decide +kernel
theorem dL_law_1007 : decode cL_law 1007 = .ok (.iadd, 1) := by decide +kernel
theorem dL_law_1008 : decode cL_law 1008 = .ok (.iaload, 1) := by decide +kernel
theorem dL_law_1009 : decode cL_law 1009 = .ok (.invokevirtual 119, 3) := by decide +kernel
theorem dL_law_1012 : decode cL_law 1012 = .ok (.if_icmp .eq 308, 3) := by decide +kernel
theorem dL_law_1015 : decode cL_law 1015 = .ok (.iconst 0, 1) := by decide +kernel
theorem dL_law_1016 : decode cL_law 1016 = .ok (.ireturn, 1) := by decide +kernel
theorem dL_law_1017 : decode cL_law 1017 = .ok (.aload_n 1, 1) := by decide +kernel
theorem dL_law_1018 : decode cL_law 1018 = .ok (.aload_n 0, 1) := by decide +kernel
theorem dL_law_1019 : decode cL_law 1019 = .ok (.iload_n 3, 1) := by decide +kernel
theorem dL_law_1020 : decode cL_law 1020 = .ok (.iconst 1, 1) := by decide +kernel
theorem dL_law_1021 : decode cL_law 1021 = .ok (.iadd, 1) := by decide +kernel
theorem dL_law_1022 : decode cL_law 1022 = .ok (.iaload, 1) := by decide +kernel
theorem dL_law_1023 : decode cL_law 1023 = .ok (.aload_n 0, 1) := by decide +kernel
theorem dL_law_1024 : decode cL_law 1024 = .ok (.iload_n 3, 1) := by decide +kernel
theorem dL_law_1025 : decode cL_law 1025 = .ok (.iconst 2, 1) := by decide +kernel
theorem dL_law_1026 : decode cL_law 1026 = .ok (.iadd, 1) := by decide +kernel
theorem dL_law_1027 : decode cL_law 1027 = .ok (.iaload, 1) := by decide +kernel
theorem dL_law_1028 : decode cL_law 1028 = .ok (.aload_n 0, 1) := by decide +kernel
theorem dL_law_1029 : decode cL_law 1029 = .ok (.iload_n 3, 1) := by decide +kernel
theorem dL_law_1030 : decode cL_law 1030 = .ok (.iconst 3, 1) := by decide +kernel
theorem dL_law_1031 : decode cL_law 1031 = .ok (.iadd, 1) := by decide +kernel
theorem dL_law_1032 : decode cL_law 1032 = .ok (.iaload, 1) := by decide +kernel
theorem dL_law_1033 : decode cL_law 1033 = .ok (.invokevirtual 120, 3) := by decide +kernel
theorem dL_law_1036 : decode cL_law 1036 = .ok (.aload_n 2, 1) := by decide +kernel
theorem dL_law_1037 : decode cL_law 1037 = .ok (.aload_n 0, 1) := by decide +kernel
theorem dL_law_1038 : decode cL_law 1038 = .ok (.iload_n 3, 1) := by decide +kernel
theorem dL_law_1039 : decode cL_law 1039 = .ok (.iconst 1, 1) := by decide +kernel
theorem dL_law_1040 : decode cL_law 1040 = .ok (.iadd, 1) := by decide +kernel
theorem dL_law_1041 : decode cL_law 1041 = .ok (.iaload, 1) := by decide +kernel
theorem dL_law_1042 : decode cL_law 1042 = .ok (.aload_n 0, 1) := by decide +kernel
theorem dL_law_1043 : decode cL_law 1043 = .ok (.iload_n 3, 1) := by decide +kernel
theorem dL_law_1044 : decode cL_law 1044 = .ok (.iconst 2, 1) := by decide +kernel
theorem dL_law_1045 : decode cL_law 1045 = .ok (.iadd, 1) := by decide +kernel
theorem dL_law_1046 : decode cL_law 1046 = .ok (.iaload, 1) := by decide +kernel
theorem dL_law_1047 : decode cL_law 1047 = .ok (.aload_n 0, 1) := by decide +kernel
theorem dL_law_1048 : decode cL_law 1048 = .ok (.iload_n 3, 1) := by decide +kernel
theorem dL_law_1049 : decode cL_law 1049 = .ok (.iconst 3, 1) := by decide +kernel
theorem dL_law_1050 : decode cL_law 1050 = .ok (.iadd, 1) := by decide +kernel
theorem dL_law_1051 : decode cL_law 1051 = .ok (.iaload, 1) := by decide +kernel
theorem dL_law_1052 : decode cL_law 1052 = .ok (.invokevirtual 123, 3) := by decide +kernel
theorem dL_law_1055 : decode cL_law 1055 = .ok (.if_icmp .eq 265, 3) := by decide +kernel
theorem dL_law_1058 : decode cL_law 1058 = .ok (.iconst 0, 1) := by decide +kernel
theorem dL_law_1059 : decode cL_law 1059 = .ok (.ireturn, 1) := by decide +kernel
theorem dL_law_1060 : decode cL_law 1060 = .ok (.aload_n 1, 1) := by decide +kernel
theorem dL_law_1061 : decode cL_law 1061 = .ok (.aload_n 0, 1) := by decide +kernel
theorem dL_law_1062 : decode cL_law 1062 = .ok (.iload_n 3, 1) := by decide +kernel
theorem dL_law_1063 : decode cL_law 1063 = .ok (.iconst 1, 1) := by decide +kernel
theorem dL_law_1064 : decode cL_law 1064 = .ok (.iadd, 1) := by decide +kernel
theorem dL_law_1065 : decode cL_law 1065 = .ok (.iaload, 1) := by decide +kernel
theorem dL_law_1066 : decode cL_law 1066 = .ok (.aload_n 0, 1) := by decide +kernel
theorem dL_law_1067 : decode cL_law 1067 = .ok (.iload_n 3, 1) := by decide +kernel
theorem dL_law_1068 : decode cL_law 1068 = .ok (.iconst 2, 1) := by decide +kernel
theorem dL_law_1069 : decode cL_law 1069 = .ok (.iadd, 1) := by decide +kernel
theorem dL_law_1070 : decode cL_law 1070 = .ok (.iaload, 1) := by decide +kernel
theorem dL_law_1071 : decode cL_law 1071 = .ok (.aload_n 0, 1) := by decide +kernel
theorem dL_law_1072 : decode cL_law 1072 = .ok (.iload_n 3, 1) := by decide +kernel
theorem dL_law_1073 : decode cL_law 1073 = .ok (.iconst 3, 1) := by decide +kernel
theorem dL_law_1074 : decode cL_law 1074 = .ok (.iadd, 1) := by decide +kernel
theorem dL_law_1075 : decode cL_law 1075 = .ok (.iaload, 1) := by decide +kernel
theorem dL_law_1076 : decode cL_law 1076 = .ok (.invokevirtual 124, 3) := by decide +kernel
theorem dL_law_1079 : decode cL_law 1079 = .ok (.aload_n 2, 1) := by decide +kernel
theorem dL_law_1080 : decode cL_law 1080 = .ok (.aload_n 0, 1) := by decide +kernel
theorem dL_law_1081 : decode cL_law 1081 = .ok (.iload_n 3, 1) := by decide +kernel
theorem dL_law_1082 : decode cL_law 1082 = .ok (.iconst 1, 1) := by decide +kernel
theorem dL_law_1083 : decode cL_law 1083 = .ok (.iadd, 1) := by decide +kernel
theorem dL_law_1084 : decode cL_law 1084 = .ok (.iaload, 1) := by decide +kernel
theorem dL_law_1085 : decode cL_law 1085 = .ok (.aload_n 0, 1) := by decide +kernel
theorem dL_law_1086 : decode cL_law 1086 = .ok (.iload_n 3, 1) := by decide +kernel
theorem dL_law_1087 : decode cL_law 1087 = .ok (.iconst 2, 1) := by decide +kernel
theorem dL_law_1088 : decode cL_law 1088 = .ok (.iadd, 1) := by decide +kernel
theorem dL_law_1089 : decode cL_law 1089 = .ok (.iaload, 1) := by decide +kernel
theorem dL_law_1090 : decode cL_law 1090 = .ok (.aload_n 0, 1) := by decide +kernel
theorem dL_law_1091 : decode cL_law 1091 = .ok (.iload_n 3, 1) := by decide +kernel
theorem dL_law_1092 : decode cL_law 1092 = .ok (.iconst 3, 1) := by decide +kernel
theorem dL_law_1093 : decode cL_law 1093 = .ok (.iadd, 1) := by decide +kernel
theorem dL_law_1094 : decode cL_law 1094 = .ok (.iaload, 1) := by decide +kernel
theorem dL_law_1095 : decode cL_law 1095 = .ok (.invokevirtual 127, 3) := by decide +kernel
theorem dL_law_1098 : decode cL_law 1098 = .ok (.if_icmp .eq 222, 3) := by decide +kernel
theorem dL_law_1101 : decode cL_law 1101 = .ok (.iconst 0, 1) := by decide +kernel
theorem dL_law_1102 : decode cL_law 1102 = .ok (.ireturn, 1) := by decide +kernel
theorem dL_law_1103 : decode cL_law 1103 = .ok (.aload_n 1, 1) := by decide +kernel
theorem dL_law_1104 : decode cL_law 1104 = .ok (.aload_n 0, 1) := by decide +kernel
theorem dL_law_1105 : decode cL_law 1105 = .ok (.iload_n 3, 1) := by decide +kernel
theorem dL_law_1106 : decode cL_law 1106 = .ok (.iconst 1, 1) := by decide +kernel
theorem dL_law_1107 : decode cL_law 1107 = .ok (.iadd, 1) := by decide +kernel
theorem dL_law_1108 : decode cL_law 1108 = .ok (.iaload, 1) := by decide +kernel
theorem dL_law_1109 : decode cL_law 1109 = .ok (.aload_n 0, 1) := by decide +kernel
theorem dL_law_1110 : decode cL_law 1110 = .ok (.iload_n 3, 1) := by decide +kernel
theorem dL_law_1111 : decode cL_law 1111 = .ok (.iconst 2, 1) := by decide +kernel
theorem dL_law_1112 : decode cL_law 1112 = .ok (.iadd, 1) := by decide +kernel
theorem dL_law_1113 : decode cL_law 1113 = .ok (.iaload, 1) := by decide +kernel
theorem dL_law_1114 : decode cL_law 1114 = .ok (.aload_n 0, 1) := by decide +kernel
theorem dL_law_1115 : decode cL_law 1115 = .ok (.iload_n 3, 1) := by decide +kernel
theorem dL_law_1116 : decode cL_law 1116 = .ok (.iconst 3, 1) := by decide +kernel
theorem dL_law_1117 : decode cL_law 1117 = .ok (.iadd, 1) := by decide +kernel
theorem dL_law_1118 : decode cL_law 1118 = .ok (.iaload, 1) := by decide +kernel
theorem dL_law_1119 : decode cL_law 1119 = .ok (.aload_n 0, 1) := by decide +kernel
theorem dL_law_1120 : decode cL_law 1120 = .ok (.iload_n 3, 1) := by decide +kernel
theorem dL_law_1121 : decode cL_law 1121 = .ok (.iconst 4, 1) := by decide +kernel
theorem dL_law_1122 : decode cL_law 1122 = .ok (.iadd, 1) := by decide +kernel
theorem dL_law_1123 : decode cL_law 1123 = .ok (.iaload, 1) := by decide +kernel
theorem dL_law_1124 : decode cL_law 1124 = .ok (.aload_n 0, 1) := by decide +kernel
theorem dL_law_1125 : decode cL_law 1125 = .ok (.iload_n 3, 1) := by decide +kernel
theorem dL_law_1126 : decode cL_law 1126 = .ok (.iconst 5, 1) := by decide +kernel
theorem dL_law_1127 : decode cL_law 1127 = .ok (.iadd, 1) := by decide +kernel
theorem dL_law_1128 : decode cL_law 1128 = .ok (.iaload, 1) := by decide +kernel
theorem dL_law_1129 : decode cL_law 1129 = .ok (.invokevirtual 128, 3) := by decide +kernel
theorem dL_law_1132 : decode cL_law 1132 = .ok (.aload_n 2, 1) := by decide +kernel
theorem dL_law_1133 : decode cL_law 1133 = .ok (.aload_n 0, 1) := by decide +kernel
theorem dL_law_1134 : decode cL_law 1134 = .ok (.iload_n 3, 1) := by decide +kernel
theorem dL_law_1135 : decode cL_law 1135 = .ok (.iconst 1, 1) := by decide +kernel
theorem dL_law_1136 : decode cL_law 1136 = .ok (.iadd, 1) := by decide +kernel
theorem dL_law_1137 : decode cL_law 1137 = .ok (.iaload, 1) := by decide +kernel
theorem dL_law_1138 : decode cL_law 1138 = .ok (.aload_n 0, 1) := by decide +kernel
theorem dL_law_1139 : decode cL_law 1139 = .ok (.iload_n 3, 1) := by decide +kernel
theorem dL_law_1140 : decode cL_law 1140 = .ok (.iconst 2, 1) := by decide +kernel
theorem dL_law_1141 : decode cL_law 1141 = .ok (.iadd, 1) := by decide +kernel
theorem dL_law_1142 : decode cL_law 1142 = .ok (.iaload, 1) := by decide +kernel
theorem dL_law_1143 : decode cL_law 1143 = .ok (.aload_n 0, 1) := by decide +kernel
theorem dL_law_1144 : decode cL_law 1144 = .ok (.iload_n 3, 1) := by decide +kernel
theorem dL_law_1145 : decode cL_law 1145 = .ok (.iconst 3, 1) := by decide +kernel
theorem dL_law_1146 : decode cL_law 1146 = .ok (.iadd, 1) := by decide +kernel
theorem dL_law_1147 : decode cL_law 1147 = .ok (.iaload, 1) := by decide +kernel
theorem dL_law_1148 : decode cL_law 1148 = .ok (.aload_n 0, 1) := by decide +kernel
theorem dL_law_1149 : decode cL_law 1149 = .ok (.iload_n 3, 1) := by decide +kernel
theorem dL_law_1150 : decode cL_law 1150 = .ok (.iconst 4, 1) := by decide +kernel
theorem dL_law_1151 : decode cL_law 1151 = .ok (.iadd, 1) := by decide +kernel
theorem dL_law_1152 : decode cL_law 1152 = .ok (.iaload, 1) := by decide +kernel
theorem dL_law_1153 : decode cL_law 1153 = .ok (.aload_n 0, 1) := by decide +kernel
theorem dL_law_1154 : decode cL_law 1154 = .ok (.iload_n 3, 1) := by decide +kernel
theorem dL_law_1155 : decode cL_law 1155 = .ok (.iconst 5, 1) := by decide +kernel
theorem dL_law_1156 : decode cL_law 1156 = .ok (.iadd, 1) := by decide +kernel
theorem dL_law_1157 : decode cL_law 1157 = .ok (.iaload, 1) := by decide +kernel
theorem dL_law_1158 : decode cL_law 1158 = .ok (.invokevirtual 132, 3) := by decide +kernel
theorem dL_law_1161 : decode cL_law 1161 = .ok (.if_icmp .eq 159, 3) := by decide +kernel
theorem dL_law_1164 : decode cL_law 1164 = .ok (.iconst 0, 1) := by decide +kernel
theorem dL_law_1165 : decode cL_law 1165 = .ok (.ireturn, 1) := by decide +kernel
theorem dL_law_1166 : decode cL_law 1166 = .ok (.aload_n 1, 1) := by decide +kernel
theorem dL_law_1167 : decode cL_law 1167 = .ok (.aload_n 0, 1) := by decide +kernel
theorem dL_law_1168 : decode cL_law 1168 = .ok (.iload_n 3, 1) := by decide +kernel
theorem dL_law_1169 : decode cL_law 1169 = .ok (.iconst 1, 1) := by decide +kernel
theorem dL_law_1170 : decode cL_law 1170 = .ok (.iadd, 1) := by decide +kernel
theorem dL_law_1171 : decode cL_law 1171 = .ok (.iaload, 1) := by decide +kernel
theorem dL_law_1172 : decode cL_law 1172 = .ok (.invokevirtual 133, 3) := by decide +kernel
theorem dL_law_1175 : decode cL_law 1175 = .ok (.aload_n 2, 1) := by decide +kernel
theorem dL_law_1176 : decode cL_law 1176 = .ok (.aload_n 0, 1) := by decide +kernel
theorem dL_law_1177 : decode cL_law 1177 = .ok (.iload_n 3, 1) := by decide +kernel
theorem dL_law_1178 : decode cL_law 1178 = .ok (.iconst 1, 1) := by decide +kernel
theorem dL_law_1179 : decode cL_law 1179 = .ok (.iadd, 1) := by decide +kernel
theorem dL_law_1180 : decode cL_law 1180 = .ok (.iaload, 1) := by decide +kernel
theorem dL_law_1181 : decode cL_law 1181 = .ok (.invokevirtual 136, 3) := by decide +kernel
theorem dL_law_1184 : decode cL_law 1184 = .ok (.if_icmp .eq 136, 3) := by decide +kernel
theorem dL_law_1187 : decode cL_law 1187 = .ok (.iconst 0, 1) := by decide +kernel
theorem dL_law_1188 : decode cL_law 1188 = .ok (.ireturn, 1) := by decide +kernel
theorem dL_law_1189 : decode cL_law 1189 = .ok (.aload_n 1, 1) := by decide +kernel
theorem dL_law_1190 : decode cL_law 1190 = .ok (.aload_n 0, 1) := by decide +kernel
theorem dL_law_1191 : decode cL_law 1191 = .ok (.iload_n 3, 1) := by decide +kernel
theorem dL_law_1192 : decode cL_law 1192 = .ok (.iconst 1, 1) := by decide +kernel
theorem dL_law_1193 : decode cL_law 1193 = .ok (.iadd, 1) := by decide +kernel
theorem dL_law_1194 : decode cL_law 1194 = .ok (.iaload, 1) := by decide +kernel
theorem dL_law_1195 : decode cL_law 1195 = .ok (.invokevirtual 137, 3) := by decide +kernel
theorem dL_law_1198 : decode cL_law 1198 = .ok (.aload_n 2, 1) := by decide +kernel
theorem dL_law_1199 : decode cL_law 1199 = .ok (.aload_n 0, 1) := by decide +kernel
theorem dL_law_1200 : decode cL_law 1200 = .ok (.iload_n 3, 1) := by decide +kernel
theorem dL_law_1201 : decode cL_law 1201 = .ok (.iconst 1, 1) := by decide +kernel
theorem dL_law_1202 : decode cL_law 1202 = .ok (.iadd, 1) := by decide +kernel
theorem dL_law_1203 : decode cL_law 1203 = .ok (.iaload, 1) := by decide +kernel
theorem dL_law_1204 : decode cL_law 1204 = .ok (.invokevirtual 140, 3) := by decide +kernel
theorem dL_law_1207 : decode cL_law 1207 = .ok (.if_icmp .eq 113, 3) := by decide +kernel
theorem dL_law_1210 : decode cL_law 1210 = .ok (.iconst 0, 1) := by decide +kernel
theorem dL_law_1211 : decode cL_law 1211 = .ok (.ireturn, 1) := by decide +kernel
theorem dL_law_1212 : decode cL_law 1212 = .ok (.aload_n 1, 1) := by decide +kernel
theorem dL_law_1213 : decode cL_law 1213 = .ok (.invokevirtual 141, 3) := by decide +kernel
theorem dL_law_1216 : decode cL_law 1216 = .ok (.aload_n 2, 1) := by decide +kernel
theorem dL_law_1217 : decode cL_law 1217 = .ok (.invokevirtual 145, 3) := by decide +kernel
theorem dL_law_1220 : decode cL_law 1220 = .ok (.if_icmp .eq 100, 3) := by decide +kernel
theorem dL_law_1223 : decode cL_law 1223 = .ok (.iconst 0, 1) := by decide +kernel
theorem dL_law_1224 : decode cL_law 1224 = .ok (.ireturn, 1) := by decide +kernel
theorem dL_law_1225 : decode cL_law 1225 = .ok (.aload_n 1, 1) := by decide +kernel
theorem dL_law_1226 : decode cL_law 1226 = .ok (.invokevirtual 146, 3) := by decide +kernel
theorem dL_law_1229 : decode cL_law 1229 = .ok (.aload_n 2, 1) := by decide +kernel
theorem dL_law_1230 : decode cL_law 1230 = .ok (.invokevirtual 149, 3) := by decide +kernel
theorem dL_law_1233 : decode cL_law 1233 = .ok (.if_icmp .eq 87, 3) := by decide +kernel
theorem dL_law_1236 : decode cL_law 1236 = .ok (.iconst 0, 1) := by decide +kernel
theorem dL_law_1237 : decode cL_law 1237 = .ok (.ireturn, 1) := by decide +kernel
theorem dL_law_1238 : decode cL_law 1238 = .ok (.aload_n 1, 1) := by decide +kernel
theorem dL_law_1239 : decode cL_law 1239 = .ok (.aload_n 0, 1) := by decide +kernel
theorem dL_law_1240 : decode cL_law 1240 = .ok (.iload_n 3, 1) := by decide +kernel
theorem dL_law_1241 : decode cL_law 1241 = .ok (.iconst 1, 1) := by decide +kernel
theorem dL_law_1242 : decode cL_law 1242 = .ok (.iadd, 1) := by decide +kernel
theorem dL_law_1243 : decode cL_law 1243 = .ok (.iaload, 1) := by decide +kernel
theorem dL_law_1244 : decode cL_law 1244 = .ok (.invokevirtual 150, 3) := by decide +kernel
theorem dL_law_1247 : decode cL_law 1247 = .ok (.aload_n 2, 1) := by decide +kernel
theorem dL_law_1248 : decode cL_law 1248 = .ok (.aload_n 0, 1) := by decide +kernel
theorem dL_law_1249 : decode cL_law 1249 = .ok (.iload_n 3, 1) := by decide +kernel
theorem dL_law_1250 : decode cL_law 1250 = .ok (.iconst 1, 1) := by decide +kernel
theorem dL_law_1251 : decode cL_law 1251 = .ok (.iadd, 1) := by decide +kernel
theorem dL_law_1252 : decode cL_law 1252 = .ok (.iaload, 1) := by decide +kernel
theorem dL_law_1253 : decode cL_law 1253 = .ok (.invokevirtual 153, 3) := by decide +kernel
theorem dL_law_1256 : decode cL_law 1256 = .ok (.if_icmp .eq 64, 3) := by decide +kernel
theorem dL_law_1259 : decode cL_law 1259 = .ok (.iconst 0, 1) := by decide +kernel
theorem dL_law_1260 : decode cL_law 1260 = .ok (.ireturn, 1) := by decide +kernel
theorem dL_law_1261 : decode cL_law 1261 = .ok (.aload_n 1, 1) := by decide +kernel
theorem dL_law_1262 : decode cL_law 1262 = .ok (.invokevirtual 154, 3) := by decide +kernel
theorem dL_law_1265 : decode cL_law 1265 = .ok (.aload_n 2, 1) := by decide +kernel
theorem dL_law_1266 : decode cL_law 1266 = .ok (.invokevirtual 157, 3) := by decide +kernel
theorem dL_law_1269 : decode cL_law 1269 = .ok (.if_icmp .eq 51, 3) := by decide +kernel
theorem dL_law_1272 : decode cL_law 1272 = .ok (.iconst 0, 1) := by decide +kernel
theorem dL_law_1273 : decode cL_law 1273 = .ok (.ireturn, 1) := by decide +kernel
theorem dL_law_1274 : decode cL_law 1274 = .ok (.aload_n 1, 1) := by decide +kernel
theorem dL_law_1275 : decode cL_law 1275 = .ok (.aload_n 0, 1) := by decide +kernel
theorem dL_law_1276 : decode cL_law 1276 = .ok (.iload_n 3, 1) := by decide +kernel
theorem dL_law_1277 : decode cL_law 1277 = .ok (.iconst 1, 1) := by decide +kernel
theorem dL_law_1278 : decode cL_law 1278 = .ok (.iadd, 1) := by decide +kernel
theorem dL_law_1279 : decode cL_law 1279 = .ok (.iaload, 1) := by decide +kernel
theorem dL_law_1280 : decode cL_law 1280 = .ok (.invokevirtual 158, 3) := by decide +kernel
theorem dL_law_1283 : decode cL_law 1283 = .ok (.aload_n 2, 1) := by decide +kernel
theorem dL_law_1284 : decode cL_law 1284 = .ok (.aload_n 0, 1) := by decide +kernel
theorem dL_law_1285 : decode cL_law 1285 = .ok (.iload_n 3, 1) := by decide +kernel
theorem dL_law_1286 : decode cL_law 1286 = .ok (.iconst 1, 1) := by decide +kernel
theorem dL_law_1287 : decode cL_law 1287 = .ok (.iadd, 1) := by decide +kernel
theorem dL_law_1288 : decode cL_law 1288 = .ok (.iaload, 1) := by decide +kernel
theorem dL_law_1289 : decode cL_law 1289 = .ok (.invokevirtual 161, 3) := by decide +kernel
theorem dL_law_1292 : decode cL_law 1292 = .ok (.if_icmp .eq 28, 3) := by decide +kernel
theorem dL_law_1295 : decode cL_law 1295 = .ok (.iconst 0, 1) := by decide +kernel
theorem dL_law_1296 : decode cL_law 1296 = .ok (.ireturn, 1) := by decide +kernel
theorem dL_law_1297 : decode cL_law 1297 = .ok (.aload_n 1, 1) := by decide +kernel
theorem dL_law_1298 : decode cL_law 1298 = .ok (.aload_n 0, 1) := by decide +kernel
theorem dL_law_1299 : decode cL_law 1299 = .ok (.iload_n 3, 1) := by decide +kernel
theorem dL_law_1300 : decode cL_law 1300 = .ok (.iconst 1, 1) := by decide +kernel
theorem dL_law_1301 : decode cL_law 1301 = .ok (.iadd, 1) := by decide +kernel
theorem dL_law_1302 : decode cL_law 1302 = .ok (.iaload, 1) := by decide +kernel
theorem dL_law_1303 : decode cL_law 1303 = .ok (.invokevirtual 162, 3) := by decide +kernel
theorem dL_law_1306 : decode cL_law 1306 = .ok (.aload_n 2, 1) := by decide +kernel
theorem dL_law_1307 : decode cL_law 1307 = .ok (.aload_n 0, 1) := by decide +kernel
theorem dL_law_1308 : decode cL_law 1308 = .ok (.iload_n 3, 1) := by decide +kernel
theorem dL_law_1309 : decode cL_law 1309 = .ok (.iconst 1, 1) := by decide +kernel
theorem dL_law_1310 : decode cL_law 1310 = .ok (.iadd, 1) := by decide +kernel
theorem dL_law_1311 : decode cL_law 1311 = .ok (.iaload, 1) := by decide +kernel
theorem dL_law_1312 : decode cL_law 1312 = .ok (.invokevirtual 165, 3) := by decide +kernel
theorem dL_law_1315 : decode cL_law 1315 = .ok (.if_icmp .eq 5, 3) := by decide +kernel
theorem dL_law_1318 : decode cL_law 1318 = .ok (.iconst 0, 1) := by decide +kernel
theorem dL_law_1319 : decode cL_law 1319 = .ok (.ireturn, 1) := by decide +kernel
theorem dL_law_1320 : decode cL_law 1320 = .ok (.iinc 3 6, 3) := by decide +kernel
theorem dL_law_1323 : decode cL_law 1323 = .ok (.goto (-1305), 3) := by decide +kernel
theorem dL_law_1326 : decode cL_law 1326 = .ok (.iconst 1, 1) := by decide +kernel
theorem dL_law_1327 : decode cL_law 1327 = .ok (.ireturn, 1) := by decide +kernel
end
section
-- THE FLAT PICTURE: every cell that a side of the law holds has a number o; what it holds is a row of ints M o; references are fixed by the table G
abbrev aw_M : Type := Nat → Nat → Int32
def aw_un (M : aw_M) (o : Nat) (f : Nat → Int32) : aw_M := fun a => if a = o then f else M a
def aw_u (M : aw_M) (o j : Nat) (v : Int32) : aw_M := aw_un M o (upd (M o) j v)
-- a row of the table: (0, class, fields: 0 a number, 1 a text, r + 2 the cell r), (1, n) ints, (2, n) bytes, (t + 3, n, cells) references
abbrev aw_D : Type := Nat × Nat × List Nat
def aw_fv (ad : Nat → Nat) (f : Nat → Int32) (j kd : Nat) : Value := match kd with
  | 0 => .int (f j)
  | 1 => .ref (ad (900 + (f j).toNatClampNeg))
  | r + 2 => .ref (ad r)
def aw_cell (cy : Nat → ClassId) (ad : Nat → Nat) (q : aw_D) (f : Nat → Int32) : va_E := match q.1 with
  | 0 => .inr (q.2.1, q.2.2.mapIdx (aw_fv ad f))
  | 1 => .inl (cy 0, q.2.1, .inl f)
  | 2 => .inl (cy 1, q.2.1, .inl f)
  | t + 3 => .inl (cy (t + 2), q.2.1, .inr (.inr (.inr (.inr (fun j => (q.2.2[j]?).map ad)))))
def aw_W (cy : Nat → ClassId) (ad : Nat → Nat) (G : List aw_D) (M : aw_M) : va_W := G.mapIdx (fun k q => (ad k, aw_cell cy ad q (M k)))
def aw_tys (cy : Nat → ClassId) : List (ClassId × FieldType) := [(cy 0, .int), (cy 1, .byte), (cy 2, .object "LoopsBelow$Cloth"), (cy 3, .object "LoopsBelow$Law"), (cy 4, .object "LoopsBelow$Gauge"), (cy 5, .object "LoopsBelow$Sheet")]
theorem aw_W_at {cy : Nat → ClassId} {ad : Nat → Nat} {G : List aw_D} {M : aw_M} {k : Nat} {q : aw_D} (h : G[k]? = some q) : (aw_W cy ad G M)[k]? = some (ad k, aw_cell cy ad q (M k)) := by
  rw [aw_W, List.getElem?_mapIdx, h]; rfl
theorem aw_W_set {cy : Nat → ClassId} {ad : Nat → Nat} {G : List aw_D} {M : aw_M} {k : Nat} {q : aw_D} {f : Nat → Int32} (h : G[k]? = some q) : (aw_W cy ad G M).set k (ad k, aw_cell cy ad q f) = aw_W cy ad G (aw_un M k f) := by
  apply List.ext_getElem?
  intro j
  by_cases hj : j = k
  · subst hj
    have hl : j < (aw_W cy ad G M).length := (List.getElem?_eq_some_iff.mp (aw_W_at h)).1
    rw [List.getElem?_set_self hl, aw_W_at h]
    simp [aw_un]
  · rw [List.getElem?_set_ne (Ne.symm hj)]
    simp only [aw_W, List.getElem?_mapIdx]
    cases G[j]? with
    | none => rfl
    | some x => simp [aw_un, hj]
theorem aw_D_any {A : Nat → Prop} {cy : Nat → ClassId} {ad : Nat → Nat} {G : List aw_D} {M M' : aw_M} (h : va_D A (aw_W cy ad G M)) : va_D A (aw_W cy ad G M') := by
  have key : ∀ (k : Nat) (q : Nat × va_E), (aw_W cy ad G M')[k]? = some q → ∃ q0, (aw_W cy ad G M)[k]? = some q0 ∧ q0.1 = q.1 := by
    intro k q hk
    rw [aw_W, List.getElem?_mapIdx] at hk
    cases hg : G[k]? with
    | none => rw [hg] at hk; cases hk
    | some x => rw [hg] at hk; cases hk; exact ⟨_, aw_W_at hg, rfl⟩
  refine ⟨fun i j p q hi hj e => ?_, fun k q hk => ?_⟩
  · obtain ⟨p0, h1, h2⟩ := key i p hi
    obtain ⟨q0, h3, h4⟩ := key j q hj
    exact h.1 i j p0 q0 h1 h3 (h2.trans (e.trans h4.symm))
  · obtain ⟨q0, h1, h2⟩ := key k q hk
    rw [← h2]
    exact h.2 k q0 h1
-- the tables' words that every method may use; the nest mates' links, which go another way
def tb_g : List Cond := lw_tbl.filter goodWord
theorem tb_in {i : Nat} {w : Cond} (h : lw_tbl[i]? = some w) (hg : goodWord w = true) : w ∈ tb_g := List.mem_filter.mpr ⟨List.mem_of_getElem? h, hg⟩
theorem tb_good : GoodIn tb_g tb_g := fun _ h => ⟨h, good_of_word (List.mem_filter.mp h).2⟩
def tb_nm : List (String × Nat × MethodName × String) := [("LoopsBelow$State", 83, yX9_held, "LoopsBelow"), ("LoopsBelow$Cloth", 31, yX9_above, "LoopsBelow"), ("LoopsBelow$Gauge", 87, yX9_held, "LoopsBelow"), ("LoopsBelow$TextReader", 30, yX9_held, "LoopsBelow"), ("LoopsBelow$Law", 24, yX9_held, "LoopsBelow"), ("LoopsBelow$RowSearch", 19, yX9_held, "LoopsBelow"), ("LoopsBelow", 276, yX5_extend, "LoopsBelow"), ("LoopsBelow$Choir", 47, yX9_above, "LoopsBelow")]
def tb_nf : List (String × Nat × String × String × String × String) := [("LoopsBelow$State", 90, "LoopsBelow", "DEED_SECONDS", "[I", "LoopsBelow"), ("LoopsBelow$Choir", 44, "LoopsBelow", "BODIES", "[I", "LoopsBelow")]
def aw_N (U : State) : Prop := (∀ q ∈ tb_nm, va_Nw (.methodLinkNest q.1 q.2.1 q.2.2.1 q.2.2.2) U) ∧ ∀ q ∈ tb_nf, va_Nw (.fieldLinkNest q.1 q.2.1 q.2.2.1 q.2.2.2.1 q.2.2.2.2.1 q.2.2.2.2.2) U
theorem aw_N.warm {s U : State} (hW : s.WarmedH U.vm) (h : aw_N s) : aw_N U := ⟨fun q hq => va_Nw.warmM hW (h.1 q hq), fun q hq => va_Nw.warmF hW (h.2 q hq)⟩
theorem aw_N.same {u U : State} (h : u.vm = U.vm) (hN : aw_N u) : aw_N U := ⟨fun q hq => va_Nw.same rfl h (hN.1 q hq), fun q hq => va_Nw.same rfl h (hN.2 q hq)⟩
-- what lies outside: the two static rows (cells 910, 911), the two texts (cells 900, 901; their bytes 904, 905)
def aw_t0 : List Int32 := [11, 20, 9, 2, 2, 5, 5]
def aw_t1 : List Int32 := [10, 11, 12, 13, 20, 0, 0, 0, 0, 30, 0, 0, 0, 0, 40, 0, 0, 0, 0, 50, 0, 60, 0, 0, 0, 0, 70, 71]
def aw_tx : List (List Int32) := [[116, 109, 107], [116, 109, 108]]
def aw_E (ad : Nat → Nat) (A : Nat → Prop) (U : State) (H : Heap) : Prop :=
  (va_Z "LoopsBelow" "DEED_SECONDS" "[I" (.ref (ad 910)) A U H ∧ va_T .int (ad 910) 7 (fun j => .int (aw_t0.getD j 0)) A U H) ∧
  (va_Z "LoopsBelow" "BODIES" "[I" (.ref (ad 911)) A U H ∧ va_T .int (ad 911) 28 (fun j => .int (aw_t1.getD j 0)) A U H) ∧
  va_Z "java/lang/String" "COMPACT_STRINGS" "Z" (.int 1) A U H ∧
  vk_S 2 [3, 3] aw_tx (fun i => ad (900 + i)) (fun i => ad (904 + i)) A U H
def aw_T (ad : Nat → Nat) (U : State) : Prop := vk_R "LoopsBelow" 164 "tmk" (ad 900) U ∧ vk_R "LoopsBelow" 166 "tml" (ad 901) U
theorem aw_E.moved {ad : Nat → Nat} {A : Nat → Prop} {u U : State} {H : Heap} (hvm : u.vm.Alike U.vm) (h : aw_E ad A u H) : aw_E ad A U H :=
  ⟨⟨h.1.1.moved hvm, h.1.2.moved hvm⟩, ⟨h.2.1.1.moved hvm, h.2.1.2.moved hvm⟩, h.2.2.1.moved hvm, h.2.2.2.moved hvm⟩
theorem aw_E.kept {ad : Nat → Nat} {A : Nat → Prop} {U : State} {H H1 : Heap} (h : aw_E ad A U H) (hq : ∀ a : Nat, a < H.size → ¬ A a → H1[a]? = H[a]?) : aw_E ad A U H1 :=
  ⟨⟨h.1.1.kept hq, h.1.2.kept hq⟩, ⟨h.2.1.1.kept hq, h.2.1.2.kept hq⟩, h.2.2.1.kept hq, h.2.2.2.kept hq⟩
theorem aw_T.warm {ad : Nat → Nat} {s U : State} (hW : s.WarmedH U.vm) (h : aw_T ad s) : aw_T ad U := ⟨h.1.warm hW, h.2.warm hW⟩
theorem aw_T.same {ad : Nat → Nat} {u U : State} (hv : U.vm = u.vm) (h : aw_T ad u) : aw_T ad U := ⟨h.1.same hv, h.2.same hv⟩
-- room: a call's depth
def aw_R (d : Nat) : Room := { frames := d, cells := 0, slots := 0, locals := 64 * d }
def aw_ws (y : MethodName) (cc : ByteArray) (maxL : Nat) (ret : Option FieldType) : List Cond := Cond.code y cc maxL ret :: tb_g
-- a method's start and end
def aw_B (D : va_G) (cy : Nat → ClassId) (ad : Nat → Nat) (A : Nat → Prop) (G : List aw_D) (M : aw_M) (U : State) : Prop :=
  va_P D vwCl (aw_W cy ad G M) U.heap ∧ va_K D vwCl (aw_tys cy) U ∧ va_D A (aw_W cy ad G M) ∧ aw_E ad A U U.heap ∧ aw_T ad U ∧ aw_N U
def aw_Q (D : va_G) (cy : Nat → ClassId) (ad : Nat → Nat) (A : Nat → Prop) (G : List aw_D) (v : Option Value) (M1 : aw_M) : Array Value → State → Outcome → State → Prop := fun _ st oc t =>
  (oc = .returned v ∧ va_P D vwCl (aw_W cy ad G M1) t.heap) ∧ va_F A st t
/-- method y, from the picture M, with the arguments av: it returns v, and leaves the picture M1 -/
def AX (l : Launch) (D : va_G) (cy : Nat → ClassId) (ad : Nat → Nat) (A : Nat → Prop) (G : List aw_D) (y : MethodName) (cc : ByteArray) (maxL : Nat) (ret : Option FieldType) (d : Nat) (av : List Value) (M : aw_M) (v : Option Value) (M1 : aw_M) : Prop :=
  Met l y (aw_ws y cc maxL ret) (aw_R d) (va_Pc av (aw_B D cy ad A G M)) (aw_Q D cy ad A G v M1) 0 0 A
def aw_C (D : va_G) (cy : Nat → ClassId) (ad : Nat → Nat) (A : Nat → Prop) (G : List aw_D) (own : String) (cc : ByteArray) (nL : Nat) (ret : Option FieldType) (p : Program) (s : State) (m : MethodId) (args : Array Value) (meth : Method) (c : Code) : Prop :=
  p.tables.exec = Jvm.exec ∧ c.code = cc ∧ c.maxLocals = nL ∧ s.vm.findClass own = some m.cls ∧ (∀ w ∈ tb_g, w.before args s = true) ∧ va_K D vwCl (aw_tys cy) s ∧ va_D A (aw_W cy ad G (fun _ _ => 0)) ∧ aw_E ad A s s.heap ∧ (aw_T ad s ∧ aw_N s) ∧ meth.sig.returnType = ret ∧ meth.locks = false
/-- from pc on, with these locals, this stack, this picture: the method comes to return v, and leaves the picture M1 -/
def AW (l : Launch) (D : va_G) (cy : Nat → ClassId) (ad : Nat → Nat) (A : Nat → Prop) (G : List aw_D) (own : String) (cc : ByteArray) (nL : Nat) (ret : Option FieldType) (d : Nat) (v : Option Value) (M1 : aw_M) (pc : Nat) (lv : List (Nat × Value)) (st : List Value) (M : aw_M) : Prop :=
  ∀ (p : Program) (e : Env) (s : State) (m : MethodId) (args : Array Value) (below : List Frame) (meth : Method) (c : Code) (H : Heap) (locs : List Loc) (ls : Array Slot),
    aw_C D cy ad A G own cc nL ret p s m args meth c → va_P D vwCl (aw_W cy ad G M) H → va_S A s.heap H locs → lv_has ls nL lv →
    W p l e (aw_R d) s m args below meth c H locs 0 0 (MQ below (aw_Q D cy ad A G v M1) args s 0 0 A) (F0 m pc ls st)
section AWS
variable {l : Launch} {D : va_G} {cy : Nat → ClassId} {ad : Nat → Nat} {A : Nat → Prop} {G : List aw_D} {own : String} {cc : ByteArray} {nL : Nat} {ret : Option FieldType} {d : Nat} {v : Option Value} {M1 : aw_M} {pc : Nat} {lv : List (Nat × Value)} {st : List Value} {M : aw_M}
theorem aw_blind {av : List Value} : FrameBlind (va_Pc av (aw_B D cy ad A G M)) := by
  intro a U g mk h
  obtain ⟨h1, hP, hK, hD, hE, hT, hN⟩ := h
  exact ⟨h1, hP, va_K.moved (u := U) (U := U.calling g mk a) (Vm.Alike.refl U.vm) hK, hD, aw_E.moved (u := U) (U := U.calling g mk a) (Vm.Alike.refl U.vm) hE, hT.same (U := U.calling g mk a) rfl, hN.same (U := U.calling g mk a) rfl⟩
theorem aw_pre {s : State} {H : Heap} {locs : List Loc} {av : List Value} (hK : va_K D vwCl (aw_tys cy) s) (hD : va_D A (aw_W cy ad G (fun _ _ => 0))) (hE : aw_E ad A s s.heap) (hT : aw_T ad s) (hN : aw_N s) (hP : va_P D vwCl (aw_W cy ad G M) H) (hS : va_S A s.heap H locs) :
    ∀ U : State, U.heap = H → s.WarmedH U.vm → va_Pc av (aw_B D cy ad A G M) av.toArray U := by
  intro U hU hW
  refine ⟨rfl, by rw [hU]; exact hP, hK.moved hW.alike, aw_D_any hD, ?_, hT.warm hW, hN.warm hW⟩
  rw [hU]
  exact (hE.moved hW.alike).kept (fun a h1 h2 => hS.2.1 a h1 h2)
theorem AX.of {y : MethodName} {maxL : Nat} {av : List Value} (hy : plainName y.cls = true) (ho : y.cls = own) (hl : (lg_sl av).length ≤ maxL) (k : AW l D cy ad A G own cc maxL ret d v M1 0 (lv_args 0 av) [] M) : AX l D cy ad A G y cc maxL ret d av M v M1 := by
  refine Met.ofW (cc := cc) (maxL := maxL) (ret := ret) hy rfl ?_
  intro p e s m args below meth c s₁ B hml hv
  obtain ⟨rfl, hP, hK, hD, hE, hT, hN⟩ := hv
  have hts := atoms_spec (ws := aw_ws y cc maxL ret) B.pre
  rw [lg_entry_eq]
  exact k p e s m _ below meth c s.heap [] _ ⟨B.exec, B.bytes, hml, by rw [← ho]; exact findClass_of_methodNamed B.named, fun w hw => hts w (List.mem_cons_of_mem _ hw), hK, aw_D_any hD, hE, ⟨hT, hN⟩, B.returns, B.notSynchronized⟩ hP va_S.rf (lv_entry av hl)
theorem aw_go {p : Program} {e : Env} {R : Room} {s : State} {m : MethodId} {args : Array Value} {below : List Frame} {meth : Method} {c : Code} {H : Heap} {locs : List Loc} {Q : State → Prop} {ls : Array Slot} {st0 rest : List Value} {a : Array Value} {v : Option Value} {M1 : aw_M}
    (hr : va_Run p l e R s m args below meth c H locs 0 0 0 0 (F0 m pc ls st0) rest (aw_Q D cy ad A G v M1 a) A) (hS : va_S A s.heap H locs)
    (kk : ∀ (H1 : Heap) (locs1 : List Loc), va_P D vwCl (aw_W cy ad G M1) H1 → va_S A s.heap H1 locs1 → W p l e R s m args below meth c H1 locs1 0 0 Q (F0 m (pc + 3) ls (v.toList ++ rest))) : W p l e R s m args below meth c H locs 0 0 Q (F0 m pc ls st0) := by
  intro T hT X
  obtain ⟨w, st₀, t, T', L, h0, X', hL, e1, e2, ⟨⟨hv, hb⟩, hz, hk⟩, st⟩ := hr T hT X
  cases hv
  rw [h0] at hz hk
  obtain ⟨t2, a1, b1⟩ := kk T'.heap (locs ++ L) (by rw [e1]; exact hb)
    ⟨Nat.le_trans hS.1 (by rw [e1]; exact hz), fun q h1 h2 => by rw [e1, hk q (Nat.lt_of_lt_of_le h1 hS.1) h2]; exact hS.2.1 q h1 h2, fun q hq => by
      rcases List.mem_append.mp hq with h | h
      · exact hS.2.2 q h
      · exact hL q h⟩ T' rfl X'
  exact ⟨t2, st t2 a1, b1⟩
end AWS
end
section
section AXS
variable {l : Launch} {D : va_G} {cy : Nat → ClassId} {ad : Nat → Nat} {A : Nat → Prop} {G : List aw_D} {own : String} {cc : ByteArray} {nL : Nat} {ret : Option FieldType} {d : Nat} {v : Option Value} {M1 : aw_M} {pc : Nat} {lv lv' : List (Nat × Value)} {st : List Value} {M : aw_M}
def aw_lk (lv : List (Nat × Value)) (i : Nat) : Option Value := (lv.find? (fun q => q.1 == i)).map (fun q => q.2)
theorem aw_lk_at {ls : Array Slot} {nL i : Nat} {lv : List (Nat × Value)} {w : Value} (hl : lv_has ls nL lv) (h : aw_lk lv i = some w) : ls[i]? = some (.val w) := by
  unfold aw_lk at h
  cases hf : lv.find? (fun q => q.1 == i) with
  | none => rw [hf] at h; cases h
  | some q =>
    rw [hf] at h
    cases h
    have h1 := List.find?_some hf
    have h2 : q.1 = i := by simpa using h1
    rw [← h2]
    exact hl.2.2 q (List.mem_of_find?_eq_some hf)
theorem aw_lk_ix {i : Nat} {lv : List (Nat × Value)} {w : Value} (h : aw_lk lv i = some w) : ∃ k : Nat, lv[k]? = some (i, w) := by
  unfold aw_lk at h
  cases hf : lv.find? (fun q => q.1 == i) with
  | none => rw [hf] at h; cases h
  | some q =>
    rw [hf] at h
    cases h
    have h1 := List.find?_some hf
    have h2 : q.1 = i := by simpa using h1
    obtain ⟨k, hk⟩ := List.getElem?_of_mem (List.mem_of_find?_eq_some hf)
    exact ⟨k, by rw [hk, ← h2]⟩
theorem x_iconst {n : Int} {w : Int32} (hd : decode cc pc = .ok (.iconst n, 1)) (hv : Int32.ofInt n = w) (k : AW l D cy ad A G own cc nL ret d v M1 (pc + 1) lv (.int w :: st) M) : AW l D cy ad A G own cc nL ret d v M1 pc lv (st) M := fun p e s m args below meth c H locs ls C hP hS hl => lv_iconst C.1 C.2.1 hd hv (k p e s m args below meth c H locs ls C hP hS hl)
theorem x_bipush {n : Int} {w : Int32} (hd : decode cc pc = .ok (.bipush n, 2)) (hv : (Int8.ofInt n).toInt32 = w) (k : AW l D cy ad A G own cc nL ret d v M1 (pc + 2) lv (.int w :: st) M) : AW l D cy ad A G own cc nL ret d v M1 pc lv (st) M := fun p e s m args below meth c H locs ls C hP hS hl => lv_bipush C.1 C.2.1 hd hv (k p e s m args below meth c H locs ls C hP hS hl)
theorem x_sipush {n : Int} {w : Int32} (hd : decode cc pc = .ok (.sipush n, 3)) (hv : (Int16.ofInt n).toInt32 = w) (k : AW l D cy ad A G own cc nL ret d v M1 (pc + 3) lv (.int w :: st) M) : AW l D cy ad A G own cc nL ret d v M1 pc lv (st) M := fun p e s m args below meth c H locs ls C hP hS hl => lv_sipush C.1 C.2.1 hd hv (k p e s m args below meth c H locs ls C hP hS hl)
theorem x_iload_n {j : Fin 4} {x : Int32} (i : Nat) (hd : decode cc pc = .ok (.iload_n j, 1)) (hi : (j : Nat) = i) (hx : aw_lk lv i = some (.int x)) (k : AW l D cy ad A G own cc nL ret d v M1 (pc + 1) lv (.int x :: st) M) : AW l D cy ad A G own cc nL ret d v M1 pc lv st M := fun p e s m args below meth c H locs ls C hP hS hl => lv_iload_n C.1 C.2.1 hd hi (aw_lk_at hl hx) (k p e s m args below meth c H locs ls C hP hS hl)
theorem x_iload {i : Nat} {x : Int32} (hd : decode cc pc = .ok (.iload i, 2)) (hx : aw_lk lv i = some (.int x)) (k : AW l D cy ad A G own cc nL ret d v M1 (pc + 2) lv (.int x :: st) M) : AW l D cy ad A G own cc nL ret d v M1 pc lv st M := fun p e s m args below meth c H locs ls C hP hS hl => lv_iload C.1 C.2.1 hd (aw_lk_at hl hx) (k p e s m args below meth c H locs ls C hP hS hl)
theorem x_lload_n {j : Fin 4} {x : Int64} (i : Nat) (hd : decode cc pc = .ok (.lload_n j, 1)) (hi : (j : Nat) = i) (hx : aw_lk lv i = some (.long x)) (k : AW l D cy ad A G own cc nL ret d v M1 (pc + 1) lv (.long x :: st) M) : AW l D cy ad A G own cc nL ret d v M1 pc lv st M := fun p e s m args below meth c H locs ls C hP hS hl => lv_lload_n C.1 C.2.1 hd hi (aw_lk_at hl hx) (k p e s m args below meth c H locs ls C hP hS hl)
theorem x_aload_n {j : Fin 4} {x : Nat} (i : Nat) (hd : decode cc pc = .ok (.aload_n j, 1)) (hi : (j : Nat) = i) (hx : aw_lk lv i = some (.ref x)) (k : AW l D cy ad A G own cc nL ret d v M1 (pc + 1) lv (.ref x :: st) M) : AW l D cy ad A G own cc nL ret d v M1 pc lv st M := fun p e s m args below meth c H locs ls C hP hS hl => lv_aload_n C.1 C.2.1 hd hi (aw_lk_at hl hx) (k p e s m args below meth c H locs ls C hP hS hl)
theorem x_aload {i : Nat} {x : Nat} (hd : decode cc pc = .ok (.aload i, 2)) (hx : aw_lk lv i = some (.ref x)) (k : AW l D cy ad A G own cc nL ret d v M1 (pc + 2) lv (.ref x :: st) M) : AW l D cy ad A G own cc nL ret d v M1 pc lv st M := fun p e s m args below meth c H locs ls C hP hS hl => lv_aload C.1 C.2.1 hd (aw_lk_at hl hx) (k p e s m args below meth c H locs ls C hP hS hl)
theorem x_istore_n {j : Fin 4} {x : Int32} (i : Nat) (lv' : List (Nat × Value)) (hd : decode cc pc = .ok (.istore_n j, 1)) (hi : (j : Nat) = i) (hn : i < nL) (hv : (i, Value.int x) :: lv.filter (fun q => !(q.1 == i) && !(q.1 + 1 == i && q.2.category == 2)) = lv') (k : AW l D cy ad A G own cc nL ret d v M1 (pc + 1) lv' st M) : AW l D cy ad A G own cc nL ret d v M1 pc lv (.int x :: st) M := fun p e s m args below meth c H locs ls C hP hS hl => lv_istore_n C.1 C.2.1 hd hi hl hn hv (fun ls' hl' => k p e s m args below meth c H locs ls' C hP hS hl')
theorem x_istore {x : Int32} (i : Nat) (lv' : List (Nat × Value)) (hd : decode cc pc = .ok (.istore i, 2)) (hn : i < nL) (hv : (i, Value.int x) :: lv.filter (fun q => !(q.1 == i) && !(q.1 + 1 == i && q.2.category == 2)) = lv') (k : AW l D cy ad A G own cc nL ret d v M1 (pc + 2) lv' st M) : AW l D cy ad A G own cc nL ret d v M1 pc lv (.int x :: st) M := fun p e s m args below meth c H locs ls C hP hS hl => lv_istore C.1 C.2.1 hd hl hn hv (fun ls' hl' => k p e s m args below meth c H locs ls' C hP hS hl')
theorem x_astore_n {j : Fin 4} {x : Nat} (i : Nat) (lv' : List (Nat × Value)) (hd : decode cc pc = .ok (.astore_n j, 1)) (hi : (j : Nat) = i) (hn : i < nL) (hv : (i, Value.ref x) :: lv.filter (fun q => !(q.1 == i) && !(q.1 + 1 == i && q.2.category == 2)) = lv') (k : AW l D cy ad A G own cc nL ret d v M1 (pc + 1) lv' st M) : AW l D cy ad A G own cc nL ret d v M1 pc lv (.ref x :: st) M := fun p e s m args below meth c H locs ls C hP hS hl => lv_astore_n C.1 C.2.1 hd hi hl hn hv (fun ls' hl' => k p e s m args below meth c H locs ls' C hP hS hl')
theorem x_astore {x : Nat} (i : Nat) (lv' : List (Nat × Value)) (hd : decode cc pc = .ok (.astore i, 2)) (hn : i < nL) (hv : (i, Value.ref x) :: lv.filter (fun q => !(q.1 == i) && !(q.1 + 1 == i && q.2.category == 2)) = lv') (k : AW l D cy ad A G own cc nL ret d v M1 (pc + 2) lv' st M) : AW l D cy ad A G own cc nL ret d v M1 pc lv (.ref x :: st) M := fun p e s m args below meth c H locs ls C hP hS hl => lv_astore C.1 C.2.1 hd hl hn hv (fun ls' hl' => k p e s m args below meth c H locs ls' C hP hS hl')
theorem x_iinc {i : Nat} {n : Int} {x : Int32} (y : Int32) (lv' : List (Nat × Value)) (hd : decode cc pc = .ok (.iinc i n, 3)) (hx : aw_lk lv i = some (.int x)) (hy : x + Int32.ofInt n = y) (hn : i < nL) (hv : (i, Value.int y) :: lv.filter (fun q => !(q.1 == i) && !(q.1 + 1 == i && q.2.category == 2)) = lv') (k : AW l D cy ad A G own cc nL ret d v M1 (pc + 3) lv' st M) : AW l D cy ad A G own cc nL ret d v M1 pc lv st M := by
  obtain ⟨j, hj⟩ := aw_lk_ix hx
  exact fun p e s m args below meth c H locs ls C hP hS hl => lv_iinc C.1 C.2.1 hd hl hj hy hn hv (fun ls' hl' => k p e s m args below meth c H locs ls' C hP hS hl')
theorem x_iadd {x y : Int32} (hd : decode cc pc = .ok (.iadd, 1))  (k : AW l D cy ad A G own cc nL ret d v M1 (pc + 1) lv (.int (x + y) :: st) M) : AW l D cy ad A G own cc nL ret d v M1 pc lv (.int y :: .int x :: st) M := fun p e s m args below meth c H locs ls C hP hS hl => lv_iadd C.1 C.2.1 hd  (k p e s m args below meth c H locs ls C hP hS hl)
theorem x_isub {x y : Int32} (hd : decode cc pc = .ok (.isub, 1))  (k : AW l D cy ad A G own cc nL ret d v M1 (pc + 1) lv (.int (x - y) :: st) M) : AW l D cy ad A G own cc nL ret d v M1 pc lv (.int y :: .int x :: st) M := fun p e s m args below meth c H locs ls C hP hS hl => lv_isub C.1 C.2.1 hd  (k p e s m args below meth c H locs ls C hP hS hl)
theorem x_imul {x y : Int32} (hd : decode cc pc = .ok (.imul, 1))  (k : AW l D cy ad A G own cc nL ret d v M1 (pc + 1) lv (.int (x * y) :: st) M) : AW l D cy ad A G own cc nL ret d v M1 pc lv (.int y :: .int x :: st) M := fun p e s m args below meth c H locs ls C hP hS hl => lv_imul C.1 C.2.1 hd  (k p e s m args below meth c H locs ls C hP hS hl)
theorem x_iand {x y : Int32} (hd : decode cc pc = .ok (.iand, 1))  (k : AW l D cy ad A G own cc nL ret d v M1 (pc + 1) lv (.int (x &&& y) :: st) M) : AW l D cy ad A G own cc nL ret d v M1 pc lv (.int y :: .int x :: st) M := fun p e s m args below meth c H locs ls C hP hS hl => lv_iand C.1 C.2.1 hd  (k p e s m args below meth c H locs ls C hP hS hl)
theorem x_ior {x y : Int32} (hd : decode cc pc = .ok (.ior, 1))  (k : AW l D cy ad A G own cc nL ret d v M1 (pc + 1) lv (.int (x ||| y) :: st) M) : AW l D cy ad A G own cc nL ret d v M1 pc lv (.int y :: .int x :: st) M := fun p e s m args below meth c H locs ls C hP hS hl => lv_ior C.1 C.2.1 hd  (k p e s m args below meth c H locs ls C hP hS hl)
theorem x_ixor {x y : Int32} (hd : decode cc pc = .ok (.ixor, 1))  (k : AW l D cy ad A G own cc nL ret d v M1 (pc + 1) lv (.int (x ^^^ y) :: st) M) : AW l D cy ad A G own cc nL ret d v M1 pc lv (.int y :: .int x :: st) M := fun p e s m args below meth c H locs ls C hP hS hl => lv_ixor C.1 C.2.1 hd  (k p e s m args below meth c H locs ls C hP hS hl)
theorem x_ishl {x y : Int32} (hd : decode cc pc = .ok (.ishl, 1))  (k : AW l D cy ad A G own cc nL ret d v M1 (pc + 1) lv (.int (x <<< (y &&& 31)) :: st) M) : AW l D cy ad A G own cc nL ret d v M1 pc lv (.int y :: .int x :: st) M := fun p e s m args below meth c H locs ls C hP hS hl => lv_ishl C.1 C.2.1 hd  (k p e s m args below meth c H locs ls C hP hS hl)
theorem x_ishr {x y : Int32} (hd : decode cc pc = .ok (.ishr, 1))  (k : AW l D cy ad A G own cc nL ret d v M1 (pc + 1) lv (.int (x >>> (y &&& 31)) :: st) M) : AW l D cy ad A G own cc nL ret d v M1 pc lv (.int y :: .int x :: st) M := fun p e s m args below meth c H locs ls C hP hS hl => lv_ishr C.1 C.2.1 hd  (k p e s m args below meth c H locs ls C hP hS hl)
theorem x_idiv {x y : Int32} (hd : decode cc pc = .ok (.idiv, 1)) (hne : ¬ y = 0) (k : AW l D cy ad A G own cc nL ret d v M1 (pc + 1) lv (.int (x / y) :: st) M) : AW l D cy ad A G own cc nL ret d v M1 pc lv (.int y :: .int x :: st) M := fun p e s m args below meth c H locs ls C hP hS hl => lv_idiv C.1 C.2.1 hd hne (k p e s m args below meth c H locs ls C hP hS hl)
def aw_rem (x y : Int32) : Int32 := x - x / y * y
theorem x_irem {x y : Int32} (hd : decode cc pc = .ok (.irem, 1)) (hne : ¬ y = 0) (k : AW l D cy ad A G own cc nL ret d v M1 (pc + 1) lv (.int (aw_rem x y) :: st) M) : AW l D cy ad A G own cc nL ret d v M1 pc lv (.int y :: .int x :: st) M := fun p e s m args below meth c H locs ls C hP hS hl => lv_irem C.1 C.2.1 hd hne (k p e s m args below meth c H locs ls C hP hS hl)
theorem x_ineg {x : Int32} (hd : decode cc pc = .ok (.ineg, 1))  (k : AW l D cy ad A G own cc nL ret d v M1 (pc + 1) lv (.int (-x) :: st) M) : AW l D cy ad A G own cc nL ret d v M1 pc lv (.int x :: st) M := fun p e s m args below meth c H locs ls C hP hS hl => lv_ineg C.1 C.2.1 hd  (k p e s m args below meth c H locs ls C hP hS hl)
theorem x_land {x y : Int64} (hd : decode cc pc = .ok (.land, 1))  (k : AW l D cy ad A G own cc nL ret d v M1 (pc + 1) lv (.long (x &&& y) :: st) M) : AW l D cy ad A G own cc nL ret d v M1 pc lv (.long y :: .long x :: st) M := fun p e s m args below meth c H locs ls C hP hS hl => lv_land C.1 C.2.1 hd  (k p e s m args below meth c H locs ls C hP hS hl)
theorem x_lor {x y : Int64} (hd : decode cc pc = .ok (.lor, 1))  (k : AW l D cy ad A G own cc nL ret d v M1 (pc + 1) lv (.long (x ||| y) :: st) M) : AW l D cy ad A G own cc nL ret d v M1 pc lv (.long y :: .long x :: st) M := fun p e s m args below meth c H locs ls C hP hS hl => lv_lor C.1 C.2.1 hd  (k p e s m args below meth c H locs ls C hP hS hl)
theorem x_i2l {x : Int32} (hd : decode cc pc = .ok (.i2l, 1))  (k : AW l D cy ad A G own cc nL ret d v M1 (pc + 1) lv (.long x.toInt64 :: st) M) : AW l D cy ad A G own cc nL ret d v M1 pc lv (.int x :: st) M := fun p e s m args below meth c H locs ls C hP hS hl => lv_i2l C.1 C.2.1 hd rfl (k p e s m args below meth c H locs ls C hP hS hl)
theorem x_l2i {x : Int64} (hd : decode cc pc = .ok (.l2i, 1))  (k : AW l D cy ad A G own cc nL ret d v M1 (pc + 1) lv (.int x.toInt32 :: st) M) : AW l D cy ad A G own cc nL ret d v M1 pc lv (.long x :: st) M := fun p e s m args below meth c H locs ls C hP hS hl => lv_l2i C.1 C.2.1 hd rfl (k p e s m args below meth c H locs ls C hP hS hl)
theorem x_i2b {x : Int32} (hd : decode cc pc = .ok (.i2b, 1))  (k : AW l D cy ad A G own cc nL ret d v M1 (pc + 1) lv (.int x.toInt8.toInt32 :: st) M) : AW l D cy ad A G own cc nL ret d v M1 pc lv (.int x :: st) M := fun p e s m args below meth c H locs ls C hP hS hl => lv_i2b C.1 C.2.1 hd rfl (k p e s m args below meth c H locs ls C hP hS hl)
theorem x_i2s {x : Int32} (hd : decode cc pc = .ok (.i2s, 1))  (k : AW l D cy ad A G own cc nL ret d v M1 (pc + 1) lv (.int x.toInt16.toInt32 :: st) M) : AW l D cy ad A G own cc nL ret d v M1 pc lv (.int x :: st) M := fun p e s m args below meth c H locs ls C hP hS hl => lv_i2s C.1 C.2.1 hd rfl (k p e s m args below meth c H locs ls C hP hS hl)
def aw_ch (x : Int32) : Int32 := (x.toUInt32 % 65536).toInt32
theorem x_i2c {x : Int32} (hd : decode cc pc = .ok (.i2c, 1))  (k : AW l D cy ad A G own cc nL ret d v M1 (pc + 1) lv (.int (aw_ch x) :: st) M) : AW l D cy ad A G own cc nL ret d v M1 pc lv (.int x :: st) M := fun p e s m args below meth c H locs ls C hP hS hl => lv_i2c C.1 C.2.1 hd rfl (k p e s m args below meth c H locs ls C hP hS hl)
def aw_ush (x y : Int32) : Int32 := (x.toUInt32 >>> (y.toUInt32 &&& Int32.toUInt32 31)).toInt32
theorem x_iushr {x y : Int32} (hd : decode cc pc = .ok (.iushr, 1))  (k : AW l D cy ad A G own cc nL ret d v M1 (pc + 1) lv (.int (aw_ush x y) :: st) M) : AW l D cy ad A G own cc nL ret d v M1 pc lv (.int y :: .int x :: st) M := fun p e s m args below meth c H locs ls C hP hS hl => lv_iushr C.1 C.2.1 hd rfl (k p e s m args below meth c H locs ls C hP hS hl)
def aw_lush (x : Int64) (y : Int32) : Int64 := (x.toUInt64 >>> (y.toInt64.toUInt64 &&& Int64.toUInt64 63)).toInt64
theorem x_lushr {x : Int64} {y : Int32} (hd : decode cc pc = .ok (.lushr, 1))  (k : AW l D cy ad A G own cc nL ret d v M1 (pc + 1) lv (.long (aw_lush x y) :: st) M) : AW l D cy ad A G own cc nL ret d v M1 pc lv (.int y :: .long x :: st) M := fun p e s m args below meth c H locs ls C hP hS hl => lv_lushr C.1 C.2.1 hd rfl (k p e s m args below meth c H locs ls C hP hS hl)
theorem x_lshl {x : Int64} {y : Int32} (hd : decode cc pc = .ok (.lshl, 1))  (k : AW l D cy ad A G own cc nL ret d v M1 (pc + 1) lv (.long (x <<< (y.toInt64 &&& 63)) :: st) M) : AW l D cy ad A G own cc nL ret d v M1 pc lv (.int y :: .long x :: st) M := fun p e s m args below meth c H locs ls C hP hS hl => lv_lshl C.1 C.2.1 hd rfl (k p e s m args below meth c H locs ls C hP hS hl)
theorem x_lshr {x : Int64} {y : Int32} (hd : decode cc pc = .ok (.lshr, 1))  (k : AW l D cy ad A G own cc nL ret d v M1 (pc + 1) lv (.long (x >>> (y.toInt64 &&& 63)) :: st) M) : AW l D cy ad A G own cc nL ret d v M1 pc lv (.int y :: .long x :: st) M := fun p e s m args below meth c H locs ls C hP hS hl => lv_lshr C.1 C.2.1 hd rfl (k p e s m args below meth c H locs ls C hP hS hl)
theorem x_dup {x : Value} (hd : decode cc pc = .ok (.dup, 1)) (hc : x.category = 1) (k : AW l D cy ad A G own cc nL ret d v M1 (pc + 1) lv (x :: x :: st) M) : AW l D cy ad A G own cc nL ret d v M1 pc lv (x :: st) M := fun p e s m args below meth c H locs ls C hP hS hl => lv_dup C.1 C.2.1 hd hc (k p e s m args below meth c H locs ls C hP hS hl)
theorem x_dup2_11 {x y : Value} (hd : decode cc pc = .ok (.dup2, 1)) (hc : x.category = 1) (hc2 : y.category = 1) (k : AW l D cy ad A G own cc nL ret d v M1 (pc + 1) lv (x :: y :: x :: y :: st) M) : AW l D cy ad A G own cc nL ret d v M1 pc lv (x :: y :: st) M := fun p e s m args below meth c H locs ls C hP hS hl => lv_dup2_11 C.1 C.2.1 hd hc hc2 (k p e s m args below meth c H locs ls C hP hS hl)
theorem x_goto {off : Int} (tgt : Nat) (hd : decode cc pc = .ok (.goto off, 3)) (ht : (pc : Int) + off = (tgt : Int)) (k : AW l D cy ad A G own cc nL ret d v M1 tgt lv (st) M) : AW l D cy ad A G own cc nL ret d v M1 pc lv (st) M := fun p e s m args below meth c H locs ls C hP hS hl => lv_goto C.1 C.2.1 hd ht (k p e s m args below meth c H locs ls C hP hS hl)
theorem x_if_eq {x : Int32} {off : Int} (tgt : Nat) (hd : decode cc pc = .ok (.ifCond .eq off, 3)) (ht : (pc : Int) + off = (tgt : Int)) (kt : x = 0 → AW l D cy ad A G own cc nL ret d v M1 tgt lv st M) (kf : ¬ x = 0 → AW l D cy ad A G own cc nL ret d v M1 (pc + 3) lv st M) : AW l D cy ad A G own cc nL ret d v M1 pc lv (.int x :: st) M := fun p e s m args below meth c H locs ls C hP hS hl => lv_if_eq C.1 C.2.1 hd ht (fun h => kt h p e s m args below meth c H locs ls C hP hS hl) (fun h => kf h p e s m args below meth c H locs ls C hP hS hl)
theorem x_icmp_eq {x y : Int32} {off : Int} (tgt : Nat) (hd : decode cc pc = .ok (.if_icmp .eq off, 3)) (ht : (pc : Int) + off = (tgt : Int)) (kt : x = y → AW l D cy ad A G own cc nL ret d v M1 tgt lv st M) (kf : ¬ x = y → AW l D cy ad A G own cc nL ret d v M1 (pc + 3) lv st M) : AW l D cy ad A G own cc nL ret d v M1 pc lv (.int y :: .int x :: st) M := fun p e s m args below meth c H locs ls C hP hS hl => lv_icmp_eq C.1 C.2.1 hd ht (fun h => kt h p e s m args below meth c H locs ls C hP hS hl) (fun h => kf h p e s m args below meth c H locs ls C hP hS hl)
theorem x_if_ne {x : Int32} {off : Int} (tgt : Nat) (hd : decode cc pc = .ok (.ifCond .ne off, 3)) (ht : (pc : Int) + off = (tgt : Int)) (kt : ¬ x = 0 → AW l D cy ad A G own cc nL ret d v M1 tgt lv st M) (kf : x = 0 → AW l D cy ad A G own cc nL ret d v M1 (pc + 3) lv st M) : AW l D cy ad A G own cc nL ret d v M1 pc lv (.int x :: st) M := fun p e s m args below meth c H locs ls C hP hS hl => lv_if_ne C.1 C.2.1 hd ht (fun h => kt h p e s m args below meth c H locs ls C hP hS hl) (fun h => kf h p e s m args below meth c H locs ls C hP hS hl)
theorem x_icmp_ne {x y : Int32} {off : Int} (tgt : Nat) (hd : decode cc pc = .ok (.if_icmp .ne off, 3)) (ht : (pc : Int) + off = (tgt : Int)) (kt : ¬ x = y → AW l D cy ad A G own cc nL ret d v M1 tgt lv st M) (kf : x = y → AW l D cy ad A G own cc nL ret d v M1 (pc + 3) lv st M) : AW l D cy ad A G own cc nL ret d v M1 pc lv (.int y :: .int x :: st) M := fun p e s m args below meth c H locs ls C hP hS hl => lv_icmp_ne C.1 C.2.1 hd ht (fun h => kt h p e s m args below meth c H locs ls C hP hS hl) (fun h => kf h p e s m args below meth c H locs ls C hP hS hl)
theorem x_if_lt {x : Int32} {off : Int} (tgt : Nat) (hd : decode cc pc = .ok (.ifCond .lt off, 3)) (ht : (pc : Int) + off = (tgt : Int)) (kt : x < 0 → AW l D cy ad A G own cc nL ret d v M1 tgt lv st M) (kf : ¬ x < 0 → AW l D cy ad A G own cc nL ret d v M1 (pc + 3) lv st M) : AW l D cy ad A G own cc nL ret d v M1 pc lv (.int x :: st) M := fun p e s m args below meth c H locs ls C hP hS hl => lv_if_lt C.1 C.2.1 hd ht (fun h => kt h p e s m args below meth c H locs ls C hP hS hl) (fun h => kf h p e s m args below meth c H locs ls C hP hS hl)
theorem x_icmp_lt {x y : Int32} {off : Int} (tgt : Nat) (hd : decode cc pc = .ok (.if_icmp .lt off, 3)) (ht : (pc : Int) + off = (tgt : Int)) (kt : x < y → AW l D cy ad A G own cc nL ret d v M1 tgt lv st M) (kf : ¬ x < y → AW l D cy ad A G own cc nL ret d v M1 (pc + 3) lv st M) : AW l D cy ad A G own cc nL ret d v M1 pc lv (.int y :: .int x :: st) M := fun p e s m args below meth c H locs ls C hP hS hl => lv_icmp_lt C.1 C.2.1 hd ht (fun h => kt h p e s m args below meth c H locs ls C hP hS hl) (fun h => kf h p e s m args below meth c H locs ls C hP hS hl)
theorem x_if_ge {x : Int32} {off : Int} (tgt : Nat) (hd : decode cc pc = .ok (.ifCond .ge off, 3)) (ht : (pc : Int) + off = (tgt : Int)) (kt : 0 ≤ x → AW l D cy ad A G own cc nL ret d v M1 tgt lv st M) (kf : ¬ 0 ≤ x → AW l D cy ad A G own cc nL ret d v M1 (pc + 3) lv st M) : AW l D cy ad A G own cc nL ret d v M1 pc lv (.int x :: st) M := fun p e s m args below meth c H locs ls C hP hS hl => lv_if_ge C.1 C.2.1 hd ht (fun h => kt h p e s m args below meth c H locs ls C hP hS hl) (fun h => kf h p e s m args below meth c H locs ls C hP hS hl)
theorem x_icmp_ge {x y : Int32} {off : Int} (tgt : Nat) (hd : decode cc pc = .ok (.if_icmp .ge off, 3)) (ht : (pc : Int) + off = (tgt : Int)) (kt : y ≤ x → AW l D cy ad A G own cc nL ret d v M1 tgt lv st M) (kf : ¬ y ≤ x → AW l D cy ad A G own cc nL ret d v M1 (pc + 3) lv st M) : AW l D cy ad A G own cc nL ret d v M1 pc lv (.int y :: .int x :: st) M := fun p e s m args below meth c H locs ls C hP hS hl => lv_icmp_ge C.1 C.2.1 hd ht (fun h => kt h p e s m args below meth c H locs ls C hP hS hl) (fun h => kf h p e s m args below meth c H locs ls C hP hS hl)
theorem x_if_gt {x : Int32} {off : Int} (tgt : Nat) (hd : decode cc pc = .ok (.ifCond .gt off, 3)) (ht : (pc : Int) + off = (tgt : Int)) (kt : 0 < x → AW l D cy ad A G own cc nL ret d v M1 tgt lv st M) (kf : ¬ 0 < x → AW l D cy ad A G own cc nL ret d v M1 (pc + 3) lv st M) : AW l D cy ad A G own cc nL ret d v M1 pc lv (.int x :: st) M := fun p e s m args below meth c H locs ls C hP hS hl => lv_if_gt C.1 C.2.1 hd ht (fun h => kt h p e s m args below meth c H locs ls C hP hS hl) (fun h => kf h p e s m args below meth c H locs ls C hP hS hl)
theorem x_icmp_gt {x y : Int32} {off : Int} (tgt : Nat) (hd : decode cc pc = .ok (.if_icmp .gt off, 3)) (ht : (pc : Int) + off = (tgt : Int)) (kt : y < x → AW l D cy ad A G own cc nL ret d v M1 tgt lv st M) (kf : ¬ y < x → AW l D cy ad A G own cc nL ret d v M1 (pc + 3) lv st M) : AW l D cy ad A G own cc nL ret d v M1 pc lv (.int y :: .int x :: st) M := fun p e s m args below meth c H locs ls C hP hS hl => lv_icmp_gt C.1 C.2.1 hd ht (fun h => kt h p e s m args below meth c H locs ls C hP hS hl) (fun h => kf h p e s m args below meth c H locs ls C hP hS hl)
theorem x_if_le {x : Int32} {off : Int} (tgt : Nat) (hd : decode cc pc = .ok (.ifCond .le off, 3)) (ht : (pc : Int) + off = (tgt : Int)) (kt : x ≤ 0 → AW l D cy ad A G own cc nL ret d v M1 tgt lv st M) (kf : ¬ x ≤ 0 → AW l D cy ad A G own cc nL ret d v M1 (pc + 3) lv st M) : AW l D cy ad A G own cc nL ret d v M1 pc lv (.int x :: st) M := fun p e s m args below meth c H locs ls C hP hS hl => lv_if_le C.1 C.2.1 hd ht (fun h => kt h p e s m args below meth c H locs ls C hP hS hl) (fun h => kf h p e s m args below meth c H locs ls C hP hS hl)
theorem x_icmp_le {x y : Int32} {off : Int} (tgt : Nat) (hd : decode cc pc = .ok (.if_icmp .le off, 3)) (ht : (pc : Int) + off = (tgt : Int)) (kt : x ≤ y → AW l D cy ad A G own cc nL ret d v M1 tgt lv st M) (kf : ¬ x ≤ y → AW l D cy ad A G own cc nL ret d v M1 (pc + 3) lv st M) : AW l D cy ad A G own cc nL ret d v M1 pc lv (.int y :: .int x :: st) M := fun p e s m args below meth c H locs ls C hP hS hl => lv_icmp_le C.1 C.2.1 hd ht (fun h => kt h p e s m args below meth c H locs ls C hP hS hl) (fun h => kf h p e s m args below meth c H locs ls C hP hS hl)
theorem x_tin {x : Int32} {dflt lo hi off : Int} {offs : Array Int} {len : Nat} (w : Int32) (tgt : Nat) (hd : decode cc pc = .ok (.tableswitch dflt lo hi offs, len)) (hx : x = w) (h1 : ¬ w.toInt < lo) (h2 : ¬ hi < w.toInt) (ho : offs[(w.toInt - lo).toNat]? = some off) (ht : (pc : Int) + off = (tgt : Int)) (k : AW l D cy ad A G own cc nL ret d v M1 tgt lv st M) : AW l D cy ad A G own cc nL ret d v M1 pc lv (.int x :: st) M := fun p e s m args below meth c H locs ls C hP hS hl => lv_tableIn C.1 C.2.1 hd (by rw [hx]; exact h1) (by rw [hx]; exact h2) (by rw [hx]; exact ho) ht (k p e s m args below meth c H locs ls C hP hS hl)
theorem x_tout {x : Int32} {dflt lo hi : Int} {offs : Array Int} {len : Nat} (tgt : Nat) (hd : decode cc pc = .ok (.tableswitch dflt lo hi offs, len)) (h : x.toInt < lo ∨ hi < x.toInt) (ht : (pc : Int) + dflt = (tgt : Int)) (k : AW l D cy ad A G own cc nL ret d v M1 tgt lv st M) : AW l D cy ad A G own cc nL ret d v M1 pc lv (.int x :: st) M := fun p e s m args below meth c H locs ls C hP hS hl => lv_tableOut C.1 C.2.1 hd h ht (k p e s m args below meth c H locs ls C hP hS hl)
theorem x_lin {x : Int32} {dflt off : Int} {ps : Array (Int × Int)} {len : Nat} (w : Int32) (tgt : Nat) (hd : decode cc pc = .ok (.lookupswitch dflt ps, len)) (hp : (ps.toList.zip (ps.toList.drop 1)).all (fun (a, next) => a.1 < next.1) = true) (hx : x = w) (ho : Op.lookupswitch.offset ps.toList dflt w.toInt = off) (ht : (pc : Int) + off = (tgt : Int)) (k : AW l D cy ad A G own cc nL ret d v M1 tgt lv st M) : AW l D cy ad A G own cc nL ret d v M1 pc lv (.int x :: st) M := fun p e s m args below meth c H locs ls C hP hS hl => lv_lookup C.1 C.2.1 hd hp (by rw [hx]; exact ho) ht (k p e s m args below meth c H locs ls C hP hS hl)
theorem x_lout {x : Int32} {dflt off : Int} {ps : Array (Int × Int)} {len : Nat} (tgt : Nat) (hd : decode cc pc = .ok (.lookupswitch dflt ps, len)) (hp : (ps.toList.zip (ps.toList.drop 1)).all (fun (a, next) => a.1 < next.1) = true) (ho : Op.lookupswitch.offset ps.toList dflt x.toInt = off) (ht : (pc : Int) + off = (tgt : Int)) (k : AW l D cy ad A G own cc nL ret d v M1 tgt lv st M) : AW l D cy ad A G own cc nL ret d v M1 pc lv (.int x :: st) M := fun p e s m args below meth c H locs ls C hP hS hl => lv_lookup C.1 C.2.1 hd hp ho ht (k p e s m args below meth c H locs ls C hP hS hl)
theorem x_ldc {idx : Nat} {w : Int32} (hd : decode cc pc = .ok (.ldc idx, 2)) (hw : Cond.constant own idx w ∈ tb_g) (k : AW l D cy ad A G own cc nL ret d v M1 (pc + 2) lv (.int w :: st) M) : AW l D cy ad A G own cc nL ret d v M1 pc lv st M := fun p e s m args below meth c H locs ls C hP hS hl => lv_ldc C.1 C.2.1 C.2.2.2.1 (C.2.2.2.2.1 _ hw) hd (k p e s m args below meth c H locs ls C hP hS hl)
theorem x_ldcw {idx : Nat} {w : Int32} (hd : decode cc pc = .ok (.ldc_w idx, 3)) (hw : Cond.constant own idx w ∈ tb_g) (k : AW l D cy ad A G own cc nL ret d v M1 (pc + 3) lv (.int w :: st) M) : AW l D cy ad A G own cc nL ret d v M1 pc lv st M := fun p e s m args below meth c H locs ls C hP hS hl => lv_ldcw C.1 C.2.1 C.2.2.2.1 (C.2.2.2.2.1 _ hw) hd (k p e s m args below meth c H locs ls C hP hS hl)
theorem x_ldc2 {idx : Nat} {w : Int64} (hd : decode cc pc = .ok (.ldc2_w idx, 3)) (hw : Cond.constantLong own idx w ∈ tb_g) (k : AW l D cy ad A G own cc nL ret d v M1 (pc + 3) lv (.long w :: st) M) : AW l D cy ad A G own cc nL ret d v M1 pc lv st M := fun p e s m args below meth c H locs ls C hP hS hl => lv_ldc2 C.1 C.2.1 C.2.2.2.1 (C.2.2.2.2.1 _ hw) hd (k p e s m args below meth c H locs ls C hP hS hl)
theorem x_iret {x : Int32} (hd : decode cc pc = .ok (.ireturn, 1)) : AW l D cy ad A G own cc nL (some .int) d (some (.int x)) M pc lv [.int x] M := fun p e s m args below meth c H locs ls C hP hS hl => W.iret C.1 C.2.1 C.2.2.2.2.2.2.2.2.2.1 (fun t ht _ => ⟨⟨rfl, by rw [ht]; exact hP⟩, hS.F ht⟩) hS.2.2 hd (hlocks := C.2.2.2.2.2.2.2.2.2.2)
theorem x_zret {x : Int32} (hn : narrow .boolean (.int x) = .int x) (hd : decode cc pc = .ok (.ireturn, 1)) : AW l D cy ad A G own cc nL (some .boolean) d (some (.int x)) M pc lv [.int x] M := fun p e s m args below meth c H locs ls C hP hS hl => W.zret C.1 C.2.1 C.2.2.2.2.2.2.2.2.2.1 hn (fun t ht _ => ⟨⟨rfl, by rw [ht]; exact hP⟩, hS.F ht⟩) hS.2.2 hd (hlocks := C.2.2.2.2.2.2.2.2.2.2)
theorem x_vret (hd : decode cc pc = .ok (.return_, 1)) : AW l D cy ad A G own cc nL none d none M pc lv [] M := fun p e s m args below meth c H locs ls C hP hS hl => W.vret C.1 C.2.1 C.2.2.2.2.2.2.2.2.2.1 (fun t ht _ => ⟨⟨rfl, by rw [ht]; exact hP⟩, hS.F ht⟩) hS.2.2 hd (hlocks := C.2.2.2.2.2.2.2.2.2.2)
theorem x_aret {n : String} {x : Nat} (hd : decode cc pc = .ok (.areturn, 1)) : AW l D cy ad A G own cc nL (some (.object n)) d (some (.ref x)) M pc lv [.ref x] M := fun p e s m args below meth c H locs ls C hP hS hl => W.aret C.1 C.2.1 C.2.2.2.2.2.2.2.2.2.1 (Or.inl ⟨n, rfl⟩) (Or.inr ⟨x, rfl⟩) (fun t ht _ => ⟨⟨rfl, by rw [ht]; exact hP⟩, hS.F ht⟩) hS.2.2 hd (hlocks := C.2.2.2.2.2.2.2.2.2.2)
end AXS
end
section
theorem w_min_s : Cond.static Lib.Math.min.name ∈ tb_g := tb_in (i := 468) (by decide +kernel) (by decide +kernel)
theorem w_min_c : Cond.code Lib.Math.min.name Lib.Math.min.code 2 (some .int) ∈ tb_g := tb_in (i := 469) (by decide +kernel) (by decide +kernel)
theorem w_max_s : Cond.static Lib.Math.max.name ∈ tb_g := tb_in (i := 471) (by decide +kernel) (by decide +kernel)
theorem w_max_c : Cond.code Lib.Math.max.name Lib.Math.max.code 2 (some .int) ∈ tb_g := tb_in (i := 472) (by decide +kernel) (by decide +kernel)
theorem w_abs_s : Cond.static Lib.Math.abs.name ∈ tb_g := tb_in (i := 765) (by decide +kernel) (by decide +kernel)
theorem w_abs_c : Cond.code Lib.Math.abs.name Lib.Math.abs.code 1 (some .int) ∈ tb_g := tb_in (i := 766) (by decide +kernel) (by decide +kernel)
theorem w_math_i : Cond.initialized "java/lang/Math" ∈ tb_g := tb_in (i := 75) (by decide +kernel) (by decide +kernel)
theorem w_copy_n : Cond.native arraycopyName ∈ tb_g := tb_in (i := 663) (by decide +kernel) (by decide +kernel)
theorem w_copy_s : Cond.static arraycopyName ∈ tb_g := tb_in (i := 662) (by decide +kernel) (by decide +kernel)
theorem w_copy_i : Cond.initialized "java/lang/System" ∈ tb_g := tb_in (i := 82) (by decide +kernel) (by decide +kernel)
end
section
/-- a field that class 'own' names by its pool's number idx: field k of class ci of the table -/
def aw_L (own : String) (idx ci k : Nat) : Prop := ∃ (C : String) (T : u_T) (N : Nat) (ty0 : Nat → FieldType), vwCl[ci]? = some (C, T, N) ∧ k < N ∧ Cond.fieldLink own idx C (T k).2.1 (T k).2.2.1 ∈ tb_g ∧ (T k).1 = C ∧ (∀ w ∈ u_ws C T N, w ∈ tb_g) ∧ (∀ k, k < N → parseFieldDescriptor (T k).2.2.1 = some (ty0 k)) ∧ (∀ a, a < N → ∀ b, b < N → a ≠ b → (T a).2.1 ≠ (T b).2.1)
/-- .. and it may be written, with numbers of type ty -/
def aw_LW (ci k : Nat) (ty : FieldType) : Prop := ∀ (C : String) (T : u_T) (N : Nat), vwCl[ci]? = some (C, T, N) → (T k).2.2.2 = false ∧ parseFieldDescriptor (T k).2.2.1 = some ty
theorem aw_mi_set {ad : Nat → Nat} {f : Nat → Int32} {ks : List Nat} {k : Nat} {kd : Nat} {x : Int32} (hk : ks[k]? = some kd) : (ks.mapIdx (aw_fv ad f)).set k (aw_fv ad (upd f k x) k kd) = ks.mapIdx (aw_fv ad (upd f k x)) := by
  apply List.ext_getElem?
  intro j
  have hl : k < (ks.mapIdx (aw_fv ad f)).length := by
    rw [List.length_mapIdx]; exact (List.getElem?_eq_some_iff.mp hk).1
  by_cases hj : j = k
  · subst hj
    rw [List.getElem?_set_self hl, List.getElem?_mapIdx, hk]; rfl
  · rw [List.getElem?_set_ne (Ne.symm hj), List.getElem?_mapIdx, List.getElem?_mapIdx]
    cases ks[j]? with
    | none => rfl
    | some q =>
      have e : upd f k x j = f j := by simp [upd, hj]
      show some (aw_fv ad f j q) = some (aw_fv ad (upd f k x) j q)
      unfold aw_fv
      rw [e]
section AMS
variable {l : Launch} {D : va_G} {cy : Nat → ClassId} {ad : Nat → Nat} {A : Nat → Prop} {G : List aw_D} {own : String} {cc : ByteArray} {nL : Nat} {ret : Option FieldType} {d : Nat} {v : Option Value} {M1 : aw_M} {pc : Nat} {lv : List (Nat × Value)} {st : List Value} {M : aw_M}
theorem x_get {idx ci f o kd : Nat} {ks : List Nat} {w : Value} (hd : decode cc pc = .ok (.getfield idx, 3)) (hw : aw_L own idx ci f) (hG : G[o]? = some (0, ci, ks)) (hk : ks[f]? = some kd) (hv : aw_fv ad (M o) f kd = w) (k : AW l D cy ad A G own cc nL ret d v M1 (pc + 3) lv (w :: st) M) : AW l D cy ad A G own cc nL ret d v M1 pc lv (.ref (ad o) :: st) M := by
  obtain ⟨C0, T, N, ty0, h1, h2, h3, h4, h5, -, -⟩ := hw
  intro p e s m args below meth c H locs ls C hP hS hl
  refine va_get C.1 C.2.1 C.2.2.2.2.1 h5 C.2.2.2.1 C.2.2.2.2.2.1 hP o (fs := ks.mapIdx (aw_fv ad (M o))) (aw_W_at hG) h1 f h2 (C.2.2.2.2.1 _ h3) (fun x hx => by rw [h4] at hx; exact hx) (v := w) ?_ hd (k p e s m args below meth c H locs ls C hP hS hl)
  rw [List.getElem?_mapIdx, hk]
  exact congrArg some hv
theorem x_put {idx ci f o kd : Nat} {ks : List Nat} {x : Int32} {ty : FieldType} (hd : decode cc pc = .ok (.putfield idx, 3)) (hw : aw_L own idx ci f) (hWr : aw_LW ci f ty) (hG : G[o]? = some (0, ci, ks)) (hk : ks[f]? = some kd) {w : Value} (hv : aw_fv ad (upd (M o) f x) f kd = w) (hn : narrow ty w = w) (hfit : fits ty w = true) (k : AW l D cy ad A G own cc nL ret d v M1 (pc + 3) lv st (aw_u M o f x)) : AW l D cy ad A G own cc nL ret d v M1 pc lv (w :: .ref (ad o) :: st) M := by
  obtain ⟨C0, T, N, ty0, h1, h2, h3, h4, h5, h6, h7⟩ := hw
  obtain ⟨g1, g2⟩ := hWr C0 T N h1
  intro p e s m args below meth c H locs ls C hP hS hl
  refine va_put C.1 C.2.1 C.2.2.2.2.1 h5 ty0 h6 h7 C.2.2.2.1 C.2.2.2.2.2.1 hP (aw_D_any C.2.2.2.2.2.2.1) hS o (fs := ks.mapIdx (aw_fv ad (M o))) (aw_W_at hG) h1 f h2 (C.2.2.2.2.1 _ h3) (fun x hx => by rw [h4] at hx; exact hx) g1 g2 hn hfit (by rw [List.length_mapIdx]; exact (List.getElem?_eq_some_iff.mp hk).1) hd (fun H1 locs1 hP1 hD1 hS1 => ?_)
  have e1 : (aw_W cy ad G M).set o (ad o, .inr (ci, (ks.mapIdx (aw_fv ad (M o))).set f w)) = aw_W cy ad G (aw_u M o f x) := by
    rw [← hv, aw_mi_set hk]
    exact aw_W_set hG
  rw [e1] at hP1
  exact k p e s m args below meth c H1 locs1 ls C hP1 hS1 hl
def aw_in (i : Int32) (n : Nat) : Prop := i < 0 ∨ n ≤ i.toNatClampNeg
theorem aw_lt {i : Int32} {n : Nat} (h : ¬ aw_in i n) : i.toNatClampNeg < n := Nat.not_le.mp fun q => h (Or.inr q)
theorem x_iald {o n : Nat} {ks : List Nat} {i : Int32} (hd : decode cc pc = .ok (.iaload, 1)) (hG : G[o]? = some (1, n, ks)) (hin : ¬ aw_in i n) (k : AW l D cy ad A G own cc nL ret d v M1 (pc + 1) lv (.int (M o i.toNatClampNeg) :: st) M) : AW l D cy ad A G own cc nL ret d v M1 pc lv (.int i :: .ref (ad o) :: st) M := fun p e s m args below meth c H locs ls C hP hS hl => va_iald C.1 C.2.1 C.2.2.2.2.2.1 hP o 0 (aw_W_at hG) rfl hin hd (k p e s m args below meth c H locs ls C hP hS hl)
theorem x_bald {o n : Nat} {ks : List Nat} {i : Int32} (hd : decode cc pc = .ok (.baload, 1)) (hG : G[o]? = some (2, n, ks)) (hin : ¬ aw_in i n) (k : AW l D cy ad A G own cc nL ret d v M1 (pc + 1) lv (.int (M o i.toNatClampNeg) :: st) M) : AW l D cy ad A G own cc nL ret d v M1 pc lv (.int i :: .ref (ad o) :: st) M := fun p e s m args below meth c H locs ls C hP hS hl => va_bald C.1 C.2.1 C.2.2.2.2.2.1 hP o 1 (aw_W_at hG) rfl hin hd (k p e s m args below meth c H locs ls C hP hS hl)
theorem x_iast {o n : Nat} {ks : List Nat} {i x : Int32} (hd : decode cc pc = .ok (.iastore, 1)) (hG : G[o]? = some (1, n, ks)) (hin : ¬ aw_in i n) (k : AW l D cy ad A G own cc nL ret d v M1 (pc + 1) lv st (aw_u M o i.toNatClampNeg x)) : AW l D cy ad A G own cc nL ret d v M1 pc lv (.int x :: .int i :: .ref (ad o) :: st) M := by
  intro p e s m args below meth c H locs ls C hP hS hl
  refine va_iast C.1 C.2.1 C.2.2.2.2.2.1 hP (aw_D_any C.2.2.2.2.2.2.1) hS o 0 (aw_W_at hG) rfl hin hd (fun H1 locs1 hP1 hD1 hS1 => ?_)
  have e1 : (aw_W cy ad G M).set o (ad o, .inl (cy 0, n, .inl (upd (M o) i.toNatClampNeg x))) = aw_W cy ad G (aw_u M o i.toNatClampNeg x) := aw_W_set hG
  exact k p e s m args below meth c H1 locs1 ls C (e1 ▸ hP1) hS1 hl
theorem x_bast {o n : Nat} {ks : List Nat} {i x : Int32} (hd : decode cc pc = .ok (.bastore, 1)) (hG : G[o]? = some (2, n, ks)) (hin : ¬ aw_in i n) (k : AW l D cy ad A G own cc nL ret d v M1 (pc + 1) lv st (aw_u M o i.toNatClampNeg x.toInt8.toInt32)) : AW l D cy ad A G own cc nL ret d v M1 pc lv (.int x :: .int i :: .ref (ad o) :: st) M := by
  intro p e s m args below meth c H locs ls C hP hS hl
  refine va_bast C.1 C.2.1 C.2.2.2.2.2.1 hP (aw_D_any C.2.2.2.2.2.2.1) hS o 1 (aw_W_at hG) rfl hin hd (fun H1 locs1 hP1 hD1 hS1 => ?_)
  rw [vp_nar_byte] at hP1
  have e1 : (aw_W cy ad G M).set o (ad o, .inl (cy 1, n, .inl (upd (M o) i.toNatClampNeg x.toInt8.toInt32))) = aw_W cy ad G (aw_u M o i.toNatClampNeg x.toInt8.toInt32) := aw_W_set hG
  exact k p e s m args below meth c H1 locs1 ls C (e1 ▸ hP1) hS1 hl
theorem x_aald {o n t r : Nat} {ks : List Nat} {i : Int32} {C0 : String} (hd : decode cc pc = .ok (.aaload, 1)) (hG : G[o]? = some (t + 3, n, ks)) (ht : ∀ cy : Nat → ClassId, (aw_tys cy)[t + 2]? = some (cy (t + 2), .object C0)) (hin : ¬ aw_in i n) (hr : ks[i.toNatClampNeg]? = some r) (k : AW l D cy ad A G own cc nL ret d v M1 (pc + 1) lv (.ref (ad r) :: st) M) : AW l D cy ad A G own cc nL ret d v M1 pc lv (.int i :: .ref (ad o) :: st) M := by
  intro p e s m args below meth c H locs ls C hP hS hl
  refine va_aldq C.1 C.2.1 C.2.2.2.2.2.1 hP o (t + 2) (aw_W_at hG) (ht cy) hin hd ?_
  rw [hr]
  exact k p e s m args below meth c H locs ls C hP hS hl
theorem x_alen {o n : Nat} {ks : List Nat} {w : Int32} (hd : decode cc pc = .ok (.arraylength, 1)) (hG : G[o]? = some (1, n, ks)) (hv : Int32.ofNat n = w) (k : AW l D cy ad A G own cc nL ret d v M1 (pc + 1) lv (.int w :: st) M) : AW l D cy ad A G own cc nL ret d v M1 pc lv (.ref (ad o) :: st) M := fun p e s m args below meth c H locs ls C hP hS hl => va_alen C.1 C.2.1 C.2.2.2.2.2.1 hP o 0 (aw_W_at hG) rfl hv hd (k p e s m args below meth c H locs ls C hP hS hl)
theorem x_blen {o n : Nat} {ks : List Nat} {w : Int32} (hd : decode cc pc = .ok (.arraylength, 1)) (hG : G[o]? = some (2, n, ks)) (hv : Int32.ofNat n = w) (k : AW l D cy ad A G own cc nL ret d v M1 (pc + 1) lv (.int w :: st) M) : AW l D cy ad A G own cc nL ret d v M1 pc lv (.ref (ad o) :: st) M := fun p e s m args below meth c H locs ls C hP hS hl => va_alen C.1 C.2.1 C.2.2.2.2.2.1 hP o 1 (aw_W_at hG) rfl hv hd (k p e s m args below meth c H locs ls C hP hS hl)
theorem x_rlen {o n t : Nat} {ks : List Nat} {w : Int32} {C0 : String} (hd : decode cc pc = .ok (.arraylength, 1)) (hG : G[o]? = some (t + 3, n, ks)) (ht : ∀ cy : Nat → ClassId, (aw_tys cy)[t + 2]? = some (cy (t + 2), .object C0)) (hv : Int32.ofNat n = w) (k : AW l D cy ad A G own cc nL ret d v M1 (pc + 1) lv (.int w :: st) M) : AW l D cy ad A G own cc nL ret d v M1 pc lv (.ref (ad o) :: st) M := fun p e s m args below meth c H locs ls C hP hS hl => va_alen C.1 C.2.1 C.2.2.2.2.2.1 hP o (t + 2) (aw_W_at hG) (ht cy) hv hd (k p e s m args below meth c H locs ls C hP hS hl)
theorem x_gs0 {idx : Nat} (hd : decode cc pc = .ok (.getstatic idx, 3)) (hw : Cond.fieldLink own idx "LoopsBelow" "DEED_SECONDS" "[I" ∈ tb_g) (k : AW l D cy ad A G own cc nL ret d v M1 (pc + 3) lv (.ref (ad 910) :: st) M) : AW l D cy ad A G own cc nL ret d v M1 pc lv st M := fun p e s m args below meth c H locs ls C hP hS hl => va_gets C.1 C.2.1 C.2.2.2.2.2.2.2.1.1.1 hS C.2.2.2.1 (C.2.2.2.2.1 _ hw) (fun _ h => h) hd (k p e s m args below meth c H locs ls C hP hS hl)
theorem x_gs0N {idx : Nat} {host : String} (hd : decode cc pc = .ok (.getstatic idx, 3)) (hw : (own, idx, "LoopsBelow", "DEED_SECONDS", "[I", host) ∈ tb_nf) (k : AW l D cy ad A G own cc nL ret d v M1 (pc + 3) lv (.ref (ad 910) :: st) M) : AW l D cy ad A G own cc nL ret d v M1 pc lv st M := fun p e s m args below meth c H locs ls C hP hS hl => va_getsN C.1 C.2.1 C.2.2.2.2.2.2.2.1.1.1 hS C.2.2.2.1 (va_Nw.use rfl (C.2.2.2.2.2.2.2.2.1.2.2 _ hw)) (fun _ h => h) hd (k p e s m args below meth c H locs ls C hP hS hl)
theorem x_gs1N {idx : Nat} {host : String} (hd : decode cc pc = .ok (.getstatic idx, 3)) (hw : (own, idx, "LoopsBelow", "BODIES", "[I", host) ∈ tb_nf) (k : AW l D cy ad A G own cc nL ret d v M1 (pc + 3) lv (.ref (ad 911) :: st) M) : AW l D cy ad A G own cc nL ret d v M1 pc lv st M := fun p e s m args below meth c H locs ls C hP hS hl => va_getsN C.1 C.2.1 C.2.2.2.2.2.2.2.1.2.1.1 hS C.2.2.2.1 (va_Nw.use rfl (C.2.2.2.2.2.2.2.2.1.2.2 _ hw)) (fun _ h => h) hd (k p e s m args below meth c H locs ls C hP hS hl)
theorem x_ti0 {i : Int32} (hd : decode cc pc = .ok (.iaload, 1)) (hin : ¬ aw_in i 7) (k : AW l D cy ad A G own cc nL ret d v M1 (pc + 1) lv (.int (aw_t0.getD i.toNatClampNeg 0) :: st) M) : AW l D cy ad A G own cc nL ret d v M1 pc lv (.int i :: .ref (ad 910) :: st) M := fun p e s m args below meth c H locs ls C hP hS hl => va_ti C.1 C.2.1 C.2.2.2.2.2.2.2.1.1.2 hS hin rfl hd (k p e s m args below meth c H locs ls C hP hS hl)
theorem x_ti1 {i : Int32} (hd : decode cc pc = .ok (.iaload, 1)) (hin : ¬ aw_in i 28) (k : AW l D cy ad A G own cc nL ret d v M1 (pc + 1) lv (.int (aw_t1.getD i.toNatClampNeg 0) :: st) M) : AW l D cy ad A G own cc nL ret d v M1 pc lv (.int i :: .ref (ad 911) :: st) M := fun p e s m args below meth c H locs ls C hP hS hl => va_ti C.1 C.2.1 C.2.2.2.2.2.2.2.1.2.1.2 hS hin rfl hd (k p e s m args below meth c H locs ls C hP hS hl)
theorem x_lds0 (ho : own = "LoopsBelow") (hd : decode cc pc = .ok (.ldc 164, 2)) (k : AW l D cy ad A G own cc nL ret d v M1 (pc + 2) lv (.ref (ad 900) :: st) M) : AW l D cy ad A G own cc nL ret d v M1 pc lv st M := fun p e s m args below meth c H locs ls C hP hS hl => va_ldcS C.1 C.2.1 C.2.2.2.1 (ho ▸ C.2.2.2.2.2.2.2.2.1.1.1) hd (k p e s m args below meth c H locs ls C hP hS hl)
theorem x_lds1 (ho : own = "LoopsBelow") (hd : decode cc pc = .ok (.ldc 166, 2)) (k : AW l D cy ad A G own cc nL ret d v M1 (pc + 2) lv (.ref (ad 901) :: st) M) : AW l D cy ad A G own cc nL ret d v M1 pc lv st M := fun p e s m args below meth c H locs ls C hP hS hl => va_ldcS C.1 C.2.1 C.2.2.2.1 (ho ▸ C.2.2.2.2.2.2.2.2.1.1.2) hd (k p e s m args below meth c H locs ls C hP hS hl)
def aw_min (x y : Int32) : Int32 := if y < x then y else x
theorem x_min {idx : Nat} {x y : Int32} (hd : decode cc pc = .ok (.invokestatic idx, 3)) (hw : Cond.methodLink own idx Lib.Math.min.name ∈ tb_g) (hdd : 1 ≤ d) (hr : (st.map fun v => v.category).sum ≤ 8) (k : AW l D cy ad A G own cc nL ret d v M1 (pc + 3) lv (.int (aw_min x y) :: st) M) : AW l D cy ad A G own cc nL ret d v M1 pc lv (.int y :: .int x :: st) M := fun p e s m args below meth c H locs ls C hP hS hl => va_mmin C.1 C.2.1 (C.2.2.1.trans hl.1.symm) C.2.2.2.1 (C.2.2.2.2.1 _ hw) (C.2.2.2.2.1 _ w_min_s) (C.2.2.2.2.1 _ w_math_i) (C.2.2.2.2.1 _ w_min_c) hdd (by show _ ≤ 64 * d; omega) (Nat.zero_le _) (Nat.zero_le _) hd (k p e s m args below meth c H locs ls C hP hS hl)
def aw_max (x y : Int32) : Int32 := if x < y then y else x
theorem x_max {idx : Nat} {x y : Int32} (hd : decode cc pc = .ok (.invokestatic idx, 3)) (hw : Cond.methodLink own idx Lib.Math.max.name ∈ tb_g) (hdd : 1 ≤ d) (hr : (st.map fun v => v.category).sum ≤ 8) (k : AW l D cy ad A G own cc nL ret d v M1 (pc + 3) lv (.int (aw_max x y) :: st) M) : AW l D cy ad A G own cc nL ret d v M1 pc lv (.int y :: .int x :: st) M := fun p e s m args below meth c H locs ls C hP hS hl => va_mmax C.1 C.2.1 (C.2.2.1.trans hl.1.symm) C.2.2.2.1 (C.2.2.2.2.1 _ hw) (C.2.2.2.2.1 _ w_max_s) (C.2.2.2.2.1 _ w_math_i) (C.2.2.2.2.1 _ w_max_c) hdd (by show _ ≤ 64 * d; omega) (Nat.zero_le _) (Nat.zero_le _) hd (k p e s m args below meth c H locs ls C hP hS hl)
def aw_abs (x : Int32) : Int32 := if 0 ≤ x then x else 0 - x
theorem x_abs {idx : Nat} {x : Int32} (hd : decode cc pc = .ok (.invokestatic idx, 3)) (hw : Cond.methodLink own idx Lib.Math.abs.name ∈ tb_g) (hdd : 1 ≤ d) (hr : (st.map fun v => v.category).sum ≤ 8) (k : AW l D cy ad A G own cc nL ret d v M1 (pc + 3) lv (.int (aw_abs x ) :: st) M) : AW l D cy ad A G own cc nL ret d v M1 pc lv (.int x :: st) M := fun p e s m args below meth c H locs ls C hP hS hl => va_mabs C.1 C.2.1 (C.2.2.1.trans hl.1.symm) C.2.2.2.1 (C.2.2.2.2.1 _ hw) (C.2.2.2.2.1 _ w_abs_s) (C.2.2.2.2.1 _ w_math_i) (C.2.2.2.2.1 _ w_abs_c) hdd (by show _ ≤ 64 * d; omega) (Nat.zero_le _) (Nat.zero_le _) hd (k p e s m args below meth c H locs ls C hP hS hl)
theorem x_copyi {idx o0 o1 n0 n1 : Nat} {ks0 ks1 : List Nat} {sp dp n : Int32} (hd : decode cc pc = .ok (.invokestatic idx, 3)) (hw : Cond.methodLink own idx arraycopyName ∈ tb_g) (hdd : 1 ≤ d) (hr : (st.map fun v => v.category).sum ≤ 8) (hG0 : G[o0]? = some (1, n0, ks0)) (hG1 : G[o1]? = some (1, n1, ks1)) (h1 : ¬ sp < 0) (h2 : ¬ dp < 0) (h3 : ¬ n < 0) (h4 : sp.toNatClampNeg + n.toNatClampNeg ≤ n0) (h5 : dp.toNatClampNeg + n.toNatClampNeg ≤ n1) (k : AW l D cy ad A G own cc nL ret d v M1 (pc + 3) lv st (aw_un M o1 (va_cpy (M o0) (M o1) sp.toNatClampNeg dp.toNatClampNeg n.toNatClampNeg))) : AW l D cy ad A G own cc nL ret d v M1 pc lv (.int n :: .int dp :: .ref (ad o1) :: .int sp :: .ref (ad o0) :: st) M := by
  intro p e s m args below meth c H locs ls C hP hS hl
  have hrm : (st.map fun v => v.category).sum + (nativeFrameWords "java/lang/System" "arraycopy" 5 + 11) ≤ (aw_R d).locals := by
    have e1 : nativeFrameWords "java/lang/System" "arraycopy" 5 ≤ 40 := by decide +kernel
    show _ ≤ 64 * d
    omega
  refine va_copyi C.1 C.2.1 (C.2.2.1.trans hl.1.symm) C.2.2.2.1 (C.2.2.2.2.1 _ hw) (C.2.2.2.2.1 _ w_copy_n) (C.2.2.2.2.1 _ w_copy_s) (C.2.2.2.2.1 _ w_copy_i) C.2.2.2.2.2.1 hP (aw_D_any C.2.2.2.2.2.2.1) hS o0 o1 0 0 (ty := .int) (aw_W_at hG0) (aw_W_at hG1) rfl rfl rfl h1 h2 h3 h4 h5 (fun _ _ => rfl) hdd hrm hd (fun H1 locs1 hP1 hD1 hS1 => ?_)
  have e1 : (aw_W cy ad G M).set o1 (ad o1, .inl (cy 0, n1, .inl (va_cpy (M o0) (M o1) sp.toNatClampNeg dp.toNatClampNeg n.toNatClampNeg))) = aw_W cy ad G (aw_un M o1 (va_cpy (M o0) (M o1) sp.toNatClampNeg dp.toNatClampNeg n.toNatClampNeg)) := aw_W_set hG1
  exact k p e s m args below meth c H1 locs1 ls C (e1 ▸ hP1) hS1 hl
theorem x_copyb {idx o0 o1 n0 n1 : Nat} {ks0 ks1 : List Nat} {sp dp n : Int32} (hd : decode cc pc = .ok (.invokestatic idx, 3)) (hw : Cond.methodLink own idx arraycopyName ∈ tb_g) (hdd : 1 ≤ d) (hr : (st.map fun v => v.category).sum ≤ 8) (hG0 : G[o0]? = some (2, n0, ks0)) (hG1 : G[o1]? = some (2, n1, ks1)) (h1 : ¬ sp < 0) (h2 : ¬ dp < 0) (h3 : ¬ n < 0) (h4 : sp.toNatClampNeg + n.toNatClampNeg ≤ n0) (h5 : dp.toNatClampNeg + n.toNatClampNeg ≤ n1) (hfit : ∀ j, j < n.toNatClampNeg → fits .byte (.int (M o0 (sp.toNatClampNeg + j))) = true) (k : AW l D cy ad A G own cc nL ret d v M1 (pc + 3) lv st (aw_un M o1 (va_cpy (M o0) (M o1) sp.toNatClampNeg dp.toNatClampNeg n.toNatClampNeg))) : AW l D cy ad A G own cc nL ret d v M1 pc lv (.int n :: .int dp :: .ref (ad o1) :: .int sp :: .ref (ad o0) :: st) M := by
  intro p e s m args below meth c H locs ls C hP hS hl
  have hrm : (st.map fun v => v.category).sum + (nativeFrameWords "java/lang/System" "arraycopy" 5 + 11) ≤ (aw_R d).locals := by
    have e1 : nativeFrameWords "java/lang/System" "arraycopy" 5 ≤ 40 := by decide +kernel
    show _ ≤ 64 * d
    omega
  refine va_copyi C.1 C.2.1 (C.2.2.1.trans hl.1.symm) C.2.2.2.1 (C.2.2.2.2.1 _ hw) (C.2.2.2.2.1 _ w_copy_n) (C.2.2.2.2.1 _ w_copy_s) (C.2.2.2.2.1 _ w_copy_i) C.2.2.2.2.2.1 hP (aw_D_any C.2.2.2.2.2.2.1) hS o0 o1 1 1 (ty := .byte) (aw_W_at hG0) (aw_W_at hG1) rfl rfl rfl h1 h2 h3 h4 h5 hfit hdd hrm hd (fun H1 locs1 hP1 hD1 hS1 => ?_)
  have e1 : (aw_W cy ad G M).set o1 (ad o1, .inl (cy 1, n1, .inl (va_cpy (M o0) (M o1) sp.toNatClampNeg dp.toNatClampNeg n.toNatClampNeg))) = aw_W cy ad G (aw_un M o1 (va_cpy (M o0) (M o1) sp.toNatClampNeg dp.toNatClampNeg n.toNatClampNeg)) := aw_W_set hG1
  exact k p e s m args below meth c H1 locs1 ls C (e1 ▸ hP1) hS1 hl
/-- the words of a call: link, code and what the descriptor says -/
def aw_V (own : String) (idx : Nat) (C : String) (y : MethodName) (bytes : ByteArray) (maxL : Nat) (ret : Option FieldType) (n : Nat) : Prop :=
  Cond.methodLink own idx y ∈ tb_g ∧ Cond.instanceMethod y ∈ tb_g ∧ Cond.selects C y y ∈ tb_g ∧ Cond.initialized C ∈ tb_g ∧ Cond.code y bytes maxL ret ∈ tb_g ∧ (y.cls = C ∧ y.cls ≠ "java/lang/invoke/MethodHandle" ∧ y.cls ≠ "java/lang/invoke/VarHandle" ∧ (parseMethodDescriptor y.desc).map (fun d => d.parameters.length) = some n) ∧ maxL ≤ 40
def aw_S (own : String) (idx : Nat) (y : MethodName) (bytes : ByteArray) (maxL : Nat) (ret : Option FieldType) (n : Nat) : Prop :=
  Cond.methodLink own idx y ∈ tb_g ∧ Cond.static y ∈ tb_g ∧ Cond.initialized y.cls ∈ tb_g ∧ Cond.code y bytes maxL ret ∈ tb_g ∧ (y.cls ≠ "java/lang/invoke/MethodHandle" ∧ y.cls ≠ "java/lang/invoke/VarHandle" ∧ (parseMethodDescriptor y.desc).map (fun d => d.parameters.length) = some n) ∧ maxL ≤ 40
theorem aw_gd {y : MethodName} {bytes : ByteArray} {maxL : Nat} {ret : Option FieldType} (h : Cond.code y bytes maxL ret ∈ tb_g) : GoodIn tb_g (aw_ws y bytes maxL ret) := by
  intro w hw
  rcases List.mem_cons.mp hw with rfl | hw
  · exact tb_good _ h
  · exact tb_good _ hw
theorem aw_gc {ws1 : List Cond} {y : MethodName} {bytes : ByteArray} {maxL : Nat} {ret : Option FieldType} (h0 : ∀ w ∈ ws1, w ∈ tb_g) (h : Cond.code y bytes maxL ret ∈ tb_g) : GoodIn tb_g (ws1 ++ aw_ws y bytes maxL ret) := by
  intro w hw
  rcases List.mem_append.mp hw with hw | hw
  · exact tb_good _ (h0 w hw)
  · exact aw_gd h w hw
theorem aw_rm {d d' maxL : Nat} (h : d' + 1 ≤ d) (hm : maxL ≤ 40) : (aw_R d').frames + 1 ≤ (aw_R d).frames ∧ 8 + (maxL + 11) + (aw_R d').locals ≤ (aw_R d).locals := ⟨h, by show 8 + (maxL + 11) + 64 * d' ≤ 64 * d; omega⟩
theorem x_callV {idx ci o n d' maxL : Nat} {ks : List Nat} {C0 : String} {T0 : u_T} {N0 : Nat} {y : MethodName} {bytes : ByteArray} {ret' : Option FieldType} {As rest st' : List Value} {w : Option Value} {M2 : aw_M} (hd : decode cc pc = .ok (.invokevirtual idx, 3)) (hw : aw_V own idx C0 y bytes maxL ret' n) (hdd : d' + 1 ≤ d) (hG : G[o]? = some (0, ci, ks)) (hci : vwCl[ci]? = some (C0, T0, N0)) (hn : As.length = n) (hst : st = As.reverse ++ .ref (ad o) :: rest) (hr : (rest.map fun v => v.category).sum ≤ 8) (hM : AX l D cy ad A G y bytes maxL ret' d' (.ref (ad o) :: As) M w M2) (hk : w.toList ++ rest = st') (k : AW l D cy ad A G own cc nL ret d v M1 (pc + 3) lv st' M2) : AW l D cy ad A G own cc nL ret d v M1 pc lv st M := by
  subst hst; subst hk
  obtain ⟨h1, h2, h3, h4, h5, h6, h7⟩ := hw
  intro p e s m args below meth c H locs ls C hP hS hl
  refine aw_go (va_runV (As := As) (rest := rest) (ws := aw_ws y bytes maxL ret') (rm := aw_R d') ⟨C.1, C.2.1, C.2.2.1, C.2.2.2.1, C.2.2.2.2.1⟩ hM (cwV n C.2.2.2.2.1 (aw_gc (fun w hw => by rcases (by simpa using hw : w = _ ∨ w = _ ∨ w = _ ∨ w = _) with rfl | rfl | rfl | rfl <;> assumption) h5) rfl rfl rfl h6 (aw_rm hdd h7)) ⟨aw_blind, va_recv C.2.2.2.2.2.1 hP hci (aw_W_at hG), aw_pre C.2.2.2.2.2.1 C.2.2.2.2.2.2.1 C.2.2.2.2.2.2.2.1 C.2.2.2.2.2.2.2.2.1.1 C.2.2.2.2.2.2.2.2.1.2 hP hS⟩ rfl hn hl.1 rfl (lv_room hr) hd ⟨Nat.le_refl _, Nat.le_refl _⟩) hS (fun H1 locs1 hP1 hS1 => k p e s m args below meth c H1 locs1 ls C hP1 hS1 hl)
theorem x_callS {idx n d' maxL : Nat} {y : MethodName} {bytes : ByteArray} {ret' : Option FieldType} {As rest st' : List Value} {w : Option Value} {M2 : aw_M} (hd : decode cc pc = .ok (.invokestatic idx, 3)) (hw : aw_S own idx y bytes maxL ret' n) (hdd : d' + 1 ≤ d) (hn : As.length = n) (hst : st = As.reverse ++ rest) (hr : (rest.map fun v => v.category).sum ≤ 8) (hM : AX l D cy ad A G y bytes maxL ret' d' As M w M2) (hk : w.toList ++ rest = st') (k : AW l D cy ad A G own cc nL ret d v M1 (pc + 3) lv st' M2) : AW l D cy ad A G own cc nL ret d v M1 pc lv st M := by
  subst hst; subst hk
  obtain ⟨h1, h2, h3, h5, h6, h7⟩ := hw
  intro p e s m args below meth c H locs ls C hP hS hl
  refine aw_go (va_runS (As := As) (rest := rest) (ws := aw_ws y bytes maxL ret') (rm := aw_R d') ⟨C.1, C.2.1, C.2.2.1, C.2.2.2.1, C.2.2.2.2.1⟩ hM (va_cwS n C.2.2.2.2.1 (aw_gc (fun w hw => by rcases (by simpa using hw : w = _ ∨ w = _ ∨ w = _) with rfl | rfl | rfl <;> assumption) h5) rfl rfl rfl h6 (aw_rm hdd h7)) ⟨aw_blind, aw_pre C.2.2.2.2.2.1 C.2.2.2.2.2.2.1 C.2.2.2.2.2.2.2.1 C.2.2.2.2.2.2.2.2.1.1 C.2.2.2.2.2.2.2.2.1.2 hP hS⟩ rfl hn hl.1 rfl (lv_room hr) hd ⟨Nat.le_refl _, Nat.le_refl _⟩) hS (fun H1 locs1 hP1 hS1 => k p e s m args below meth c H1 locs1 ls C hP1 hS1 hl)
theorem x_callSN {idx n d' maxL : Nat} {host : String} {y : MethodName} {bytes : ByteArray} {ret' : Option FieldType} {As rest st' : List Value} {w : Option Value} {M2 : aw_M} (hd : decode cc pc = .ok (.invokestatic idx, 3)) (hnm : (own, idx, y, host) ∈ tb_nm) (hw : Cond.static y ∈ tb_g ∧ Cond.initialized y.cls ∈ tb_g ∧ Cond.code y bytes maxL ret' ∈ tb_g ∧ (y.cls ≠ "java/lang/invoke/MethodHandle" ∧ y.cls ≠ "java/lang/invoke/VarHandle" ∧ (parseMethodDescriptor y.desc).map (fun d => d.parameters.length) = some n) ∧ maxL ≤ 40) (hdd : d' + 1 ≤ d) (hn : As.length = n) (hst : st = As.reverse ++ rest) (hr : (rest.map fun v => v.category).sum ≤ 8) (hM : AX l D cy ad A G y bytes maxL ret' d' As M w M2) (hk : w.toList ++ rest = st') (k : AW l D cy ad A G own cc nL ret d v M1 (pc + 3) lv st' M2) : AW l D cy ad A G own cc nL ret d v M1 pc lv st M := by
  subst hst; subst hk
  obtain ⟨h2, h3, h5, h6, h7⟩ := hw
  intro p e s m args below meth c H locs ls C hP hS hl
  refine aw_go (va_runSN (As := As) (rest := rest) (ws := aw_ws y bytes maxL ret') (rm := aw_R d') ⟨C.1, C.2.1, C.2.2.1, C.2.2.2.1, C.2.2.2.2.1⟩ hM ⟨va_cnB n C.2.2.2.2.1 (aw_gd h5) rfl rfl rfl (C.2.2.2.2.2.2.2.2.1.2.1 _ hnm) (C.2.2.2.2.1 _ h3) h6 (aw_rm hdd h7), C.2.2.2.2.1 _ h2, trivial⟩ ⟨aw_blind, aw_pre C.2.2.2.2.2.1 C.2.2.2.2.2.2.1 C.2.2.2.2.2.2.2.1 C.2.2.2.2.2.2.2.2.1.1 C.2.2.2.2.2.2.2.2.1.2 hP hS⟩ rfl hn hl.1 rfl (lv_room hr) hd ⟨Nat.le_refl _, Nat.le_refl _⟩) hS (fun H1 locs1 hP1 hS1 => k p e s m args below meth c H1 locs1 ls C hP1 hS1 hl)
theorem x_callVN {idx ci o n d' maxL : Nat} {host : String} {ks : List Nat} {C0 : String} {T0 : u_T} {N0 : Nat} {y : MethodName} {bytes : ByteArray} {ret' : Option FieldType} {As rest st' : List Value} {w : Option Value} {M2 : aw_M} (hd : decode cc pc = .ok (.invokevirtual idx, 3)) (hnm : (own, idx, y, host) ∈ tb_nm) (hw : Cond.instanceMethod y ∈ tb_g ∧ Cond.selects C0 y y ∈ tb_g ∧ Cond.initialized y.cls ∈ tb_g ∧ Cond.code y bytes maxL ret' ∈ tb_g ∧ (y.cls ≠ "java/lang/invoke/MethodHandle" ∧ y.cls ≠ "java/lang/invoke/VarHandle" ∧ (parseMethodDescriptor y.desc).map (fun d => d.parameters.length) = some n) ∧ maxL ≤ 40) (hdd : d' + 1 ≤ d) (hG : G[o]? = some (0, ci, ks)) (hci : vwCl[ci]? = some (C0, T0, N0)) (hn : As.length = n) (hst : st = As.reverse ++ .ref (ad o) :: rest) (hr : (rest.map fun v => v.category).sum ≤ 8) (hM : AX l D cy ad A G y bytes maxL ret' d' (.ref (ad o) :: As) M w M2) (hk : w.toList ++ rest = st') (k : AW l D cy ad A G own cc nL ret d v M1 (pc + 3) lv st' M2) : AW l D cy ad A G own cc nL ret d v M1 pc lv st M := by
  subst hst; subst hk
  obtain ⟨h2, h2b, h3, h5, h6, h7⟩ := hw
  intro p e s m args below meth c H locs ls C hP hS hl
  refine aw_go (va_runVN (C := C0) (As := As) (rest := rest) (ws := aw_ws y bytes maxL ret') (rm := aw_R d') ⟨C.1, C.2.1, C.2.2.1, C.2.2.2.1, C.2.2.2.2.1⟩ hM ⟨va_cnB n C.2.2.2.2.1 (aw_gd h5) rfl rfl rfl (C.2.2.2.2.2.2.2.2.1.2.1 _ hnm) (C.2.2.2.2.1 _ h3) h6 (aw_rm hdd h7), C.2.2.2.2.1 _ h2, C.2.2.2.2.1 _ h2b⟩ ⟨aw_blind, va_recv C.2.2.2.2.2.1 hP hci (aw_W_at hG), aw_pre C.2.2.2.2.2.1 C.2.2.2.2.2.2.1 C.2.2.2.2.2.2.2.1 C.2.2.2.2.2.2.2.2.1.1 C.2.2.2.2.2.2.2.2.1.2 hP hS⟩ rfl hn hl.1 rfl (lv_room hr) hd ⟨Nat.le_refl _, Nat.le_refl _⟩) hS (fun H1 locs1 hP1 hS1 => k p e s m args below meth c H1 locs1 ls C hP1 hS1 hl)
end AMS
end
