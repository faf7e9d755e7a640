-- ===== PART A: goes FIRST, ahead of the names: the tables' words, and 'selects' of the private methods out of them =====
/-- a private method of a class that the tables say can be made, by its rows of tables_1 -/
def lw_okq (q : MethodName × Nat) : Prop := (q.1.cls ≠ "java/lang/invoke/MethodHandle" ∧ q.1.cls ≠ "java/lang/invoke/VarHandle") ∧ Cond.instantiable q.1.cls q.2 ∈ tables_1 ∧ Cond.privateMethod q.1 ∈ tables_1 ∧ Cond.instanceMethod q.1 ∈ tables_1
theorem lw_p0 : lw_okq (⟨"TalkBridge$Tape", "mark", "(I)I"⟩, 5) := ⟨⟨by decide +kernel, by decide +kernel⟩, List.mem_of_getElem? (i := 36) (by decide +kernel), List.mem_of_getElem? (i := 440) (by decide +kernel), List.mem_of_getElem? (i := 441) (by decide +kernel)⟩
theorem lw_p1 : lw_okq (⟨"TalkBridge$Tape", "byteAt", "(I)I"⟩, 5) := ⟨⟨by decide +kernel, by decide +kernel⟩, List.mem_of_getElem? (i := 36) (by decide +kernel), List.mem_of_getElem? (i := 444) (by decide +kernel), List.mem_of_getElem? (i := 445) (by decide +kernel)⟩
theorem lw_p2 : lw_okq (⟨"TalkBridge$Tape", "wordKind", "(II)I"⟩, 5) := ⟨⟨by decide +kernel, by decide +kernel⟩, List.mem_of_getElem? (i := 36) (by decide +kernel), List.mem_of_getElem? (i := 451) (by decide +kernel), List.mem_of_getElem? (i := 452) (by decide +kernel)⟩
theorem lw_p3 : lw_okq (⟨"TalkBridge$Reader", "readLine", "(LTalkBridge$River;)V"⟩, 6) := ⟨⟨by decide +kernel, by decide +kernel⟩, List.mem_of_getElem? (i := 30) (by decide +kernel), List.mem_of_getElem? (i := 572) (by decide +kernel), List.mem_of_getElem? (i := 573) (by decide +kernel)⟩
theorem lw_p4 : lw_okq (⟨"TalkBridge$Reader", "readPerson", "(LTalkBridge$River;)V"⟩, 6) := ⟨⟨by decide +kernel, by decide +kernel⟩, List.mem_of_getElem? (i := 30) (by decide +kernel), List.mem_of_getElem? (i := 576) (by decide +kernel), List.mem_of_getElem? (i := 577) (by decide +kernel)⟩
theorem lw_p5 : lw_okq (⟨"TalkBridge$Reader", "stop", "(I)V"⟩, 6) := ⟨⟨by decide +kernel, by decide +kernel⟩, List.mem_of_getElem? (i := 30) (by decide +kernel), List.mem_of_getElem? (i := 580) (by decide +kernel), List.mem_of_getElem? (i := 581) (by decide +kernel)⟩
theorem lw_p6 : lw_okq (⟨"TalkBridge$Reader", "knownName", "(LTalkBridge$River;)I"⟩, 6) := ⟨⟨by decide +kernel, by decide +kernel⟩, List.mem_of_getElem? (i := 30) (by decide +kernel), List.mem_of_getElem? (i := 585) (by decide +kernel), List.mem_of_getElem? (i := 586) (by decide +kernel)⟩
theorem lw_p7 : lw_okq (⟨"TalkBridge$Reader", "expect", "(I)V"⟩, 6) := ⟨⟨by decide +kernel, by decide +kernel⟩, List.mem_of_getElem? (i := 30) (by decide +kernel), List.mem_of_getElem? (i := 593) (by decide +kernel), List.mem_of_getElem? (i := 594) (by decide +kernel)⟩
theorem lw_p8 : lw_okq (⟨"TalkBridge$Reader", "takes", "(I)Z"⟩, 6) := ⟨⟨by decide +kernel, by decide +kernel⟩, List.mem_of_getElem? (i := 30) (by decide +kernel), List.mem_of_getElem? (i := 597) (by decide +kernel), List.mem_of_getElem? (i := 598) (by decide +kernel)⟩
theorem lw_p9 : lw_okq (⟨"TalkBridge$Reader", "readNumber", "(II)I"⟩, 6) := ⟨⟨by decide +kernel, by decide +kernel⟩, List.mem_of_getElem? (i := 30) (by decide +kernel), List.mem_of_getElem? (i := 601) (by decide +kernel), List.mem_of_getElem? (i := 602) (by decide +kernel)⟩
theorem lw_p10 : lw_okq (⟨"TalkBridge$Reader", "readMatter", "(LTalkBridge$River;)V"⟩, 6) := ⟨⟨by decide +kernel, by decide +kernel⟩, List.mem_of_getElem? (i := 30) (by decide +kernel), List.mem_of_getElem? (i := 613) (by decide +kernel), List.mem_of_getElem? (i := 614) (by decide +kernel)⟩
theorem lw_p11 : lw_okq (⟨"TalkBridge$Reader", "readKnown", "(LTalkBridge$River;I)I"⟩, 6) := ⟨⟨by decide +kernel, by decide +kernel⟩, List.mem_of_getElem? (i := 30) (by decide +kernel), List.mem_of_getElem? (i := 617) (by decide +kernel), List.mem_of_getElem? (i := 618) (by decide +kernel)⟩
theorem lw_p12 : lw_okq (⟨"TalkBridge$Reader", "readBridge", "(LTalkBridge$River;)V"⟩, 6) := ⟨⟨by decide +kernel, by decide +kernel⟩, List.mem_of_getElem? (i := 30) (by decide +kernel), List.mem_of_getElem? (i := 626) (by decide +kernel), List.mem_of_getElem? (i := 627) (by decide +kernel)⟩
theorem lw_p13 : lw_okq (⟨"TalkBridge$Reader", "tellOnce", "()V"⟩, 6) := ⟨⟨by decide +kernel, by decide +kernel⟩, List.mem_of_getElem? (i := 30) (by decide +kernel), List.mem_of_getElem? (i := 630) (by decide +kernel), List.mem_of_getElem? (i := 631) (by decide +kernel)⟩
theorem lw_p14 : lw_okq (⟨"TalkBridge$Reader", "readFormula", "(LTalkBridge$River;LTalkBridge$Formula;)V"⟩, 6) := ⟨⟨by decide +kernel, by decide +kernel⟩, List.mem_of_getElem? (i := 30) (by decide +kernel), List.mem_of_getElem? (i := 634) (by decide +kernel), List.mem_of_getElem? (i := 635) (by decide +kernel)⟩
theorem lw_p15 : lw_okq (⟨"TalkBridge$Reader", "readEither", "(LTalkBridge$Formula;I)V"⟩, 6) := ⟨⟨by decide +kernel, by decide +kernel⟩, List.mem_of_getElem? (i := 30) (by decide +kernel), List.mem_of_getElem? (i := 639) (by decide +kernel), List.mem_of_getElem? (i := 640) (by decide +kernel)⟩
def lw_privs_1 : List (MethodName × Nat) := [(⟨"TalkBridge$Tape", "mark", "(I)I"⟩, 5), (⟨"TalkBridge$Tape", "byteAt", "(I)I"⟩, 5), (⟨"TalkBridge$Tape", "wordKind", "(II)I"⟩, 5), (⟨"TalkBridge$Reader", "readLine", "(LTalkBridge$River;)V"⟩, 6), (⟨"TalkBridge$Reader", "readPerson", "(LTalkBridge$River;)V"⟩, 6), (⟨"TalkBridge$Reader", "stop", "(I)V"⟩, 6), (⟨"TalkBridge$Reader", "knownName", "(LTalkBridge$River;)I"⟩, 6), (⟨"TalkBridge$Reader", "expect", "(I)V"⟩, 6), (⟨"TalkBridge$Reader", "takes", "(I)Z"⟩, 6), (⟨"TalkBridge$Reader", "readNumber", "(II)I"⟩, 6), (⟨"TalkBridge$Reader", "readMatter", "(LTalkBridge$River;)V"⟩, 6), (⟨"TalkBridge$Reader", "readKnown", "(LTalkBridge$River;I)I"⟩, 6), (⟨"TalkBridge$Reader", "readBridge", "(LTalkBridge$River;)V"⟩, 6), (⟨"TalkBridge$Reader", "tellOnce", "()V"⟩, 6), (⟨"TalkBridge$Reader", "readFormula", "(LTalkBridge$River;LTalkBridge$Formula;)V"⟩, 6), (⟨"TalkBridge$Reader", "readEither", "(LTalkBridge$Formula;I)V"⟩, 6)]
theorem lw_r1 : ∀ q ∈ lw_privs_1, lw_okq q := List.forall_mem_cons.mpr ⟨lw_p0, List.forall_mem_cons.mpr ⟨lw_p1, List.forall_mem_cons.mpr ⟨lw_p2, List.forall_mem_cons.mpr ⟨lw_p3, List.forall_mem_cons.mpr ⟨lw_p4, List.forall_mem_cons.mpr ⟨lw_p5, List.forall_mem_cons.mpr ⟨lw_p6, List.forall_mem_cons.mpr ⟨lw_p7, List.forall_mem_cons.mpr ⟨lw_p8, List.forall_mem_cons.mpr ⟨lw_p9, List.forall_mem_cons.mpr ⟨lw_p10, List.forall_mem_cons.mpr ⟨lw_p11, List.forall_mem_cons.mpr ⟨lw_p12, List.forall_mem_cons.mpr ⟨lw_p13, List.forall_mem_cons.mpr ⟨lw_p14, List.forall_mem_cons.mpr ⟨lw_p15, fun _ h => absurd h List.not_mem_nil⟩⟩⟩⟩⟩⟩⟩⟩⟩⟩⟩⟩⟩⟩⟩⟩
theorem lw_p16 : lw_okq (⟨"TalkBridge$Reader", "readBoth", "(LTalkBridge$Formula;I)V"⟩, 6) := ⟨⟨by decide +kernel, by decide +kernel⟩, List.mem_of_getElem? (i := 30) (by decide +kernel), List.mem_of_getElem? (i := 643) (by decide +kernel), List.mem_of_getElem? (i := 644) (by decide +kernel)⟩
theorem lw_p17 : lw_okq (⟨"TalkBridge$Reader", "readOne", "(LTalkBridge$Formula;I)V"⟩, 6) := ⟨⟨by decide +kernel, by decide +kernel⟩, List.mem_of_getElem? (i := 30) (by decide +kernel), List.mem_of_getElem? (i := 647) (by decide +kernel), List.mem_of_getElem? (i := 648) (by decide +kernel)⟩
theorem lw_p18 : lw_okq (⟨"TalkBridge$Reader", "readSum", "(LTalkBridge$Formula;I)V"⟩, 6) := ⟨⟨by decide +kernel, by decide +kernel⟩, List.mem_of_getElem? (i := 30) (by decide +kernel), List.mem_of_getElem? (i := 652) (by decide +kernel), List.mem_of_getElem? (i := 653) (by decide +kernel)⟩
theorem lw_p19 : lw_okq (⟨"TalkBridge$Reader", "readTerm", "(LTalkBridge$Formula;I)V"⟩, 6) := ⟨⟨by decide +kernel, by decide +kernel⟩, List.mem_of_getElem? (i := 30) (by decide +kernel), List.mem_of_getElem? (i := 656) (by decide +kernel), List.mem_of_getElem? (i := 657) (by decide +kernel)⟩
theorem lw_p20 : lw_okq (⟨"TalkBridge$Reader", "readUnit", "(LTalkBridge$Formula;I)V"⟩, 6) := ⟨⟨by decide +kernel, by decide +kernel⟩, List.mem_of_getElem? (i := 30) (by decide +kernel), List.mem_of_getElem? (i := 660) (by decide +kernel), List.mem_of_getElem? (i := 661) (by decide +kernel)⟩
theorem lw_p21 : lw_okq (⟨"TalkBridge$Scene", "fillUnits", "(IIII)V"⟩, 10) := ⟨⟨by decide +kernel, by decide +kernel⟩, List.mem_of_getElem? (i := 85) (by decide +kernel), List.mem_of_getElem? (i := 765) (by decide +kernel), List.mem_of_getElem? (i := 766) (by decide +kernel)⟩
theorem lw_p22 : lw_okq (⟨"TalkBridge", "aboutPlan", "(I)I"⟩, 10) := ⟨⟨by decide +kernel, by decide +kernel⟩, List.mem_of_getElem? (i := 22) (by decide +kernel), List.mem_of_getElem? (i := 806) (by decide +kernel), List.mem_of_getElem? (i := 807) (by decide +kernel)⟩
theorem lw_p23 : lw_okq (⟨"TalkBridge$Ways", "weighGroups", "(LTalkBridge$Scene;)V"⟩, 11) := ⟨⟨by decide +kernel, by decide +kernel⟩, List.mem_of_getElem? (i := 276) (by decide +kernel), List.mem_of_getElem? (i := 877) (by decide +kernel), List.mem_of_getElem? (i := 878) (by decide +kernel)⟩
theorem lw_p24 : lw_okq (⟨"TalkBridge$Ways", "place", "(II)V"⟩, 11) := ⟨⟨by decide +kernel, by decide +kernel⟩, List.mem_of_getElem? (i := 276) (by decide +kernel), List.mem_of_getElem? (i := 886) (by decide +kernel), List.mem_of_getElem? (i := 887) (by decide +kernel)⟩
theorem lw_p25 : lw_okq (⟨"TalkBridge$Ways", "weigh", "(I)V"⟩, 11) := ⟨⟨by decide +kernel, by decide +kernel⟩, List.mem_of_getElem? (i := 276) (by decide +kernel), List.mem_of_getElem? (i := 890) (by decide +kernel), List.mem_of_getElem? (i := 891) (by decide +kernel)⟩
theorem lw_p26 : lw_okq (⟨"TalkBridge$Lantern", "weighParties", "(LTalkBridge$Scene;)V"⟩, 6) := ⟨⟨by decide +kernel, by decide +kernel⟩, List.mem_of_getElem? (i := 320) (by decide +kernel), List.mem_of_getElem? (i := 917) (by decide +kernel), List.mem_of_getElem? (i := 918) (by decide +kernel)⟩
theorem lw_p27 : lw_okq (⟨"TalkBridge$Lantern", "cheapest", "()I"⟩, 6) := ⟨⟨by decide +kernel, by decide +kernel⟩, List.mem_of_getElem? (i := 320) (by decide +kernel), List.mem_of_getElem? (i := 926) (by decide +kernel), List.mem_of_getElem? (i := 927) (by decide +kernel)⟩
theorem lw_p28 : lw_okq (⟨"TalkBridge$Lantern", "goOnFrom", "(I)V"⟩, 6) := ⟨⟨by decide +kernel, by decide +kernel⟩, List.mem_of_getElem? (i := 320) (by decide +kernel), List.mem_of_getElem? (i := 931) (by decide +kernel), List.mem_of_getElem? (i := 932) (by decide +kernel)⟩
theorem lw_p29 : lw_okq (⟨"TalkBridge", "howMany", "(III)I"⟩, 10) := ⟨⟨by decide +kernel, by decide +kernel⟩, List.mem_of_getElem? (i := 22) (by decide +kernel), List.mem_of_getElem? (i := 988) (by decide +kernel), List.mem_of_getElem? (i := 989) (by decide +kernel)⟩
theorem lw_p30 : lw_okq (⟨"TalkBridge", "isOfSort", "(III)Z"⟩, 10) := ⟨⟨by decide +kernel, by decide +kernel⟩, List.mem_of_getElem? (i := 22) (by decide +kernel), List.mem_of_getElem? (i := 994) (by decide +kernel), List.mem_of_getElem? (i := 995) (by decide +kernel)⟩
theorem lw_p31 : lw_okq (⟨"TalkBridge", "countFitting", "(I)I"⟩, 10) := ⟨⟨by decide +kernel, by decide +kernel⟩, List.mem_of_getElem? (i := 22) (by decide +kernel), List.mem_of_getElem? (i := 1087) (by decide +kernel), List.mem_of_getElem? (i := 1088) (by decide +kernel)⟩
def lw_privs_2 : List (MethodName × Nat) := [(⟨"TalkBridge$Reader", "readBoth", "(LTalkBridge$Formula;I)V"⟩, 6), (⟨"TalkBridge$Reader", "readOne", "(LTalkBridge$Formula;I)V"⟩, 6), (⟨"TalkBridge$Reader", "readSum", "(LTalkBridge$Formula;I)V"⟩, 6), (⟨"TalkBridge$Reader", "readTerm", "(LTalkBridge$Formula;I)V"⟩, 6), (⟨"TalkBridge$Reader", "readUnit", "(LTalkBridge$Formula;I)V"⟩, 6), (⟨"TalkBridge$Scene", "fillUnits", "(IIII)V"⟩, 10), (⟨"TalkBridge", "aboutPlan", "(I)I"⟩, 10), (⟨"TalkBridge$Ways", "weighGroups", "(LTalkBridge$Scene;)V"⟩, 11), (⟨"TalkBridge$Ways", "place", "(II)V"⟩, 11), (⟨"TalkBridge$Ways", "weigh", "(I)V"⟩, 11), (⟨"TalkBridge$Lantern", "weighParties", "(LTalkBridge$Scene;)V"⟩, 6), (⟨"TalkBridge$Lantern", "cheapest", "()I"⟩, 6), (⟨"TalkBridge$Lantern", "goOnFrom", "(I)V"⟩, 6), (⟨"TalkBridge", "howMany", "(III)I"⟩, 10), (⟨"TalkBridge", "isOfSort", "(III)Z"⟩, 10), (⟨"TalkBridge", "countFitting", "(I)I"⟩, 10)]
theorem lw_r2 : ∀ q ∈ lw_privs_2, lw_okq q := List.forall_mem_cons.mpr ⟨lw_p16, List.forall_mem_cons.mpr ⟨lw_p17, List.forall_mem_cons.mpr ⟨lw_p18, List.forall_mem_cons.mpr ⟨lw_p19, List.forall_mem_cons.mpr ⟨lw_p20, List.forall_mem_cons.mpr ⟨lw_p21, List.forall_mem_cons.mpr ⟨lw_p22, List.forall_mem_cons.mpr ⟨lw_p23, List.forall_mem_cons.mpr ⟨lw_p24, List.forall_mem_cons.mpr ⟨lw_p25, List.forall_mem_cons.mpr ⟨lw_p26, List.forall_mem_cons.mpr ⟨lw_p27, List.forall_mem_cons.mpr ⟨lw_p28, List.forall_mem_cons.mpr ⟨lw_p29, List.forall_mem_cons.mpr ⟨lw_p30, List.forall_mem_cons.mpr ⟨lw_p31, fun _ h => absurd h List.not_mem_nil⟩⟩⟩⟩⟩⟩⟩⟩⟩⟩⟩⟩⟩⟩⟩⟩
theorem lw_p32 : lw_okq (⟨"TalkBridge$Telling", "isSo", "(III)Z"⟩, 7) := ⟨⟨by decide +kernel, by decide +kernel⟩, List.mem_of_getElem? (i := 349) (by decide +kernel), List.mem_of_getElem? (i := 1096) (by decide +kernel), List.mem_of_getElem? (i := 1097) (by decide +kernel)⟩
theorem lw_p33 : lw_okq (⟨"TalkBridgeModel", "clearBank", "()V"⟩, 70) := ⟨⟨by decide +kernel, by decide +kernel⟩, List.mem_of_getElem? (i := 1120) (by decide +kernel), List.mem_of_getElem? (i := 1126) (by decide +kernel), List.mem_of_getElem? (i := 1127) (by decide +kernel)⟩
theorem lw_p34 : lw_okq (⟨"TalkBridgeModel", "startAnew", "()V"⟩, 70) := ⟨⟨by decide +kernel, by decide +kernel⟩, List.mem_of_getElem? (i := 1120) (by decide +kernel), List.mem_of_getElem? (i := 1130) (by decide +kernel), List.mem_of_getElem? (i := 1131) (by decide +kernel)⟩
theorem lw_p35 : lw_okq (⟨"TalkBridgeModel", "many", "()I"⟩, 70) := ⟨⟨by decide +kernel, by decide +kernel⟩, List.mem_of_getElem? (i := 1120) (by decide +kernel), List.mem_of_getElem? (i := 1134) (by decide +kernel), List.mem_of_getElem? (i := 1135) (by decide +kernel)⟩
theorem lw_p36 : lw_okq (⟨"TalkBridgeModel", "goOn", "()V"⟩, 70) := ⟨⟨by decide +kernel, by decide +kernel⟩, List.mem_of_getElem? (i := 1120) (by decide +kernel), List.mem_of_getElem? (i := 1353) (by decide +kernel), List.mem_of_getElem? (i := 1354) (by decide +kernel)⟩
theorem lw_p37 : lw_okq (⟨"TalkBridgeModel", "sign", "(I)I"⟩, 70) := ⟨⟨by decide +kernel, by decide +kernel⟩, List.mem_of_getElem? (i := 1120) (by decide +kernel), List.mem_of_getElem? (i := 1357) (by decide +kernel), List.mem_of_getElem? (i := 1358) (by decide +kernel)⟩
theorem lw_p38 : lw_okq (⟨"TalkBridgeModel", "isGood", "()Z"⟩, 70) := ⟨⟨by decide +kernel, by decide +kernel⟩, List.mem_of_getElem? (i := 1120) (by decide +kernel), List.mem_of_getElem? (i := 1397) (by decide +kernel), List.mem_of_getElem? (i := 1398) (by decide +kernel)⟩
theorem lw_p39 : lw_okq (⟨"TalkBridgeModel", "readLine", "()V"⟩, 70) := ⟨⟨by decide +kernel, by decide +kernel⟩, List.mem_of_getElem? (i := 1120) (by decide +kernel), List.mem_of_getElem? (i := 1401) (by decide +kernel), List.mem_of_getElem? (i := 1402) (by decide +kernel)⟩
theorem lw_p40 : lw_okq (⟨"TalkBridgeModel", "isFull", "()Z"⟩, 70) := ⟨⟨by decide +kernel, by decide +kernel⟩, List.mem_of_getElem? (i := 1120) (by decide +kernel), List.mem_of_getElem? (i := 1405) (by decide +kernel), List.mem_of_getElem? (i := 1406) (by decide +kernel)⟩
theorem lw_p41 : lw_okq (⟨"TalkBridgeModel", "isWord", "(J)Z"⟩, 70) := ⟨⟨by decide +kernel, by decide +kernel⟩, List.mem_of_getElem? (i := 1120) (by decide +kernel), List.mem_of_getElem? (i := 1409) (by decide +kernel), List.mem_of_getElem? (i := 1410) (by decide +kernel)⟩
theorem lw_p42 : lw_okq (⟨"TalkBridgeModel", "isTold", "(I)Z"⟩, 70) := ⟨⟨by decide +kernel, by decide +kernel⟩, List.mem_of_getElem? (i := 1120) (by decide +kernel), List.mem_of_getElem? (i := 1413) (by decide +kernel), List.mem_of_getElem? (i := 1414) (by decide +kernel)⟩
theorem lw_p43 : lw_okq (⟨"TalkBridgeModel", "misplaced", "()V"⟩, 70) := ⟨⟨by decide +kernel, by decide +kernel⟩, List.mem_of_getElem? (i := 1120) (by decide +kernel), List.mem_of_getElem? (i := 1420) (by decide +kernel), List.mem_of_getElem? (i := 1421) (by decide +kernel)⟩
theorem lw_p44 : lw_okq (⟨"TalkBridgeModel", "fails", "(II)V"⟩, 70) := ⟨⟨by decide +kernel, by decide +kernel⟩, List.mem_of_getElem? (i := 1120) (by decide +kernel), List.mem_of_getElem? (i := 1424) (by decide +kernel), List.mem_of_getElem? (i := 1425) (by decide +kernel)⟩
theorem lw_p45 : lw_okq (⟨"TalkBridgeModel", "readPerson", "()V"⟩, 70) := ⟨⟨by decide +kernel, by decide +kernel⟩, List.mem_of_getElem? (i := 1120) (by decide +kernel), List.mem_of_getElem? (i := 1428) (by decide +kernel), List.mem_of_getElem? (i := 1429) (by decide +kernel)⟩
theorem lw_p46 : lw_okq (⟨"TalkBridgeModel", "personHere", "()I"⟩, 70) := ⟨⟨by decide +kernel, by decide +kernel⟩, List.mem_of_getElem? (i := 1120) (by decide +kernel), List.mem_of_getElem? (i := 1432) (by decide +kernel), List.mem_of_getElem? (i := 1433) (by decide +kernel)⟩
theorem lw_p47 : lw_okq (⟨"TalkBridgeModel", "must", "(Z)V"⟩, 70) := ⟨⟨by decide +kernel, by decide +kernel⟩, List.mem_of_getElem? (i := 1120) (by decide +kernel), List.mem_of_getElem? (i := 1436) (by decide +kernel), List.mem_of_getElem? (i := 1437) (by decide +kernel)⟩
def lw_privs_3 : List (MethodName × Nat) := [(⟨"TalkBridge$Telling", "isSo", "(III)Z"⟩, 7), (⟨"TalkBridgeModel", "clearBank", "()V"⟩, 70), (⟨"TalkBridgeModel", "startAnew", "()V"⟩, 70), (⟨"TalkBridgeModel", "many", "()I"⟩, 70), (⟨"TalkBridgeModel", "goOn", "()V"⟩, 70), (⟨"TalkBridgeModel", "sign", "(I)I"⟩, 70), (⟨"TalkBridgeModel", "isGood", "()Z"⟩, 70), (⟨"TalkBridgeModel", "readLine", "()V"⟩, 70), (⟨"TalkBridgeModel", "isFull", "()Z"⟩, 70), (⟨"TalkBridgeModel", "isWord", "(J)Z"⟩, 70), (⟨"TalkBridgeModel", "isTold", "(I)Z"⟩, 70), (⟨"TalkBridgeModel", "misplaced", "()V"⟩, 70), (⟨"TalkBridgeModel", "fails", "(II)V"⟩, 70), (⟨"TalkBridgeModel", "readPerson", "()V"⟩, 70), (⟨"TalkBridgeModel", "personHere", "()I"⟩, 70), (⟨"TalkBridgeModel", "must", "(Z)V"⟩, 70)]
theorem lw_r3 : ∀ q ∈ lw_privs_3, lw_okq q := List.forall_mem_cons.mpr ⟨lw_p32, List.forall_mem_cons.mpr ⟨lw_p33, List.forall_mem_cons.mpr ⟨lw_p34, List.forall_mem_cons.mpr ⟨lw_p35, List.forall_mem_cons.mpr ⟨lw_p36, List.forall_mem_cons.mpr ⟨lw_p37, List.forall_mem_cons.mpr ⟨lw_p38, List.forall_mem_cons.mpr ⟨lw_p39, List.forall_mem_cons.mpr ⟨lw_p40, List.forall_mem_cons.mpr ⟨lw_p41, List.forall_mem_cons.mpr ⟨lw_p42, List.forall_mem_cons.mpr ⟨lw_p43, List.forall_mem_cons.mpr ⟨lw_p44, List.forall_mem_cons.mpr ⟨lw_p45, List.forall_mem_cons.mpr ⟨lw_p46, List.forall_mem_cons.mpr ⟨lw_p47, fun _ h => absurd h List.not_mem_nil⟩⟩⟩⟩⟩⟩⟩⟩⟩⟩⟩⟩⟩⟩⟩⟩
theorem lw_p48 : lw_okq (⟨"TalkBridgeModel", "numeral", "(II)I"⟩, 70) := ⟨⟨by decide +kernel, by decide +kernel⟩, List.mem_of_getElem? (i := 1120) (by decide +kernel), List.mem_of_getElem? (i := 1440) (by decide +kernel), List.mem_of_getElem? (i := 1441) (by decide +kernel)⟩
theorem lw_p49 : lw_okq (⟨"TalkBridgeModel", "passes", "(J)Z"⟩, 70) := ⟨⟨by decide +kernel, by decide +kernel⟩, List.mem_of_getElem? (i := 1120) (by decide +kernel), List.mem_of_getElem? (i := 1444) (by decide +kernel), List.mem_of_getElem? (i := 1445) (by decide +kernel)⟩
theorem lw_p50 : lw_okq (⟨"TalkBridgeModel", "readMatter", "()V"⟩, 70) := ⟨⟨by decide +kernel, by decide +kernel⟩, List.mem_of_getElem? (i := 1120) (by decide +kernel), List.mem_of_getElem? (i := 1448) (by decide +kernel), List.mem_of_getElem? (i := 1449) (by decide +kernel)⟩
theorem lw_p51 : lw_okq (⟨"TalkBridgeModel", "known", "(I)I"⟩, 70) := ⟨⟨by decide +kernel, by decide +kernel⟩, List.mem_of_getElem? (i := 1120) (by decide +kernel), List.mem_of_getElem? (i := 1452) (by decide +kernel), List.mem_of_getElem? (i := 1453) (by decide +kernel)⟩
theorem lw_p52 : lw_okq (⟨"TalkBridgeModel", "readBridge", "()V"⟩, 70) := ⟨⟨by decide +kernel, by decide +kernel⟩, List.mem_of_getElem? (i := 1120) (by decide +kernel), List.mem_of_getElem? (i := 1456) (by decide +kernel), List.mem_of_getElem? (i := 1457) (by decide +kernel)⟩
theorem lw_p53 : lw_okq (⟨"TalkBridgeModel", "readRule", "(I)V"⟩, 70) := ⟨⟨by decide +kernel, by decide +kernel⟩, List.mem_of_getElem? (i := 1120) (by decide +kernel), List.mem_of_getElem? (i := 1460) (by decide +kernel), List.mem_of_getElem? (i := 1461) (by decide +kernel)⟩
theorem lw_p54 : lw_okq (⟨"TalkBridgeModel", "e", "()V"⟩, 70) := ⟨⟨by decide +kernel, by decide +kernel⟩, List.mem_of_getElem? (i := 1120) (by decide +kernel), List.mem_of_getElem? (i := 1464) (by decide +kernel), List.mem_of_getElem? (i := 1465) (by decide +kernel)⟩
theorem lw_p55 : lw_okq (⟨"TalkBridgeModel", "pushE", "(II)V"⟩, 70) := ⟨⟨by decide +kernel, by decide +kernel⟩, List.mem_of_getElem? (i := 1120) (by decide +kernel), List.mem_of_getElem? (i := 1468) (by decide +kernel), List.mem_of_getElem? (i := 1469) (by decide +kernel)⟩
theorem lw_p56 : lw_okq (⟨"TalkBridgeModel", "unit", "()Z"⟩, 70) := ⟨⟨by decide +kernel, by decide +kernel⟩, List.mem_of_getElem? (i := 1120) (by decide +kernel), List.mem_of_getElem? (i := 1472) (by decide +kernel), List.mem_of_getElem? (i := 1473) (by decide +kernel)⟩
theorem lw_p57 : lw_okq (⟨"TalkBridgeModel", "isSignHere", "(I)Z"⟩, 70) := ⟨⟨by decide +kernel, by decide +kernel⟩, List.mem_of_getElem? (i := 1120) (by decide +kernel), List.mem_of_getElem? (i := 1476) (by decide +kernel), List.mem_of_getElem? (i := 1477) (by decide +kernel)⟩
theorem lw_p58 : lw_okq (⟨"TalkBridgeModel", "wordHere", "()I"⟩, 70) := ⟨⟨by decide +kernel, by decide +kernel⟩, List.mem_of_getElem? (i := 1120) (by decide +kernel), List.mem_of_getElem? (i := 1480) (by decide +kernel), List.mem_of_getElem? (i := 1481) (by decide +kernel)⟩
theorem lw_p59 : lw_okq (⟨"TalkBridgeModel", "emit", "(II)V"⟩, 70) := ⟨⟨by decide +kernel, by decide +kernel⟩, List.mem_of_getElem? (i := 1120) (by decide +kernel), List.mem_of_getElem? (i := 1484) (by decide +kernel), List.mem_of_getElem? (i := 1485) (by decide +kernel)⟩
theorem lw_p60 : lw_okq (⟨"TalkBridgeModel", "behindUnit", "()Z"⟩, 70) := ⟨⟨by decide +kernel, by decide +kernel⟩, List.mem_of_getElem? (i := 1120) (by decide +kernel), List.mem_of_getElem? (i := 1488) (by decide +kernel), List.mem_of_getElem? (i := 1489) (by decide +kernel)⟩
theorem lw_p61 : lw_okq (⟨"TalkBridgeModel", "rankHere", "()I"⟩, 70) := ⟨⟨by decide +kernel, by decide +kernel⟩, List.mem_of_getElem? (i := 1120) (by decide +kernel), List.mem_of_getElem? (i := 1492) (by decide +kernel), List.mem_of_getElem? (i := 1493) (by decide +kernel)⟩
theorem lw_p62 : lw_okq (⟨"TalkBridgeModel", "isCompared", "()Z"⟩, 70) := ⟨⟨by decide +kernel, by decide +kernel⟩, List.mem_of_getElem? (i := 1120) (by decide +kernel), List.mem_of_getElem? (i := 1496) (by decide +kernel), List.mem_of_getElem? (i := 1497) (by decide +kernel)⟩
theorem lw_p63 : lw_okq (⟨"TalkBridgeModel", "isPerson", "(I)Z"⟩, 70) := ⟨⟨by decide +kernel, by decide +kernel⟩, List.mem_of_getElem? (i := 1120) (by decide +kernel), List.mem_of_getElem? (i := 1508) (by decide +kernel), List.mem_of_getElem? (i := 1509) (by decide +kernel)⟩
def lw_privs_4 : List (MethodName × Nat) := [(⟨"TalkBridgeModel", "numeral", "(II)I"⟩, 70), (⟨"TalkBridgeModel", "passes", "(J)Z"⟩, 70), (⟨"TalkBridgeModel", "readMatter", "()V"⟩, 70), (⟨"TalkBridgeModel", "known", "(I)I"⟩, 70), (⟨"TalkBridgeModel", "readBridge", "()V"⟩, 70), (⟨"TalkBridgeModel", "readRule", "(I)V"⟩, 70), (⟨"TalkBridgeModel", "e", "()V"⟩, 70), (⟨"TalkBridgeModel", "pushE", "(II)V"⟩, 70), (⟨"TalkBridgeModel", "unit", "()Z"⟩, 70), (⟨"TalkBridgeModel", "isSignHere", "(I)Z"⟩, 70), (⟨"TalkBridgeModel", "wordHere", "()I"⟩, 70), (⟨"TalkBridgeModel", "emit", "(II)V"⟩, 70), (⟨"TalkBridgeModel", "behindUnit", "()Z"⟩, 70), (⟨"TalkBridgeModel", "rankHere", "()I"⟩, 70), (⟨"TalkBridgeModel", "isCompared", "()Z"⟩, 70), (⟨"TalkBridgeModel", "isPerson", "(I)Z"⟩, 70)]
theorem lw_r4 : ∀ q ∈ lw_privs_4, lw_okq q := List.forall_mem_cons.mpr ⟨lw_p48, List.forall_mem_cons.mpr ⟨lw_p49, List.forall_mem_cons.mpr ⟨lw_p50, List.forall_mem_cons.mpr ⟨lw_p51, List.forall_mem_cons.mpr ⟨lw_p52, List.forall_mem_cons.mpr ⟨lw_p53, List.forall_mem_cons.mpr ⟨lw_p54, List.forall_mem_cons.mpr ⟨lw_p55, List.forall_mem_cons.mpr ⟨lw_p56, List.forall_mem_cons.mpr ⟨lw_p57, List.forall_mem_cons.mpr ⟨lw_p58, List.forall_mem_cons.mpr ⟨lw_p59, List.forall_mem_cons.mpr ⟨lw_p60, List.forall_mem_cons.mpr ⟨lw_p61, List.forall_mem_cons.mpr ⟨lw_p62, List.forall_mem_cons.mpr ⟨lw_p63, fun _ h => absurd h List.not_mem_nil⟩⟩⟩⟩⟩⟩⟩⟩⟩⟩⟩⟩⟩⟩⟩⟩
theorem lw_p64 : lw_okq (⟨"TalkBridgeModel", "mattersOf", "(I)I"⟩, 70) := ⟨⟨by decide +kernel, by decide +kernel⟩, List.mem_of_getElem? (i := 1120) (by decide +kernel), List.mem_of_getElem? (i := 1515) (by decide +kernel), List.mem_of_getElem? (i := 1516) (by decide +kernel)⟩
theorem lw_p65 : lw_okq (⟨"TalkBridgeModel", "both", "(I)I"⟩, 70) := ⟨⟨by decide +kernel, by decide +kernel⟩, List.mem_of_getElem? (i := 1120) (by decide +kernel), List.mem_of_getElem? (i := 1519) (by decide +kernel), List.mem_of_getElem? (i := 1520) (by decide +kernel)⟩
theorem lw_p66 : lw_okq (⟨"TalkBridgeModel", "ofWhom", "(I)I"⟩, 70) := ⟨⟨by decide +kernel, by decide +kernel⟩, List.mem_of_getElem? (i := 1120) (by decide +kernel), List.mem_of_getElem? (i := 1523) (by decide +kernel), List.mem_of_getElem? (i := 1524) (by decide +kernel)⟩
theorem lw_p67 : lw_okq (⟨"TalkBridgeModel", "toWhom", "(I)I"⟩, 70) := ⟨⟨by decide +kernel, by decide +kernel⟩, List.mem_of_getElem? (i := 1120) (by decide +kernel), List.mem_of_getElem? (i := 1527) (by decide +kernel), List.mem_of_getElem? (i := 1528) (by decide +kernel)⟩
theorem lw_p68 : lw_okq (⟨"TalkBridgeModel", "isMatter", "(I)Z"⟩, 70) := ⟨⟨by decide +kernel, by decide +kernel⟩, List.mem_of_getElem? (i := 1120) (by decide +kernel), List.mem_of_getElem? (i := 1535) (by decide +kernel), List.mem_of_getElem? (i := 1536) (by decide +kernel)⟩
theorem lw_p69 : lw_okq (⟨"TalkBridgeModel", "whoHeard", "(I)I"⟩, 70) := ⟨⟨by decide +kernel, by decide +kernel⟩, List.mem_of_getElem? (i := 1120) (by decide +kernel), List.mem_of_getElem? (i := 1539) (by decide +kernel), List.mem_of_getElem? (i := 1540) (by decide +kernel)⟩
theorem lw_p70 : lw_okq (⟨"TalkBridgeModel", "isGroup", "(I)Z"⟩, 70) := ⟨⟨by decide +kernel, by decide +kernel⟩, List.mem_of_getElem? (i := 1120) (by decide +kernel), List.mem_of_getElem? (i := 1547) (by decide +kernel), List.mem_of_getElem? (i := 1548) (by decide +kernel)⟩
theorem lw_p71 : lw_okq (⟨"TalkBridgeModel", "full", "()I"⟩, 70) := ⟨⟨by decide +kernel, by decide +kernel⟩, List.mem_of_getElem? (i := 1120) (by decide +kernel), List.mem_of_getElem? (i := 1551) (by decide +kernel), List.mem_of_getElem? (i := 1552) (by decide +kernel)⟩
theorem lw_p72 : lw_okq (⟨"TalkBridgeModel", "talkOf", "(I)I"⟩, 70) := ⟨⟨by decide +kernel, by decide +kernel⟩, List.mem_of_getElem? (i := 1120) (by decide +kernel), List.mem_of_getElem? (i := 1558) (by decide +kernel), List.mem_of_getElem? (i := 1559) (by decide +kernel)⟩
theorem lw_p73 : lw_okq (⟨"TalkBridgeModel", "wordsOf", "(II)I"⟩, 70) := ⟨⟨by decide +kernel, by decide +kernel⟩, List.mem_of_getElem? (i := 1120) (by decide +kernel), List.mem_of_getElem? (i := 1562) (by decide +kernel), List.mem_of_getElem? (i := 1563) (by decide +kernel)⟩
theorem lw_p74 : lw_okq (⟨"TalkBridgeModel", "lengthBy", "(II)I"⟩, 70) := ⟨⟨by decide +kernel, by decide +kernel⟩, List.mem_of_getElem? (i := 1120) (by decide +kernel), List.mem_of_getElem? (i := 1566) (by decide +kernel), List.mem_of_getElem? (i := 1567) (by decide +kernel)⟩
theorem lw_p75 : lw_okq (⟨"TalkBridgeModel", "comes", "(I)I"⟩, 70) := ⟨⟨by decide +kernel, by decide +kernel⟩, List.mem_of_getElem? (i := 1120) (by decide +kernel), List.mem_of_getElem? (i := 1570) (by decide +kernel), List.mem_of_getElem? (i := 1571) (by decide +kernel)⟩
theorem lw_p76 : lw_okq (⟨"TalkBridgeModel", "asked", "(II)I"⟩, 70) := ⟨⟨by decide +kernel, by decide +kernel⟩, List.mem_of_getElem? (i := 1120) (by decide +kernel), List.mem_of_getElem? (i := 1574) (by decide +kernel), List.mem_of_getElem? (i := 1575) (by decide +kernel)⟩
theorem lw_p77 : lw_okq (⟨"TalkBridgeModel", "timeBy", "(II)I"⟩, 70) := ⟨⟨by decide +kernel, by decide +kernel⟩, List.mem_of_getElem? (i := 1120) (by decide +kernel), List.mem_of_getElem? (i := 1584) (by decide +kernel), List.mem_of_getElem? (i := 1585) (by decide +kernel)⟩
theorem lw_p78 : lw_okq (⟨"TalkBridgeModel", "slowest", "(I)I"⟩, 70) := ⟨⟨by decide +kernel, by decide +kernel⟩, List.mem_of_getElem? (i := 1120) (by decide +kernel), List.mem_of_getElem? (i := 1588) (by decide +kernel), List.mem_of_getElem? (i := 1589) (by decide +kernel)⟩
theorem lw_p79 : lw_okq (⟨"TalkBridgeModel", "tollOf", "(I)I"⟩, 70) := ⟨⟨by decide +kernel, by decide +kernel⟩, List.mem_of_getElem? (i := 1120) (by decide +kernel), List.mem_of_getElem? (i := 1592) (by decide +kernel), List.mem_of_getElem? (i := 1593) (by decide +kernel)⟩
def lw_privs_5 : List (MethodName × Nat) := [(⟨"TalkBridgeModel", "mattersOf", "(I)I"⟩, 70), (⟨"TalkBridgeModel", "both", "(I)I"⟩, 70), (⟨"TalkBridgeModel", "ofWhom", "(I)I"⟩, 70), (⟨"TalkBridgeModel", "toWhom", "(I)I"⟩, 70), (⟨"TalkBridgeModel", "isMatter", "(I)Z"⟩, 70), (⟨"TalkBridgeModel", "whoHeard", "(I)I"⟩, 70), (⟨"TalkBridgeModel", "isGroup", "(I)Z"⟩, 70), (⟨"TalkBridgeModel", "full", "()I"⟩, 70), (⟨"TalkBridgeModel", "talkOf", "(I)I"⟩, 70), (⟨"TalkBridgeModel", "wordsOf", "(II)I"⟩, 70), (⟨"TalkBridgeModel", "lengthBy", "(II)I"⟩, 70), (⟨"TalkBridgeModel", "comes", "(I)I"⟩, 70), (⟨"TalkBridgeModel", "asked", "(II)I"⟩, 70), (⟨"TalkBridgeModel", "timeBy", "(II)I"⟩, 70), (⟨"TalkBridgeModel", "slowest", "(I)I"⟩, 70), (⟨"TalkBridgeModel", "tollOf", "(I)I"⟩, 70)]
theorem lw_r5 : ∀ q ∈ lw_privs_5, lw_okq q := List.forall_mem_cons.mpr ⟨lw_p64, List.forall_mem_cons.mpr ⟨lw_p65, List.forall_mem_cons.mpr ⟨lw_p66, List.forall_mem_cons.mpr ⟨lw_p67, List.forall_mem_cons.mpr ⟨lw_p68, List.forall_mem_cons.mpr ⟨lw_p69, List.forall_mem_cons.mpr ⟨lw_p70, List.forall_mem_cons.mpr ⟨lw_p71, List.forall_mem_cons.mpr ⟨lw_p72, List.forall_mem_cons.mpr ⟨lw_p73, List.forall_mem_cons.mpr ⟨lw_p74, List.forall_mem_cons.mpr ⟨lw_p75, List.forall_mem_cons.mpr ⟨lw_p76, List.forall_mem_cons.mpr ⟨lw_p77, List.forall_mem_cons.mpr ⟨lw_p78, List.forall_mem_cons.mpr ⟨lw_p79, fun _ h => absurd h List.not_mem_nil⟩⟩⟩⟩⟩⟩⟩⟩⟩⟩⟩⟩⟩⟩⟩⟩
theorem lw_p80 : lw_okq (⟨"TalkBridgeModel", "canPay", "(I)Z"⟩, 70) := ⟨⟨by decide +kernel, by decide +kernel⟩, List.mem_of_getElem? (i := 1120) (by decide +kernel), List.mem_of_getElem? (i := 1600) (by decide +kernel), List.mem_of_getElem? (i := 1601) (by decide +kernel)⟩
theorem lw_p81 : lw_okq (⟨"TalkBridgeModel", "keepAct", "()V"⟩, 70) := ⟨⟨by decide +kernel, by decide +kernel⟩, List.mem_of_getElem? (i := 1120) (by decide +kernel), List.mem_of_getElem? (i := 1604) (by decide +kernel), List.mem_of_getElem? (i := 1605) (by decide +kernel)⟩
theorem lw_p82 : lw_okq (⟨"TalkBridgeModel", "doesBreak", "(I)Z"⟩, 70) := ⟨⟨by decide +kernel, by decide +kernel⟩, List.mem_of_getElem? (i := 1120) (by decide +kernel), List.mem_of_getElem? (i := 1608) (by decide +kernel), List.mem_of_getElem? (i := 1609) (by decide +kernel)⟩
theorem lw_p83 : lw_okq (⟨"TalkBridgeModel", "exchange", "()V"⟩, 70) := ⟨⟨by decide +kernel, by decide +kernel⟩, List.mem_of_getElem? (i := 1120) (by decide +kernel), List.mem_of_getElem? (i := 1628) (by decide +kernel), List.mem_of_getElem? (i := 1629) (by decide +kernel)⟩
theorem lw_p84 : lw_okq (⟨"TalkBridgeModel", "layTimes", "()V"⟩, 70) := ⟨⟨by decide +kernel, by decide +kernel⟩, List.mem_of_getElem? (i := 1120) (by decide +kernel), List.mem_of_getElem? (i := 1644) (by decide +kernel), List.mem_of_getElem? (i := 1645) (by decide +kernel)⟩
theorem lw_p85 : lw_okq (⟨"TalkBridgeModel", "timeOf", "(I)I"⟩, 70) := ⟨⟨by decide +kernel, by decide +kernel⟩, List.mem_of_getElem? (i := 1120) (by decide +kernel), List.mem_of_getElem? (i := 1648) (by decide +kernel), List.mem_of_getElem? (i := 1649) (by decide +kernel)⟩
theorem lw_p86 : lw_okq (⟨"TalkBridgeModel", "layNear", "()I"⟩, 70) := ⟨⟨by decide +kernel, by decide +kernel⟩, List.mem_of_getElem? (i := 1120) (by decide +kernel), List.mem_of_getElem? (i := 1652) (by decide +kernel), List.mem_of_getElem? (i := 1653) (by decide +kernel)⟩
theorem lw_p87 : lw_okq (⟨"TalkBridgeModel", "near", "()I"⟩, 70) := ⟨⟨by decide +kernel, by decide +kernel⟩, List.mem_of_getElem? (i := 1120) (by decide +kernel), List.mem_of_getElem? (i := 1656) (by decide +kernel), List.mem_of_getElem? (i := 1657) (by decide +kernel)⟩
theorem lw_p88 : lw_okq (⟨"TalkBridgeModel", "isWay", "(I)Z"⟩, 70) := ⟨⟨by decide +kernel, by decide +kernel⟩, List.mem_of_getElem? (i := 1120) (by decide +kernel), List.mem_of_getElem? (i := 1660) (by decide +kernel), List.mem_of_getElem? (i := 1661) (by decide +kernel)⟩
theorem lw_p89 : lw_okq (⟨"TalkBridgeModel", "isAllSaid", "(I)Z"⟩, 70) := ⟨⟨by decide +kernel, by decide +kernel⟩, List.mem_of_getElem? (i := 1120) (by decide +kernel), List.mem_of_getElem? (i := 1664) (by decide +kernel), List.mem_of_getElem? (i := 1665) (by decide +kernel)⟩
theorem lw_p90 : lw_okq (⟨"TalkBridgeModel", "nextRow", "(I)Z"⟩, 70) := ⟨⟨by decide +kernel, by decide +kernel⟩, List.mem_of_getElem? (i := 1120) (by decide +kernel), List.mem_of_getElem? (i := 1668) (by decide +kernel), List.mem_of_getElem? (i := 1669) (by decide +kernel)⟩
theorem lw_p91 : lw_okq (⟨"TalkBridgeModel", "goFrom", "(II)Z"⟩, 70) := ⟨⟨by decide +kernel, by decide +kernel⟩, List.mem_of_getElem? (i := 1120) (by decide +kernel), List.mem_of_getElem? (i := 1681) (by decide +kernel), List.mem_of_getElem? (i := 1682) (by decide +kernel)⟩
theorem lw_p92 : lw_okq (⟨"TalkBridgeModel", "countOf", "(III)I"⟩, 70) := ⟨⟨by decide +kernel, by decide +kernel⟩, List.mem_of_getElem? (i := 1120) (by decide +kernel), List.mem_of_getElem? (i := 1726) (by decide +kernel), List.mem_of_getElem? (i := 1727) (by decide +kernel)⟩
theorem lw_p93 : lw_okq (⟨"TalkBridgeModel", "those", "(I)I"⟩, 70) := ⟨⟨by decide +kernel, by decide +kernel⟩, List.mem_of_getElem? (i := 1120) (by decide +kernel), List.mem_of_getElem? (i := 1730) (by decide +kernel), List.mem_of_getElem? (i := 1731) (by decide +kernel)⟩
theorem lw_p94 : lw_okq (⟨"TalkBridgeModel", "isSo", "(III)Z"⟩, 70) := ⟨⟨by decide +kernel, by decide +kernel⟩, List.mem_of_getElem? (i := 1120) (by decide +kernel), List.mem_of_getElem? (i := 1734) (by decide +kernel), List.mem_of_getElem? (i := 1735) (by decide +kernel)⟩
theorem lw_p95 : lw_okq (⟨"TalkBridgeModel", "allWords", "(I)I"⟩, 70) := ⟨⟨by decide +kernel, by decide +kernel⟩, List.mem_of_getElem? (i := 1120) (by decide +kernel), List.mem_of_getElem? (i := 1766) (by decide +kernel), List.mem_of_getElem? (i := 1767) (by decide +kernel)⟩
def lw_privs_6 : List (MethodName × Nat) := [(⟨"TalkBridgeModel", "canPay", "(I)Z"⟩, 70), (⟨"TalkBridgeModel", "keepAct", "()V"⟩, 70), (⟨"TalkBridgeModel", "doesBreak", "(I)Z"⟩, 70), (⟨"TalkBridgeModel", "exchange", "()V"⟩, 70), (⟨"TalkBridgeModel", "layTimes", "()V"⟩, 70), (⟨"TalkBridgeModel", "timeOf", "(I)I"⟩, 70), (⟨"TalkBridgeModel", "layNear", "()I"⟩, 70), (⟨"TalkBridgeModel", "near", "()I"⟩, 70), (⟨"TalkBridgeModel", "isWay", "(I)Z"⟩, 70), (⟨"TalkBridgeModel", "isAllSaid", "(I)Z"⟩, 70), (⟨"TalkBridgeModel", "nextRow", "(I)Z"⟩, 70), (⟨"TalkBridgeModel", "goFrom", "(II)Z"⟩, 70), (⟨"TalkBridgeModel", "countOf", "(III)I"⟩, 70), (⟨"TalkBridgeModel", "those", "(I)I"⟩, 70), (⟨"TalkBridgeModel", "isSo", "(III)Z"⟩, 70), (⟨"TalkBridgeModel", "allWords", "(I)I"⟩, 70)]
theorem lw_r6 : ∀ q ∈ lw_privs_6, lw_okq q := List.forall_mem_cons.mpr ⟨lw_p80, List.forall_mem_cons.mpr ⟨lw_p81, List.forall_mem_cons.mpr ⟨lw_p82, List.forall_mem_cons.mpr ⟨lw_p83, List.forall_mem_cons.mpr ⟨lw_p84, List.forall_mem_cons.mpr ⟨lw_p85, List.forall_mem_cons.mpr ⟨lw_p86, List.forall_mem_cons.mpr ⟨lw_p87, List.forall_mem_cons.mpr ⟨lw_p88, List.forall_mem_cons.mpr ⟨lw_p89, List.forall_mem_cons.mpr ⟨lw_p90, List.forall_mem_cons.mpr ⟨lw_p91, List.forall_mem_cons.mpr ⟨lw_p92, List.forall_mem_cons.mpr ⟨lw_p93, List.forall_mem_cons.mpr ⟨lw_p94, List.forall_mem_cons.mpr ⟨lw_p95, fun _ h => absurd h List.not_mem_nil⟩⟩⟩⟩⟩⟩⟩⟩⟩⟩⟩⟩⟩⟩⟩⟩
theorem lw_p96 : lw_okq (⟨"TalkBridgeModel", "tell", "(IIZ)I"⟩, 70) := ⟨⟨by decide +kernel, by decide +kernel⟩, List.mem_of_getElem? (i := 1120) (by decide +kernel), List.mem_of_getElem? (i := 1800) (by decide +kernel), List.mem_of_getElem? (i := 1801) (by decide +kernel)⟩
theorem lw_p97 : lw_okq (⟨"TalkBridgeModel", "layFits", "(I)V"⟩, 70) := ⟨⟨by decide +kernel, by decide +kernel⟩, List.mem_of_getElem? (i := 1120) (by decide +kernel), List.mem_of_getElem? (i := 1825) (by decide +kernel), List.mem_of_getElem? (i := 1826) (by decide +kernel)⟩
theorem lw_p98 : lw_okq (⟨"TalkBridgeModel", "doesFit", "(II)Z"⟩, 70) := ⟨⟨by decide +kernel, by decide +kernel⟩, List.mem_of_getElem? (i := 1120) (by decide +kernel), List.mem_of_getElem? (i := 1829) (by decide +kernel), List.mem_of_getElem? (i := 1830) (by decide +kernel)⟩
def lw_privs_7 : List (MethodName × Nat) := [(⟨"TalkBridgeModel", "tell", "(IIZ)I"⟩, 70), (⟨"TalkBridgeModel", "layFits", "(I)V"⟩, 70), (⟨"TalkBridgeModel", "doesFit", "(II)Z"⟩, 70)]
theorem lw_r7 : ∀ q ∈ lw_privs_7, lw_okq q := List.forall_mem_cons.mpr ⟨lw_p96, List.forall_mem_cons.mpr ⟨lw_p97, List.forall_mem_cons.mpr ⟨lw_p98, fun _ h => absurd h List.not_mem_nil⟩⟩⟩
def lw_privs : List (MethodName × Nat) := lw_privs_1 ++ (lw_privs_2 ++ (lw_privs_3 ++ (lw_privs_4 ++ (lw_privs_5 ++ (lw_privs_6 ++ (lw_privs_7))))))
def lw_tbl : List Cond := k2_sels lw_privs ++ tables_1
theorem lw_privs_ok : ∀ q ∈ lw_privs, lw_okq q := by
  show ∀ q ∈ lw_privs_1 ++ (lw_privs_2 ++ (lw_privs_3 ++ (lw_privs_4 ++ (lw_privs_5 ++ (lw_privs_6 ++ (lw_privs_7)))))), lw_okq q
  exact List.forall_mem_append.mpr ⟨lw_r1, List.forall_mem_append.mpr ⟨lw_r2, List.forall_mem_append.mpr ⟨lw_r3, List.forall_mem_append.mpr ⟨lw_r4, List.forall_mem_append.mpr ⟨lw_r5, List.forall_mem_append.mpr ⟨lw_r6, lw_r7⟩⟩⟩⟩⟩⟩
-- names
def RX0 : String := "TalkBridge$Acts"
def TX0 : u_T := fun k => match k with
  | 0 => ("TalkBridge$Acts", "rows", "[I", true)
  | 1 => ("TalkBridge$Acts", "now", "I", false)
  | _ => ("TalkBridge$Acts", "last", "I", false)
def tyX0 : Nat → FieldType := fun k => match k with
  | 0 => .array .int
  | 1 => .int
  | _ => .int
abbrev wsX00 : List Cond := u_ws RX0 TX0 3
theorem nmX0 : ∀ a, a < 3 → ∀ b, b < 3 → a ≠ b → (TX0 a).2.1 ≠ (TX0 b).2.1 := by decide +kernel
theorem tyX0_ok : ∀ k, k < 3 → parseFieldDescriptor (TX0 k).2.2.1 = some (tyX0 k) := by decide +kernel
abbrev cX0_init : ByteArray := prog_2_method_1_code
def yX0_init : MethodName := ⟨RX0, "<init>", "()V"⟩
abbrev cX0_restart : ByteArray := prog_2_method_2_code
def yX0_restart : MethodName := ⟨RX0, "restart", "(LTalkBridge$Scene;)V"⟩
abbrev cX0_add : ByteArray := prog_2_method_3_code
def yX0_add : MethodName := ⟨RX0, "add", "(LTalkBridge$Scene;)V"⟩
abbrev cX0_step : ByteArray := prog_2_method_4_code
def yX0_step : MethodName := ⟨RX0, "step", "(LTalkBridge$Scene;I)Z"⟩
def RX1 : String := "TalkBridge$Formula"
def TX1 : u_T := fun k => match k with
  | 0 => ("TalkBridge$Formula", "code", "[I", true)
  | _ => ("TalkBridge$Formula", "size", "I", false)
def tyX1 : Nat → FieldType := fun k => match k with
  | 0 => .array .int
  | _ => .int
abbrev wsX10 : List Cond := u_ws RX1 TX1 2
theorem nmX1 : ∀ a, a < 2 → ∀ b, b < 2 → a ≠ b → (TX1 a).2.1 ≠ (TX1 b).2.1 := by decide +kernel
theorem tyX1_ok : ∀ k, k < 2 → parseFieldDescriptor (TX1 k).2.2.1 = some (tyX1 k) := by decide +kernel
abbrev cX1_init : ByteArray := prog_3_method_1_code
def yX1_init : MethodName := ⟨RX1, "<init>", "()V"⟩
abbrev cX1_clear : ByteArray := prog_3_method_2_code
def yX1_clear : MethodName := ⟨RX1, "clear", "()V"⟩
abbrev cX1_put : ByteArray := prog_3_method_3_code
def yX1_put : MethodName := ⟨RX1, "put", "(I)V"⟩
abbrev cX1_outcome : ByteArray := prog_3_method_4_code
def yX1_outcome : MethodName := ⟨RX1, "outcome", "([I[I)I"⟩
abbrev cX1_leaf : ByteArray := prog_3_method_5_code
def yX1_leaf : MethodName := ⟨RX1, "leaf", "(I[I)I"⟩
abbrev cX1_joined : ByteArray := prog_3_method_6_code
def yX1_joined : MethodName := ⟨RX1, "joined", "(III)I"⟩
def RX2 : String := "TalkBridge$Lantern"
def TX2 : u_T := fun k => match k with
  | 0 => ("TalkBridge$Lantern", "minutes", "I", false)
  | 1 => ("TalkBridge$Lantern", "crossings", "I", false)
  | 2 => ("TalkBridge$Lantern", "cost", "[J", true)
  | 3 => ("TalkBridge$Lantern", "settled", "[Z", true)
  | 4 => ("TalkBridge$Lantern", "time", "[I", true)
  | _ => ("TalkBridge$Lantern", "sets", "I", false)
def tyX2 : Nat → FieldType := fun k => match k with
  | 0 => .int
  | 1 => .int
  | 2 => .array .long
  | 3 => .array .boolean
  | 4 => .array .int
  | _ => .int
abbrev wsX20 : List Cond := u_ws RX2 TX2 6
theorem nmX2 : ∀ a, a < 6 → ∀ b, b < 6 → a ≠ b → (TX2 a).2.1 ≠ (TX2 b).2.1 := by decide +kernel
theorem tyX2_ok : ∀ k, k < 6 → parseFieldDescriptor (TX2 k).2.2.1 = some (tyX2 k) := by decide +kernel
abbrev cX2_init : ByteArray := prog_4_method_1_code
def yX2_init : MethodName := ⟨RX2, "<init>", "()V"⟩
abbrev cX2_find : ByteArray := prog_4_method_2_code
def yX2_find : MethodName := ⟨RX2, "find", "(LTalkBridge$Scene;)V"⟩
abbrev cX2_weighParties : ByteArray := prog_4_method_3_code
def yX2_weighParties : MethodName := ⟨RX2, "weighParties", "(LTalkBridge$Scene;)V"⟩
abbrev cX2_cheapest : ByteArray := prog_4_method_4_code
def yX2_cheapest : MethodName := ⟨RX2, "cheapest", "()I"⟩
abbrev cX2_goOnFrom : ByteArray := prog_4_method_5_code
def yX2_goOnFrom : MethodName := ⟨RX2, "goOnFrom", "(I)V"⟩
def RX3 : String := "TalkBridge$Reader"
def TX3 : u_T := fun k => match k with
  | 0 => ("TalkBridge$Reader", "tape", "LTalkBridge$Tape;", true)
  | 1 => ("TalkBridge$Reader", "fault", "I", false)
  | 2 => ("TalkBridge$Reader", "faultPlace", "I", false)
  | 3 => ("TalkBridge$Reader", "namePlace", "[I", true)
  | 4 => ("TalkBridge$Reader", "toldLines", "I", false)
  | _ => ("TalkBridge$Reader", "units", "I", false)
def tyX3 : Nat → FieldType := fun k => match k with
  | 0 => .object "TalkBridge$Tape"
  | 1 => .int
  | 2 => .int
  | 3 => .array .int
  | 4 => .int
  | _ => .int
abbrev wsX30 : List Cond := u_ws RX3 TX3 6
theorem nmX3 : ∀ a, a < 6 → ∀ b, b < 6 → a ≠ b → (TX3 a).2.1 ≠ (TX3 b).2.1 := by decide +kernel
theorem tyX3_ok : ∀ k, k < 6 → parseFieldDescriptor (TX3 k).2.2.1 = some (tyX3 k) := by decide +kernel
abbrev cX3_init : ByteArray := prog_5_method_1_code
def yX3_init : MethodName := ⟨RX3, "<init>", "()V"⟩
abbrev cX3_reads : ByteArray := prog_5_method_2_code
def yX3_reads : MethodName := ⟨RX3, "reads", "(LTalkBridge$River;)Z"⟩
abbrev cX3_readLine : ByteArray := prog_5_method_3_code
def yX3_readLine : MethodName := ⟨RX3, "readLine", "(LTalkBridge$River;)V"⟩
abbrev cX3_readPerson : ByteArray := prog_5_method_4_code
def yX3_readPerson : MethodName := ⟨RX3, "readPerson", "(LTalkBridge$River;)V"⟩
abbrev cX3_readMatter : ByteArray := prog_5_method_5_code
def yX3_readMatter : MethodName := ⟨RX3, "readMatter", "(LTalkBridge$River;)V"⟩
abbrev cX3_readBridge : ByteArray := prog_5_method_6_code
def yX3_readBridge : MethodName := ⟨RX3, "readBridge", "(LTalkBridge$River;)V"⟩
abbrev cX3_readFormula : ByteArray := prog_5_method_7_code
def yX3_readFormula : MethodName := ⟨RX3, "readFormula", "(LTalkBridge$River;LTalkBridge$Formula;)V"⟩
abbrev cX3_readEither : ByteArray := prog_5_method_8_code
def yX3_readEither : MethodName := ⟨RX3, "readEither", "(LTalkBridge$Formula;I)V"⟩
abbrev cX3_readBoth : ByteArray := prog_5_method_9_code
def yX3_readBoth : MethodName := ⟨RX3, "readBoth", "(LTalkBridge$Formula;I)V"⟩
abbrev cX3_readOne : ByteArray := prog_5_method_10_code
def yX3_readOne : MethodName := ⟨RX3, "readOne", "(LTalkBridge$Formula;I)V"⟩
abbrev cX3_readSum : ByteArray := prog_5_method_11_code
def yX3_readSum : MethodName := ⟨RX3, "readSum", "(LTalkBridge$Formula;I)V"⟩
abbrev cX3_readTerm : ByteArray := prog_5_method_12_code
def yX3_readTerm : MethodName := ⟨RX3, "readTerm", "(LTalkBridge$Formula;I)V"⟩
abbrev cX3_readUnit : ByteArray := prog_5_method_13_code
def yX3_readUnit : MethodName := ⟨RX3, "readUnit", "(LTalkBridge$Formula;I)V"⟩
abbrev cX3_tellOnce : ByteArray := prog_5_method_14_code
def yX3_tellOnce : MethodName := ⟨RX3, "tellOnce", "()V"⟩
abbrev cX3_readNumber : ByteArray := prog_5_method_15_code
def yX3_readNumber : MethodName := ⟨RX3, "readNumber", "(II)I"⟩
abbrev cX3_readKnown : ByteArray := prog_5_method_16_code
def yX3_readKnown : MethodName := ⟨RX3, "readKnown", "(LTalkBridge$River;I)I"⟩
abbrev cX3_knownName : ByteArray := prog_5_method_17_code
def yX3_knownName : MethodName := ⟨RX3, "knownName", "(LTalkBridge$River;)I"⟩
abbrev cX3_takes : ByteArray := prog_5_method_18_code
def yX3_takes : MethodName := ⟨RX3, "takes", "(I)Z"⟩
abbrev cX3_expect : ByteArray := prog_5_method_19_code
def yX3_expect : MethodName := ⟨RX3, "expect", "(I)V"⟩
abbrev cX3_stop : ByteArray := prog_5_method_20_code
def yX3_stop : MethodName := ⟨RX3, "stop", "(I)V"⟩
def RX4 : String := "TalkBridge$River"
def TX4 : u_T := fun k => match k with
  | 0 => ("TalkBridge$River", "pace", "[I", true)
  | 1 => ("TalkBridge$River", "purse", "[I", true)
  | 2 => ("TalkBridge$River", "from", "[I", true)
  | 3 => ("TalkBridge$River", "to", "[I", true)
  | 4 => ("TalkBridge$River", "size", "[I", true)
  | 5 => ("TalkBridge$River", "length", "LTalkBridge$Formula;", true)
  | 6 => ("TalkBridge$River", "toll", "LTalkBridge$Formula;", true)
  | 7 => ("TalkBridge$River", "persons", "I", false)
  | 8 => ("TalkBridge$River", "over", "I", false)
  | 9 => ("TalkBridge$River", "matters", "I", false)
  | 10 => ("TalkBridge$River", "lying", "I", false)
  | 11 => ("TalkBridge$River", "steps", "I", false)
  | 12 => ("TalkBridge$River", "bears", "I", false)
  | 13 => ("TalkBridge$River", "mends", "I", false)
  | 14 => ("TalkBridge$River", "room", "I", false)
  | 15 => ("TalkBridge$River", "turns", "I", false)
  | 16 => ("TalkBridge$River", "draw", "I", false)
  | _ => ("TalkBridge$River", "units", "I", false)
def tyX4 : Nat → FieldType := fun k => match k with
  | 0 => .array .int
  | 1 => .array .int
  | 2 => .array .int
  | 3 => .array .int
  | 4 => .array .int
  | 5 => .object "TalkBridge$Formula"
  | 6 => .object "TalkBridge$Formula"
  | 7 => .int
  | 8 => .int
  | 9 => .int
  | 10 => .int
  | 11 => .int
  | 12 => .int
  | 13 => .int
  | 14 => .int
  | 15 => .int
  | 16 => .int
  | _ => .int
abbrev wsX40 : List Cond := u_ws RX4 TX4 18
theorem nmX4 : ∀ a, a < 18 → ∀ b, b < 18 → a ≠ b → (TX4 a).2.1 ≠ (TX4 b).2.1 := by decide +kernel
theorem tyX4_ok : ∀ k, k < 18 → parseFieldDescriptor (TX4 k).2.2.1 = some (tyX4 k) := by decide +kernel
abbrev cX4_init : ByteArray := prog_6_method_1_code
def yX4_init : MethodName := ⟨RX4, "<init>", "()V"⟩
abbrev cX4_clear : ByteArray := prog_6_method_2_code
def yX4_clear : MethodName := ⟨RX4, "clear", "()V"⟩
abbrev cX4_addPerson : ByteArray := prog_6_method_3_code
def yX4_addPerson : MethodName := ⟨RX4, "addPerson", "(IIZ)V"⟩
abbrev cX4_addMatter : ByteArray := prog_6_method_4_code
def yX4_addMatter : MethodName := ⟨RX4, "addMatter", "(IIIZ)V"⟩
abbrev cX4_ends : ByteArray := prog_6_method_5_code
def yX4_ends : MethodName := ⟨RX4, "ends", "(I)I"⟩
abbrev cX4_wordsIn : ByteArray := prog_6_method_6_code
def yX4_wordsIn : MethodName := ⟨RX4, "wordsIn", "(I)I"⟩
abbrev cX4_truthsIn : ByteArray := prog_6_method_7_code
def yX4_truthsIn : MethodName := ⟨RX4, "truthsIn", "(I)I"⟩
abbrev cX4_falseIn : ByteArray := prog_6_method_8_code
def yX4_falseIn : MethodName := ⟨RX4, "falseIn", "(I)I"⟩
abbrev cX4_slowest : ByteArray := prog_6_method_9_code
def yX4_slowest : MethodName := ⟨RX4, "slowest", "(I)I"⟩
def RX5 : String := "TalkBridge$Scene"
def TX5 : u_T := fun k => match k with
  | 0 => ("TalkBridge$Scene", "plan", "LTalkBridge$River;", false)
  | 1 => ("TalkBridge$Scene", "coins", "[I", true)
  | 2 => ("TalkBridge$Scene", "heard", "[I", true)
  | 3 => ("TalkBridge$Scene", "said", "I", false)
  | 4 => ("TalkBridge$Scene", "far", "I", false)
  | 5 => ("TalkBridge$Scene", "minute", "I", false)
  | 6 => ("TalkBridge$Scene", "seed", "I", false)
  | 7 => ("TalkBridge$Scene", "broken", "Z", false)
  | 8 => ("TalkBridge$Scene", "units", "[I", true)
  | _ => ("TalkBridge$Scene", "stack", "[I", true)
def tyX5 : Nat → FieldType := fun k => match k with
  | 0 => .object "TalkBridge$River"
  | 1 => .array .int
  | 2 => .array .int
  | 3 => .int
  | 4 => .int
  | 5 => .int
  | 6 => .int
  | 7 => .boolean
  | 8 => .array .int
  | _ => .array .int
abbrev wsX50 : List Cond := u_ws RX5 TX5 10
theorem nmX5 : ∀ a, a < 10 → ∀ b, b < 10 → a ≠ b → (TX5 a).2.1 ≠ (TX5 b).2.1 := by decide +kernel
theorem tyX5_ok : ∀ k, k < 10 → parseFieldDescriptor (TX5 k).2.2.1 = some (tyX5 k) := by decide +kernel
abbrev cX5_init : ByteArray := prog_7_method_1_code
def yX5_init : MethodName := ⟨RX5, "<init>", "()V"⟩
abbrev cX5_begin : ByteArray := prog_7_method_2_code
def yX5_begin : MethodName := ⟨RX5, "begin", "(LTalkBridge$River;)V"⟩
abbrev cX5_store : ByteArray := prog_7_method_3_code
def yX5_store : MethodName := ⟨RX5, "store", "([II)V"⟩
abbrev cX5_fetch : ByteArray := prog_7_method_4_code
def yX5_fetch : MethodName := ⟨RX5, "fetch", "([II)V"⟩
abbrev cX5_isPerson : ByteArray := prog_7_method_5_code
def yX5_isPerson : MethodName := ⟨RX5, "isPerson", "(I)Z"⟩
abbrev cX5_isMatter : ByteArray := prog_7_method_6_code
def yX5_isMatter : MethodName := ⟨RX5, "isMatter", "(I)Z"⟩
abbrev cX5_areTogether : ByteArray := prog_7_method_7_code
def yX5_areTogether : MethodName := ⟨RX5, "areTogether", "(II)Z"⟩
abbrev cX5_sets : ByteArray := prog_7_method_8_code
def yX5_sets : MethodName := ⟨RX5, "sets", "()I"⟩
abbrev cX5_isGroup : ByteArray := prog_7_method_9_code
def yX5_isGroup : MethodName := ⟨RX5, "isGroup", "(I)Z"⟩
abbrev cX5_isGroupOn : ByteArray := prog_7_method_10_code
def yX5_isGroupOn : MethodName := ⟨RX5, "isGroupOn", "(II)Z"⟩
abbrev cX5_isParty : ByteArray := prog_7_method_11_code
def yX5_isParty : MethodName := ⟨RX5, "isParty", "(I)Z"⟩
abbrev cX5_heardBy : ByteArray := prog_7_method_12_code
def yX5_heardBy : MethodName := ⟨RX5, "heardBy", "(I)I"⟩
abbrev cX5_unsaidWith : ByteArray := prog_7_method_13_code
def yX5_unsaidWith : MethodName := ⟨RX5, "unsaidWith", "(I)I"⟩
abbrev cX5_talkOf : ByteArray := prog_7_method_14_code
def yX5_talkOf : MethodName := ⟨RX5, "talkOf", "(I)I"⟩
abbrev cX5_lengthOf : ByteArray := prog_7_method_15_code
def yX5_lengthOf : MethodName := ⟨RX5, "lengthOf", "(III)I"⟩
abbrev cX5_timeOf : ByteArray := prog_7_method_16_code
def yX5_timeOf : MethodName := ⟨RX5, "timeOf", "(II)I"⟩
abbrev cX5_timeAt : ByteArray := prog_7_method_17_code
def yX5_timeAt : MethodName := ⟨RX5, "timeAt", "(III)I"⟩
abbrev cX5_tollOf : ByteArray := prog_7_method_18_code
def yX5_tollOf : MethodName := ⟨RX5, "tollOf", "(I)I"⟩
abbrev cX5_fillUnits : ByteArray := prog_7_method_19_code
def yX5_fillUnits : MethodName := ⟨RX5, "fillUnits", "(IIII)V"⟩
abbrev cX5_lackOf : ByteArray := prog_7_method_20_code
def yX5_lackOf : MethodName := ⟨RX5, "lackOf", "(I)I"⟩
abbrev cX5_pay : ByteArray := prog_7_method_21_code
def yX5_pay : MethodName := ⟨RX5, "pay", "(II)V"⟩
abbrev cX5_hear : ByteArray := prog_7_method_22_code
def yX5_hear : MethodName := ⟨RX5, "hear", "(II)V"⟩
abbrev cX5_walk : ByteArray := prog_7_method_23_code
def yX5_walk : MethodName := ⟨RX5, "walk", "(II)Z"⟩
def RX6 : String := "TalkBridge$Tape"
def TX6 : u_T := fun k => match k with
  | 0 => ("TalkBridge$Tape", "length", "I", false)
  | 1 => ("TalkBridge$Tape", "kind", "I", false)
  | 2 => ("TalkBridge$Tape", "place", "I", false)
  | 3 => ("TalkBridge$Tape", "bytes", "[B", true)
  | _ => ("TalkBridge$Tape", "kinds", "[B", true)
def tyX6 : Nat → FieldType := fun k => match k with
  | 0 => .int
  | 1 => .int
  | 2 => .int
  | 3 => .array .byte
  | _ => .array .byte
abbrev wsX60 : List Cond := u_ws RX6 TX6 5
theorem nmX6 : ∀ a, a < 5 → ∀ b, b < 5 → a ≠ b → (TX6 a).2.1 ≠ (TX6 b).2.1 := by decide +kernel
theorem tyX6_ok : ∀ k, k < 5 → parseFieldDescriptor (TX6 k).2.2.1 = some (tyX6 k) := by decide +kernel
abbrev cX6_init : ByteArray := prog_8_method_1_code
def yX6_init : MethodName := ⟨RX6, "<init>", "()V"⟩
abbrev cX6_put : ByteArray := prog_8_method_2_code
def yX6_put : MethodName := ⟨RX6, "put", "(I)V"⟩
abbrev cX6_rewind : ByteArray := prog_8_method_3_code
def yX6_rewind : MethodName := ⟨RX6, "rewind", "()V"⟩
abbrev cX6_advance : ByteArray := prog_8_method_4_code
def yX6_advance : MethodName := ⟨RX6, "advance", "()V"⟩
abbrev cX6_mark : ByteArray := prog_8_method_5_code
def yX6_mark : MethodName := ⟨RX6, "mark", "(I)I"⟩
abbrev cX6_wordKind : ByteArray := prog_8_method_6_code
def yX6_wordKind : MethodName := ⟨RX6, "wordKind", "(II)I"⟩
abbrev cX6_number : ByteArray := prog_8_method_7_code
def yX6_number : MethodName := ⟨RX6, "number", "()I"⟩
abbrev cX6_isLike : ByteArray := prog_8_method_8_code
def yX6_isLike : MethodName := ⟨RX6, "isLike", "(I)Z"⟩
abbrev cX6_isLetter : ByteArray := prog_8_method_9_code
def yX6_isLetter : MethodName := ⟨RX6, "isLetter", "(I)Z"⟩
abbrev cX6_isDigit : ByteArray := prog_8_method_10_code
def yX6_isDigit : MethodName := ⟨RX6, "isDigit", "(I)Z"⟩
abbrev cX6_byteAt : ByteArray := prog_8_method_11_code
def yX6_byteAt : MethodName := ⟨RX6, "byteAt", "(I)I"⟩
def RX7 : String := "TalkBridge$Telling"
def TX7 : u_T := fun k => match k with
  | 0 => ("TalkBridge$Telling", "count", "I", false)
  | 1 => ("TalkBridge$Telling", "clock", "I", false)
  | 2 => ("TalkBridge$Telling", "sort", "[I", true)
  | 3 => ("TalkBridge$Telling", "value", "[I", true)
  | 4 => ("TalkBridge$Telling", "toldAt", "[I", true)
  | 5 => ("TalkBridge$Telling", "untoldAt", "[I", true)
  | _ => ("TalkBridge$Telling", "affirmed", "I", false)
def tyX7 : Nat → FieldType := fun k => match k with
  | 0 => .int
  | 1 => .int
  | 2 => .array .int
  | 3 => .array .int
  | 4 => .array .int
  | 5 => .array .int
  | _ => .int
abbrev wsX70 : List Cond := u_ws RX7 TX7 7
theorem nmX7 : ∀ a, a < 7 → ∀ b, b < 7 → a ≠ b → (TX7 a).2.1 ≠ (TX7 b).2.1 := by decide +kernel
theorem tyX7_ok : ∀ k, k < 7 → parseFieldDescriptor (TX7 k).2.2.1 = some (tyX7 k) := by decide +kernel
abbrev cX7_init : ByteArray := prog_9_method_1_code
def yX7_init : MethodName := ⟨RX7, "<init>", "()V"⟩
abbrev cX7_clear : ByteArray := prog_9_method_2_code
def yX7_clear : MethodName := ⟨RX7, "clear", "()V"⟩
abbrev cX7_tell : ByteArray := prog_9_method_3_code
def yX7_tell : MethodName := ⟨RX7, "tell", "(IIZ)I"⟩
abbrev cX7_takeBack : ByteArray := prog_9_method_4_code
def yX7_takeBack : MethodName := ⟨RX7, "takeBack", "(I)Z"⟩
abbrev cX7_goOn : ByteArray := prog_9_method_5_code
def yX7_goOn : MethodName := ⟨RX7, "goOn", "(I)I"⟩
abbrev cX7_allows : ByteArray := prog_9_method_6_code
def yX7_allows : MethodName := ⟨RX7, "allows", "(III)Z"⟩
abbrev cX7_isSo : ByteArray := prog_9_method_7_code
def yX7_isSo : MethodName := ⟨RX7, "isSo", "(III)Z"⟩
def RX8 : String := "TalkBridge$Ways"
def TX8 : u_T := fun k => match k with
  | 0 => ("TalkBridge$Ways", "lie", "[I", true)
  | 1 => ("TalkBridge$Ways", "lying", "I", false)
  | 2 => ("TalkBridge$Ways", "bestMinutes", "I", false)
  | 3 => ("TalkBridge$Ways", "bestParts", "I", false)
  | 4 => ("TalkBridge$Ways", "minutes", "[I", true)
  | 5 => ("TalkBridge$Ways", "talk", "[I", true)
  | 6 => ("TalkBridge$Ways", "part", "[I", true)
  | 7 => ("TalkBridge$Ways", "best", "[I", true)
  | 8 => ("TalkBridge$Ways", "persons", "I", false)
  | 9 => ("TalkBridge$Ways", "near", "I", false)
  | _ => ("TalkBridge$Ways", "allSaid", "Z", false)
def tyX8 : Nat → FieldType := fun k => match k with
  | 0 => .array .int
  | 1 => .int
  | 2 => .int
  | 3 => .int
  | 4 => .array .int
  | 5 => .array .int
  | 6 => .array .int
  | 7 => .array .int
  | 8 => .int
  | 9 => .int
  | _ => .boolean
abbrev wsX80 : List Cond := u_ws RX8 TX8 11
theorem nmX8 : ∀ a, a < 11 → ∀ b, b < 11 → a ≠ b → (TX8 a).2.1 ≠ (TX8 b).2.1 := by decide +kernel
theorem tyX8_ok : ∀ k, k < 11 → parseFieldDescriptor (TX8 k).2.2.1 = some (tyX8 k) := by decide +kernel
abbrev cX8_init : ByteArray := prog_10_method_1_code
def yX8_init : MethodName := ⟨RX8, "<init>", "()V"⟩
abbrev cX8_find : ByteArray := prog_10_method_2_code
def yX8_find : MethodName := ⟨RX8, "find", "(LTalkBridge$Scene;Z)V"⟩
abbrev cX8_weighGroups : ByteArray := prog_10_method_3_code
def yX8_weighGroups : MethodName := ⟨RX8, "weighGroups", "(LTalkBridge$Scene;)V"⟩
abbrev cX8_place : ByteArray := prog_10_method_4_code
def yX8_place : MethodName := ⟨RX8, "place", "(II)V"⟩
abbrev cX8_weigh : ByteArray := prog_10_method_5_code
def yX8_weigh : MethodName := ⟨RX8, "weigh", "(I)V"⟩
abbrev cX8_layDown : ByteArray := prog_10_method_6_code
def yX8_layDown : MethodName := ⟨RX8, "layDown", "()V"⟩
def RX9 : String := "TalkBridge"
def TX9 : u_T := fun k => match k with
  | 0 => ("TalkBridge", "reader", "LTalkBridge$Reader;", true)
  | 1 => ("TalkBridge", "scene", "LTalkBridge$Scene;", true)
  | 2 => ("TalkBridge", "acts", "LTalkBridge$Acts;", true)
  | 3 => ("TalkBridge", "ways", "LTalkBridge$Ways;", true)
  | 4 => ("TalkBridge", "light", "LTalkBridge$Lantern;", true)
  | 5 => ("TalkBridge", "telling", "LTalkBridge$Telling;", true)
  | 6 => ("TalkBridge", "boxes", "[I", true)
  | 7 => ("TalkBridge", "fitting", "[I", true)
  | 8 => ("TalkBridge", "spare", "LTalkBridge$River;", false)
  | _ => ("TalkBridge", "boxesFull", "I", false)
def tyX9 : Nat → FieldType := fun k => match k with
  | 0 => .object "TalkBridge$Reader"
  | 1 => .object "TalkBridge$Scene"
  | 2 => .object "TalkBridge$Acts"
  | 3 => .object "TalkBridge$Ways"
  | 4 => .object "TalkBridge$Lantern"
  | 5 => .object "TalkBridge$Telling"
  | 6 => .array .int
  | 7 => .array .int
  | 8 => .object "TalkBridge$River"
  | _ => .int
abbrev wsX90 : List Cond := u_ws RX9 TX9 10
theorem nmX9 : ∀ a, a < 10 → ∀ b, b < 10 → a ≠ b → (TX9 a).2.1 ≠ (TX9 b).2.1 := by decide +kernel
theorem tyX9_ok : ∀ k, k < 10 → parseFieldDescriptor (TX9 k).2.2.1 = some (tyX9 k) := by decide +kernel
abbrev cX9_init : ByteArray := prog_1_method_1_code
def yX9_init : MethodName := ⟨RX9, "<init>", "()V"⟩
abbrev cX9_feed : ByteArray := prog_1_method_2_code
def yX9_feed : MethodName := ⟨RX9, "feed", "(IIIII)I"⟩
abbrev cX9_end : ByteArray := prog_1_method_3_code
def yX9_end : MethodName := ⟨RX9, "end", "(I)I"⟩
abbrev cX9_river : ByteArray := prog_1_method_4_code
def yX9_river : MethodName := ⟨RX9, "river", "()I"⟩
abbrev cX9_fault : ByteArray := prog_1_method_5_code
def yX9_fault : MethodName := ⟨RX9, "fault", "(I)I"⟩
abbrev cX9_person : ByteArray := prog_1_method_6_code
def yX9_person : MethodName := ⟨RX9, "person", "(II)I"⟩
abbrev cX9_matter : ByteArray := prog_1_method_7_code
def yX9_matter : MethodName := ⟨RX9, "matter", "(II)I"⟩
abbrev cX9_group : ByteArray := prog_1_method_8_code
def yX9_group : MethodName := ⟨RX9, "group", "(II)I"⟩
abbrev cX9_about : ByteArray := prog_1_method_9_code
def yX9_about : MethodName := ⟨RX9, "about", "(I)I"⟩
abbrev cX9_aboutPlan : ByteArray := prog_1_method_10_code
def yX9_aboutPlan : MethodName := ⟨RX9, "aboutPlan", "(I)I"⟩
abbrev cX9_cross : ByteArray := prog_1_method_11_code
def yX9_cross : MethodName := ⟨RX9, "cross", "(I)I"⟩
abbrev cX9_mend : ByteArray := prog_1_method_12_code
def yX9_mend : MethodName := ⟨RX9, "mend", "()I"⟩
abbrev cX9_hand : ByteArray := prog_1_method_13_code
def yX9_hand : MethodName := ⟨RX9, "hand", "(III)I"⟩
abbrev cX9_again : ByteArray := prog_1_method_14_code
def yX9_again : MethodName := ⟨RX9, "again", "(I)I"⟩
abbrev cX9_undo : ByteArray := prog_1_method_15_code
def yX9_undo : MethodName := ⟨RX9, "undo", "()Z"⟩
abbrev cX9_redo : ByteArray := prog_1_method_16_code
def yX9_redo : MethodName := ⟨RX9, "redo", "()Z"⟩
abbrev cX9_soonest : ByteArray := prog_1_method_17_code
def yX9_soonest : MethodName := ⟨RX9, "soonest", "()I"⟩
abbrev cX9_silent : ByteArray := prog_1_method_18_code
def yX9_silent : MethodName := ⟨RX9, "silent", "(I)I"⟩
abbrev cX9_lantern : ByteArray := prog_1_method_19_code
def yX9_lantern : MethodName := ⟨RX9, "lantern", "(I)I"⟩
abbrev cX9_lies : ByteArray := prog_1_method_20_code
def yX9_lies : MethodName := ⟨RX9, "lies", "(I)I"⟩
abbrev cX9_single : ByteArray := prog_1_method_21_code
def yX9_single : MethodName := ⟨RX9, "single", "()I"⟩
abbrev cX9_partner : ByteArray := prog_1_method_22_code
def yX9_partner : MethodName := ⟨RX9, "partner", "(II)I"⟩
abbrev cX9_hush : ByteArray := prog_1_method_23_code
def yX9_hush : MethodName := ⟨RX9, "hush", "(II)I"⟩
abbrev cX9_keep : ByteArray := prog_1_method_24_code
def yX9_keep : MethodName := ⟨RX9, "keep", "(III)I"⟩
abbrev cX9_lacks : ByteArray := prog_1_method_25_code
def yX9_lacks : MethodName := ⟨RX9, "lacks", "(I)I"⟩
abbrev cX9_split : ByteArray := prog_1_method_26_code
def yX9_split : MethodName := ⟨RX9, "split", "(II)I"⟩
abbrev cX9_bear : ByteArray := prog_1_method_27_code
def yX9_bear : MethodName := ⟨RX9, "bear", "(I)I"⟩
abbrev cX9_ears : ByteArray := prog_1_method_28_code
def yX9_ears : MethodName := ⟨RX9, "ears", "(I)I"⟩
abbrev cX9_worth : ByteArray := prog_1_method_29_code
def yX9_worth : MethodName := ⟨RX9, "worth", "(I)I"⟩
abbrev cX9_payers : ByteArray := prog_1_method_30_code
def yX9_payers : MethodName := ⟨RX9, "payers", "(I)I"⟩
abbrev cX9_quiet : ByteArray := prog_1_method_31_code
def yX9_quiet : MethodName := ⟨RX9, "quiet", "(I)I"⟩
abbrev cX9_frail : ByteArray := prog_1_method_32_code
def yX9_frail : MethodName := ⟨RX9, "frail", "(I)I"⟩
abbrev cX9_within : ByteArray := prog_1_method_33_code
def yX9_within : MethodName := ⟨RX9, "within", "(II)I"⟩
abbrev cX9_longest : ByteArray := prog_1_method_34_code
def yX9_longest : MethodName := ⟨RX9, "longest", "(I)I"⟩
abbrev cX9_voice : ByteArray := prog_1_method_35_code
def yX9_voice : MethodName := ⟨RX9, "voice", "(II)I"⟩
abbrev cX9_rich : ByteArray := prog_1_method_36_code
def yX9_rich : MethodName := ⟨RX9, "rich", "(I)I"⟩
abbrev cX9_friends : ByteArray := prog_1_method_37_code
def yX9_friends : MethodName := ⟨RX9, "friends", "(I)I"⟩
abbrev cX9_talker : ByteArray := prog_1_method_38_code
def yX9_talker : MethodName := ⟨RX9, "talker", "()I"⟩
abbrev cX9_mute : ByteArray := prog_1_method_39_code
def yX9_mute : MethodName := ⟨RX9, "mute", "()I"⟩
abbrev cX9_apart : ByteArray := prog_1_method_40_code
def yX9_apart : MethodName := ⟨RX9, "apart", "()I"⟩
abbrev cX9_knowing : ByteArray := prog_1_method_41_code
def yX9_knowing : MethodName := ⟨RX9, "knowing", "()I"⟩
abbrev cX9_odds : ByteArray := prog_1_method_42_code
def yX9_odds : MethodName := ⟨RX9, "odds", "(II)I"⟩
abbrev cX9_took : ByteArray := prog_1_method_43_code
def yX9_took : MethodName := ⟨RX9, "took", "(IZ)I"⟩
abbrev cX9_was : ByteArray := prog_1_method_44_code
def yX9_was : MethodName := ⟨RX9, "was", "(IZ)I"⟩
abbrev cX9_were : ByteArray := prog_1_method_45_code
def yX9_were : MethodName := ⟨RX9, "were", "(IZ)I"⟩
abbrev cX9_untell : ByteArray := prog_1_method_46_code
def yX9_untell : MethodName := ⟨RX9, "untell", "(I)Z"⟩
abbrev cX9_later : ByteArray := prog_1_method_47_code
def yX9_later : MethodName := ⟨RX9, "later", "(I)I"⟩
abbrev cX9_fits : ByteArray := prog_1_method_48_code
def yX9_fits : MethodName := ⟨RX9, "fits", "(I)I"⟩
abbrev cX9_sure : ByteArray := prog_1_method_49_code
def yX9_sure : MethodName := ⟨RX9, "sure", "(II)I"⟩
abbrev cX9_ask : ByteArray := prog_1_method_50_code
def yX9_ask : MethodName := ⟨RX9, "ask", "(II)I"⟩
abbrev cX9_image : ByteArray := prog_1_method_51_code
def yX9_image : MethodName := ⟨RX9, "image", "(I)I"⟩
abbrev cX9_back : ByteArray := prog_1_method_52_code
def yX9_back : MethodName := ⟨RX9, "back", "(I)I"⟩
abbrev cX9_isFirstOrSecond : ByteArray := prog_1_method_53_code
def yX9_isFirstOrSecond : MethodName := ⟨RX9, "isFirstOrSecond", "(I)Z"⟩
abbrev cX9_areMinutes : ByteArray := prog_1_method_54_code
def yX9_areMinutes : MethodName := ⟨RX9, "areMinutes", "(I)Z"⟩
abbrev cX9_greatestShared : ByteArray := prog_1_method_55_code
def yX9_greatestShared : MethodName := ⟨RX9, "greatestShared", "(II)I"⟩
abbrev cX9_howMany : ByteArray := prog_1_method_56_code
def yX9_howMany : MethodName := ⟨RX9, "howMany", "(III)I"⟩
abbrev cX9_isOfSort : ByteArray := prog_1_method_57_code
def yX9_isOfSort : MethodName := ⟨RX9, "isOfSort", "(III)Z"⟩
abbrev cX9_countFitting : ByteArray := prog_1_method_58_code
def yX9_countFitting : MethodName := ⟨RX9, "countFitting", "(I)I"⟩
def RX10 : String := "TalkBridgeModel"
def TX10 : u_T := fun k => match k with
  | 0 => ("TalkBridgeModel", "tape", "[B", true)
  | 1 => ("TalkBridgeModel", "text", "[B", true)
  | 2 => ("TalkBridgeModel", "taped", "I", false)
  | 3 => ("TalkBridgeModel", "size", "I", false)
  | 4 => ("TalkBridgeModel", "faultKind", "I", false)
  | 5 => ("TalkBridgeModel", "faultPlace", "I", false)
  | 6 => ("TalkBridgeModel", "at", "I", false)
  | 7 => ("TalkBridgeModel", "end", "I", false)
  | 8 => ("TalkBridgeModel", "token", "I", false)
  | 9 => ("TalkBridgeModel", "number", "I", false)
  | 10 => ("TalkBridgeModel", "name", "J", false)
  | 11 => ("TalkBridgeModel", "persons", "[I", true)
  | 12 => ("TalkBridgeModel", "matters", "[I", true)
  | 13 => ("TalkBridgeModel", "units", "[I", true)
  | 14 => ("TalkBridgeModel", "steps", "[I", true)
  | 15 => ("TalkBridgeModel", "bears", "[I", true)
  | 16 => ("TalkBridgeModel", "mends", "[I", true)
  | 17 => ("TalkBridgeModel", "room", "[I", true)
  | 18 => ("TalkBridgeModel", "back", "[I", true)
  | 19 => ("TalkBridgeModel", "draw", "[I", true)
  | 20 => ("TalkBridgeModel", "far", "[I", true)
  | 21 => ("TalkBridgeModel", "pace", "[I", true)
  | 22 => ("TalkBridgeModel", "coins", "[I", true)
  | 23 => ("TalkBridgeModel", "of", "[I", true)
  | 24 => ("TalkBridgeModel", "to", "[I", true)
  | 25 => ("TalkBridgeModel", "words", "[I", true)
  | 26 => ("TalkBridgeModel", "isLie", "[I", true)
  | 27 => ("TalkBridgeModel", "ruleFrom", "[I", true)
  | 28 => ("TalkBridgeModel", "ruleTo", "[I", true)
  | 29 => ("TalkBridgeModel", "told", "[I", true)
  | 30 => ("TalkBridgeModel", "pName", "[J", true)
  | 31 => ("TalkBridgeModel", "code", "[I", true)
  | 32 => ("TalkBridgeModel", "codeNumber", "[I", true)
  | 33 => ("TalkBridgeModel", "eWhat", "[I", true)
  | 34 => ("TalkBridgeModel", "eSign", "[I", true)
  | 35 => ("TalkBridgeModel", "pile", "[I", true)
  | 36 => ("TalkBridgeModel", "bank", "I", false)
  | 37 => ("TalkBridgeModel", "rb", "I", false)
  | 38 => ("TalkBridgeModel", "codes", "I", false)
  | 39 => ("TalkBridgeModel", "within", "I", false)
  | 40 => ("TalkBridgeModel", "piled", "I", false)
  | 41 => ("TalkBridgeModel", "unitsInRule", "I", false)
  | 42 => ("TalkBridgeModel", "askWords", "I", false)
  | 43 => ("TalkBridgeModel", "askLies", "I", false)
  | 44 => ("TalkBridgeModel", "askMany", "I", false)
  | 45 => ("TalkBridgeModel", "askLength", "I", false)
  | 46 => ("TalkBridgeModel", "all", "[I", true)
  | 47 => ("TalkBridgeModel", "before", "[I", true)
  | 48 => ("TalkBridgeModel", "acts", "I", false)
  | 49 => ("TalkBridgeModel", "undone", "I", false)
  | 50 => ("TalkBridgeModel", "times", "[I", true)
  | 51 => ("TalkBridgeModel", "groupOf", "[I", true)
  | 52 => ("TalkBridgeModel", "setOf", "[I", true)
  | 53 => ("TalkBridgeModel", "laidRow", "[I", true)
  | 54 => ("TalkBridgeModel", "nearOnes", "[I", true)
  | 55 => ("TalkBridgeModel", "laid", "I", false)
  | 56 => ("TalkBridgeModel", "rowMinutes", "I", false)
  | 57 => ("TalkBridgeModel", "rowGroups", "I", false)
  | 58 => ("TalkBridgeModel", "weigh", "[I", true)
  | 59 => ("TalkBridgeModel", "sWhat", "[I", true)
  | 60 => ("TalkBridgeModel", "sMuch", "[I", true)
  | 61 => ("TalkBridgeModel", "sIs", "[I", true)
  | 62 => ("TalkBridgeModel", "sTold", "[I", true)
  | 63 => ("TalkBridgeModel", "sUntold", "[I", true)
  | 64 => ("TalkBridgeModel", "inFits", "[I", true)
  | 65 => ("TalkBridgeModel", "timed", "I", false)
  | 66 => ("TalkBridgeModel", "time", "I", false)
  | 67 => ("TalkBridgeModel", "fitting", "I", false)
  | 68 => ("TalkBridgeModel", "boxAll", "[I", true)
  | _ => ("TalkBridgeModel", "isBoxed", "[Z", true)
def tyX10 : Nat → FieldType := fun k => match k with
  | 0 => .array .byte
  | 1 => .array .byte
  | 2 => .int
  | 3 => .int
  | 4 => .int
  | 5 => .int
  | 6 => .int
  | 7 => .int
  | 8 => .int
  | 9 => .int
  | 10 => .long
  | 11 => .array .int
  | 12 => .array .int
  | 13 => .array .int
  | 14 => .array .int
  | 15 => .array .int
  | 16 => .array .int
  | 17 => .array .int
  | 18 => .array .int
  | 19 => .array .int
  | 20 => .array .int
  | 21 => .array .int
  | 22 => .array .int
  | 23 => .array .int
  | 24 => .array .int
  | 25 => .array .int
  | 26 => .array .int
  | 27 => .array .int
  | 28 => .array .int
  | 29 => .array .int
  | 30 => .array .long
  | 31 => .array .int
  | 32 => .array .int
  | 33 => .array .int
  | 34 => .array .int
  | 35 => .array .int
  | 36 => .int
  | 37 => .int
  | 38 => .int
  | 39 => .int
  | 40 => .int
  | 41 => .int
  | 42 => .int
  | 43 => .int
  | 44 => .int
  | 45 => .int
  | 46 => .array .int
  | 47 => .array .int
  | 48 => .int
  | 49 => .int
  | 50 => .array .int
  | 51 => .array .int
  | 52 => .array .int
  | 53 => .array .int
  | 54 => .array .int
  | 55 => .int
  | 56 => .int
  | 57 => .int
  | 58 => .array .int
  | 59 => .array .int
  | 60 => .array .int
  | 61 => .array .int
  | 62 => .array .int
  | 63 => .array .int
  | 64 => .array .int
  | 65 => .int
  | 66 => .int
  | 67 => .int
  | 68 => .array .int
  | _ => .array .boolean
abbrev wsX100 : List Cond := u_ws RX10 TX10 70
theorem nmX10 : ∀ a, a < 70 → ∀ b, b < 70 → a ≠ b → (TX10 a).2.1 ≠ (TX10 b).2.1 := by decide +kernel
theorem tyX10_ok : ∀ k, k < 70 → parseFieldDescriptor (TX10 k).2.2.1 = some (tyX10 k) := by decide +kernel
abbrev cX10_init : ByteArray := prog_12_method_1_code
def yX10_init : MethodName := ⟨RX10, "<init>", "()V"⟩
abbrev cX10_sign : ByteArray := prog_12_method_2_code
def yX10_sign : MethodName := ⟨RX10, "sign", "(I)I"⟩
abbrev cX10_isLetter : ByteArray := prog_12_method_3_code
def yX10_isLetter : MethodName := ⟨RX10, "isLetter", "(I)Z"⟩
abbrev cX10_isDigit : ByteArray := prog_12_method_4_code
def yX10_isDigit : MethodName := ⟨RX10, "isDigit", "(I)Z"⟩
abbrev cX10_fails : ByteArray := prog_12_method_5_code
def yX10_fails : MethodName := ⟨RX10, "fails", "(II)V"⟩
abbrev cX10_isGood : ByteArray := prog_12_method_6_code
def yX10_isGood : MethodName := ⟨RX10, "isGood", "()Z"⟩
abbrev cX10_isKept : ByteArray := prog_12_method_7_code
def yX10_isKept : MethodName := ⟨RX10, "isKept", "(J)Z"⟩
abbrev cX10_isSign : ByteArray := prog_12_method_8_code
def yX10_isSign : MethodName := ⟨RX10, "isSign", "(I)Z"⟩
abbrev cX10_goOn : ByteArray := prog_12_method_9_code
def yX10_goOn : MethodName := ⟨RX10, "goOn", "()V"⟩
abbrev cX10_isSignHere : ByteArray := prog_12_method_10_code
def yX10_isSignHere : MethodName := ⟨RX10, "isSignHere", "(I)Z"⟩
abbrev cX10_isWord : ByteArray := prog_12_method_11_code
def yX10_isWord : MethodName := ⟨RX10, "isWord", "(J)Z"⟩
abbrev cX10_misplaced : ByteArray := prog_12_method_12_code
def yX10_misplaced : MethodName := ⟨RX10, "misplaced", "()V"⟩
abbrev cX10_must : ByteArray := prog_12_method_13_code
def yX10_must : MethodName := ⟨RX10, "must", "(Z)V"⟩
abbrev cX10_numeral : ByteArray := prog_12_method_14_code
def yX10_numeral : MethodName := ⟨RX10, "numeral", "(II)I"⟩
abbrev cX10_passes : ByteArray := prog_12_method_15_code
def yX10_passes : MethodName := ⟨RX10, "passes", "(J)Z"⟩
abbrev cX10_clearBank : ByteArray := prog_12_method_16_code
def yX10_clearBank : MethodName := ⟨RX10, "clearBank", "()V"⟩
abbrev cX10_river : ByteArray := prog_12_method_17_code
def yX10_river : MethodName := ⟨RX10, "river", "()I"⟩
abbrev cX10_isTold : ByteArray := prog_12_method_18_code
def yX10_isTold : MethodName := ⟨RX10, "isTold", "(I)Z"⟩
abbrev cX10_isFull : ByteArray := prog_12_method_19_code
def yX10_isFull : MethodName := ⟨RX10, "isFull", "()Z"⟩
abbrev cX10_readLine : ByteArray := prog_12_method_20_code
def yX10_readLine : MethodName := ⟨RX10, "readLine", "()V"⟩
abbrev cX10_personHere : ByteArray := prog_12_method_21_code
def yX10_personHere : MethodName := ⟨RX10, "personHere", "()I"⟩
abbrev cX10_known : ByteArray := prog_12_method_22_code
def yX10_known : MethodName := ⟨RX10, "known", "(I)I"⟩
abbrev cX10_readPerson : ByteArray := prog_12_method_23_code
def yX10_readPerson : MethodName := ⟨RX10, "readPerson", "()V"⟩
abbrev cX10_readMatter : ByteArray := prog_12_method_24_code
def yX10_readMatter : MethodName := ⟨RX10, "readMatter", "()V"⟩
abbrev cX10_readBridge : ByteArray := prog_12_method_25_code
def yX10_readBridge : MethodName := ⟨RX10, "readBridge", "()V"⟩
abbrev cX10_readRule : ByteArray := prog_12_method_26_code
def yX10_readRule : MethodName := ⟨RX10, "readRule", "(I)V"⟩
abbrev cX10_emit : ByteArray := prog_12_method_27_code
def yX10_emit : MethodName := ⟨RX10, "emit", "(II)V"⟩
abbrev cX10_pushE : ByteArray := prog_12_method_28_code
def yX10_pushE : MethodName := ⟨RX10, "pushE", "(II)V"⟩
abbrev cX10_e : ByteArray := prog_12_method_29_code
def yX10_e : MethodName := ⟨RX10, "e", "()V"⟩
abbrev cX10_wordHere : ByteArray := prog_12_method_30_code
def yX10_wordHere : MethodName := ⟨RX10, "wordHere", "()I"⟩
abbrev cX10_unit : ByteArray := prog_12_method_31_code
def yX10_unit : MethodName := ⟨RX10, "unit", "()Z"⟩
abbrev cX10_rankHere : ByteArray := prog_12_method_32_code
def yX10_rankHere : MethodName := ⟨RX10, "rankHere", "()I"⟩
abbrev cX10_isCompared : ByteArray := prog_12_method_33_code
def yX10_isCompared : MethodName := ⟨RX10, "isCompared", "()Z"⟩
abbrev cX10_behindUnit : ByteArray := prog_12_method_34_code
def yX10_behindUnit : MethodName := ⟨RX10, "behindUnit", "()Z"⟩
abbrev cX10_two : ByteArray := prog_12_method_35_code
def yX10_two : MethodName := ⟨RX10, "two", "(III)I"⟩
abbrev cX10_asked : ByteArray := prog_12_method_36_code
def yX10_asked : MethodName := ⟨RX10, "asked", "(II)I"⟩
abbrev cX10_comes : ByteArray := prog_12_method_37_code
def yX10_comes : MethodName := ⟨RX10, "comes", "(I)I"⟩
abbrev cX10_fault : ByteArray := prog_12_method_38_code
def yX10_fault : MethodName := ⟨RX10, "fault", "(I)I"⟩
abbrev cX10_isIn : ByteArray := prog_12_method_39_code
def yX10_isIn : MethodName := ⟨RX10, "isIn", "(III)Z"⟩
abbrev cX10_held : ByteArray := prog_12_method_40_code
def yX10_held : MethodName := ⟨RX10, "held", "(III)I"⟩
abbrev cX10_has : ByteArray := prog_12_method_41_code
def yX10_has : MethodName := ⟨RX10, "has", "(II)Z"⟩
abbrev cX10_bitsOf : ByteArray := prog_12_method_42_code
def yX10_bitsOf : MethodName := ⟨RX10, "bitsOf", "(I)I"⟩
abbrev cX10_divisor : ByteArray := prog_12_method_43_code
def yX10_divisor : MethodName := ⟨RX10, "divisor", "(II)I"⟩
abbrev cX10_power : ByteArray := prog_12_method_44_code
def yX10_power : MethodName := ⟨RX10, "power", "(II)I"⟩
abbrev cX10_many : ByteArray := prog_12_method_45_code
def yX10_many : MethodName := ⟨RX10, "many", "()I"⟩
abbrev cX10_full : ByteArray := prog_12_method_46_code
def yX10_full : MethodName := ⟨RX10, "full", "()I"⟩
abbrev cX10_near : ByteArray := prog_12_method_47_code
def yX10_near : MethodName := ⟨RX10, "near", "()I"⟩
abbrev cX10_those : ByteArray := prog_12_method_48_code
def yX10_those : MethodName := ⟨RX10, "those", "(I)I"⟩
abbrev cX10_isPerson : ByteArray := prog_12_method_49_code
def yX10_isPerson : MethodName := ⟨RX10, "isPerson", "(I)Z"⟩
abbrev cX10_isMatter : ByteArray := prog_12_method_50_code
def yX10_isMatter : MethodName := ⟨RX10, "isMatter", "(I)Z"⟩
abbrev cX10_ofWhom : ByteArray := prog_12_method_51_code
def yX10_ofWhom : MethodName := ⟨RX10, "ofWhom", "(I)I"⟩
abbrev cX10_toWhom : ByteArray := prog_12_method_52_code
def yX10_toWhom : MethodName := ⟨RX10, "toWhom", "(I)I"⟩
abbrev cX10_both : ByteArray := prog_12_method_53_code
def yX10_both : MethodName := ⟨RX10, "both", "(I)I"⟩
abbrev cX10_startAnew : ByteArray := prog_12_method_54_code
def yX10_startAnew : MethodName := ⟨RX10, "startAnew", "()V"⟩
abbrev cX10_isGroup : ByteArray := prog_12_method_55_code
def yX10_isGroup : MethodName := ⟨RX10, "isGroup", "(I)Z"⟩
abbrev cX10_talkOf : ByteArray := prog_12_method_56_code
def yX10_talkOf : MethodName := ⟨RX10, "talkOf", "(I)I"⟩
abbrev cX10_wordsOf : ByteArray := prog_12_method_57_code
def yX10_wordsOf : MethodName := ⟨RX10, "wordsOf", "(II)I"⟩
abbrev cX10_slowest : ByteArray := prog_12_method_58_code
def yX10_slowest : MethodName := ⟨RX10, "slowest", "(I)I"⟩
abbrev cX10_lengthBy : ByteArray := prog_12_method_59_code
def yX10_lengthBy : MethodName := ⟨RX10, "lengthBy", "(II)I"⟩
abbrev cX10_timeBy : ByteArray := prog_12_method_60_code
def yX10_timeBy : MethodName := ⟨RX10, "timeBy", "(II)I"⟩
abbrev cX10_timeOf : ByteArray := prog_12_method_61_code
def yX10_timeOf : MethodName := ⟨RX10, "timeOf", "(I)I"⟩
abbrev cX10_tollOf : ByteArray := prog_12_method_62_code
def yX10_tollOf : MethodName := ⟨RX10, "tollOf", "(I)I"⟩
abbrev cX10_doesBreak : ByteArray := prog_12_method_63_code
def yX10_doesBreak : MethodName := ⟨RX10, "doesBreak", "(I)Z"⟩
abbrev cX10_canPay : ByteArray := prog_12_method_64_code
def yX10_canPay : MethodName := ⟨RX10, "canPay", "(I)Z"⟩
abbrev cX10_mattersOf : ByteArray := prog_12_method_65_code
def yX10_mattersOf : MethodName := ⟨RX10, "mattersOf", "(I)I"⟩
abbrev cX10_person : ByteArray := prog_12_method_66_code
def yX10_person : MethodName := ⟨RX10, "person", "(II)I"⟩
abbrev cX10_whoHeard : ByteArray := prog_12_method_67_code
def yX10_whoHeard : MethodName := ⟨RX10, "whoHeard", "(I)I"⟩
abbrev cX10_matter : ByteArray := prog_12_method_68_code
def yX10_matter : MethodName := ⟨RX10, "matter", "(II)I"⟩
abbrev cX10_group : ByteArray := prog_12_method_69_code
def yX10_group : MethodName := ⟨RX10, "group", "(II)I"⟩
abbrev cX10_keepAct : ByteArray := prog_12_method_70_code
def yX10_keepAct : MethodName := ⟨RX10, "keepAct", "()V"⟩
abbrev cX10_exchange : ByteArray := prog_12_method_71_code
def yX10_exchange : MethodName := ⟨RX10, "exchange", "()V"⟩
abbrev cX10_cross : ByteArray := prog_12_method_72_code
def yX10_cross : MethodName := ⟨RX10, "cross", "(I)I"⟩
abbrev cX10_mend : ByteArray := prog_12_method_73_code
def yX10_mend : MethodName := ⟨RX10, "mend", "()I"⟩
abbrev cX10_hand : ByteArray := prog_12_method_74_code
def yX10_hand : MethodName := ⟨RX10, "hand", "(III)I"⟩
abbrev cX10_again : ByteArray := prog_12_method_75_code
def yX10_again : MethodName := ⟨RX10, "again", "(I)I"⟩
abbrev cX10_undo : ByteArray := prog_12_method_76_code
def yX10_undo : MethodName := ⟨RX10, "undo", "()Z"⟩
abbrev cX10_redo : ByteArray := prog_12_method_77_code
def yX10_redo : MethodName := ⟨RX10, "redo", "()Z"⟩
abbrev cX10_lies : ByteArray := prog_12_method_78_code
def yX10_lies : MethodName := ⟨RX10, "lies", "(I)I"⟩
abbrev cX10_layTimes : ByteArray := prog_12_method_79_code
def yX10_layTimes : MethodName := ⟨RX10, "layTimes", "()V"⟩
abbrev cX10_layNear : ByteArray := prog_12_method_80_code
def yX10_layNear : MethodName := ⟨RX10, "layNear", "()I"⟩
abbrev cX10_nextRow : ByteArray := prog_12_method_81_code
def yX10_nextRow : MethodName := ⟨RX10, "nextRow", "(I)Z"⟩
abbrev cX10_isWay : ByteArray := prog_12_method_82_code
def yX10_isWay : MethodName := ⟨RX10, "isWay", "(I)Z"⟩
abbrev cX10_isAllSaid : ByteArray := prog_12_method_83_code
def yX10_isAllSaid : MethodName := ⟨RX10, "isAllSaid", "(I)Z"⟩
abbrev cX10_soonest : ByteArray := prog_12_method_84_code
def yX10_soonest : MethodName := ⟨RX10, "soonest", "()I"⟩
abbrev cX10_silent : ByteArray := prog_12_method_85_code
def yX10_silent : MethodName := ⟨RX10, "silent", "(I)I"⟩
abbrev cX10_goFrom : ByteArray := prog_12_method_86_code
def yX10_goFrom : MethodName := ⟨RX10, "goFrom", "(II)Z"⟩
abbrev cX10_lantern : ByteArray := prog_12_method_87_code
def yX10_lantern : MethodName := ⟨RX10, "lantern", "(I)I"⟩
abbrev cX10_partner : ByteArray := prog_12_method_88_code
def yX10_partner : MethodName := ⟨RX10, "partner", "(II)I"⟩
abbrev cX10_hush : ByteArray := prog_12_method_89_code
def yX10_hush : MethodName := ⟨RX10, "hush", "(II)I"⟩
abbrev cX10_keep : ByteArray := prog_12_method_90_code
def yX10_keep : MethodName := ⟨RX10, "keep", "(III)I"⟩
abbrev cX10_lacks : ByteArray := prog_12_method_91_code
def yX10_lacks : MethodName := ⟨RX10, "lacks", "(I)I"⟩
abbrev cX10_friends : ByteArray := prog_12_method_92_code
def yX10_friends : MethodName := ⟨RX10, "friends", "(I)I"⟩
abbrev cX10_split : ByteArray := prog_12_method_93_code
def yX10_split : MethodName := ⟨RX10, "split", "(II)I"⟩
abbrev cX10_bear : ByteArray := prog_12_method_94_code
def yX10_bear : MethodName := ⟨RX10, "bear", "(I)I"⟩
abbrev cX10_ears : ByteArray := prog_12_method_95_code
def yX10_ears : MethodName := ⟨RX10, "ears", "(I)I"⟩
abbrev cX10_worth : ByteArray := prog_12_method_96_code
def yX10_worth : MethodName := ⟨RX10, "worth", "(I)I"⟩
abbrev cX10_isSo : ByteArray := prog_12_method_97_code
def yX10_isSo : MethodName := ⟨RX10, "isSo", "(III)Z"⟩
abbrev cX10_countOf : ByteArray := prog_12_method_98_code
def yX10_countOf : MethodName := ⟨RX10, "countOf", "(III)I"⟩
abbrev cX10_payers : ByteArray := prog_12_method_99_code
def yX10_payers : MethodName := ⟨RX10, "payers", "(I)I"⟩
abbrev cX10_quiet : ByteArray := prog_12_method_100_code
def yX10_quiet : MethodName := ⟨RX10, "quiet", "(I)I"⟩
abbrev cX10_frail : ByteArray := prog_12_method_101_code
def yX10_frail : MethodName := ⟨RX10, "frail", "(I)I"⟩
abbrev cX10_within : ByteArray := prog_12_method_102_code
def yX10_within : MethodName := ⟨RX10, "within", "(II)I"⟩
abbrev cX10_longest : ByteArray := prog_12_method_103_code
def yX10_longest : MethodName := ⟨RX10, "longest", "(I)I"⟩
abbrev cX10_voice : ByteArray := prog_12_method_104_code
def yX10_voice : MethodName := ⟨RX10, "voice", "(II)I"⟩
abbrev cX10_rich : ByteArray := prog_12_method_105_code
def yX10_rich : MethodName := ⟨RX10, "rich", "(I)I"⟩
abbrev cX10_allWords : ByteArray := prog_12_method_106_code
def yX10_allWords : MethodName := ⟨RX10, "allWords", "(I)I"⟩
abbrev cX10_talker : ByteArray := prog_12_method_107_code
def yX10_talker : MethodName := ⟨RX10, "talker", "()I"⟩
abbrev cX10_mute : ByteArray := prog_12_method_108_code
def yX10_mute : MethodName := ⟨RX10, "mute", "()I"⟩
abbrev cX10_apart : ByteArray := prog_12_method_109_code
def yX10_apart : MethodName := ⟨RX10, "apart", "()I"⟩
abbrev cX10_knowing : ByteArray := prog_12_method_110_code
def yX10_knowing : MethodName := ⟨RX10, "knowing", "()I"⟩
abbrev cX10_single : ByteArray := prog_12_method_111_code
def yX10_single : MethodName := ⟨RX10, "single", "()I"⟩
abbrev cX10_odds : ByteArray := prog_12_method_112_code
def yX10_odds : MethodName := ⟨RX10, "odds", "(II)I"⟩
abbrev cX10_tell : ByteArray := prog_12_method_113_code
def yX10_tell : MethodName := ⟨RX10, "tell", "(IIZ)I"⟩
abbrev cX10_took : ByteArray := prog_12_method_114_code
def yX10_took : MethodName := ⟨RX10, "took", "(IZ)I"⟩
abbrev cX10_was : ByteArray := prog_12_method_115_code
def yX10_was : MethodName := ⟨RX10, "was", "(IZ)I"⟩
abbrev cX10_were : ByteArray := prog_12_method_116_code
def yX10_were : MethodName := ⟨RX10, "were", "(IZ)I"⟩
abbrev cX10_untell : ByteArray := prog_12_method_117_code
def yX10_untell : MethodName := ⟨RX10, "untell", "(I)Z"⟩
abbrev cX10_later : ByteArray := prog_12_method_118_code
def yX10_later : MethodName := ⟨RX10, "later", "(I)I"⟩
abbrev cX10_doesFit : ByteArray := prog_12_method_119_code
def yX10_doesFit : MethodName := ⟨RX10, "doesFit", "(II)Z"⟩
abbrev cX10_layFits : ByteArray := prog_12_method_120_code
def yX10_layFits : MethodName := ⟨RX10, "layFits", "(I)V"⟩
abbrev cX10_fits : ByteArray := prog_12_method_121_code
def yX10_fits : MethodName := ⟨RX10, "fits", "(I)I"⟩
abbrev cX10_sure : ByteArray := prog_12_method_122_code
def yX10_sure : MethodName := ⟨RX10, "sure", "(II)I"⟩
abbrev cX10_ask : ByteArray := prog_12_method_123_code
def yX10_ask : MethodName := ⟨RX10, "ask", "(II)I"⟩
abbrev cX10_image : ByteArray := prog_12_method_124_code
def yX10_image : MethodName := ⟨RX10, "image", "(I)I"⟩
abbrev cX10_back : ByteArray := prog_12_method_125_code
def yX10_back : MethodName := ⟨RX10, "back", "(I)I"⟩
abbrev cX10_about : ByteArray := prog_12_method_126_code
def yX10_about : MethodName := ⟨RX10, "about", "(I)I"⟩
abbrev cX10_feed : ByteArray := prog_12_method_127_code
def yX10_feed : MethodName := ⟨RX10, "feed", "(IIIII)I"⟩
abbrev cX10_end : ByteArray := prog_12_method_128_code
def yX10_end : MethodName := ⟨RX10, "end", "(I)I"⟩
def RJx145de : String := "java/io/Serializable"
def TJx145de : u_T := fun k => match k with
  | _ => ("", "", "", false)
def tyJx145de : Nat → FieldType := fun k => match k with
  | _ => .int
abbrev wsJx145de0 : List Cond := u_ws RJx145de TJx145de 0
theorem nmJx145de : ∀ a, a < 0 → ∀ b, b < 0 → a ≠ b → (TJx145de a).2.1 ≠ (TJx145de b).2.1 := by decide +kernel
theorem tyJx145de_ok : ∀ k, k < 0 → parseFieldDescriptor (TJx145de k).2.2.1 = some (tyJx145de k) := by decide +kernel
def RJx9f9b0 : String := "java/lang/CharSequence"
def TJx9f9b0 : u_T := fun k => match k with
  | _ => ("", "", "", false)
def tyJx9f9b0 : Nat → FieldType := fun k => match k with
  | _ => .int
abbrev wsJx9f9b00 : List Cond := u_ws RJx9f9b0 TJx9f9b0 0
theorem nmJx9f9b0 : ∀ a, a < 0 → ∀ b, b < 0 → a ≠ b → (TJx9f9b0 a).2.1 ≠ (TJx9f9b0 b).2.1 := by decide +kernel
theorem tyJx9f9b0_ok : ∀ k, k < 0 → parseFieldDescriptor (TJx9f9b0 k).2.2.1 = some (tyJx9f9b0 k) := by decide +kernel
def RJ11 : String := "java/lang/Character"
def TJ11 : u_T := fun k => match k with
  | _ => ("", "", "", false)
def tyJ11 : Nat → FieldType := fun k => match k with
  | _ => .int
abbrev wsJ110 : List Cond := u_ws RJ11 TJ11 0
theorem nmJ11 : ∀ a, a < 0 → ∀ b, b < 0 → a ≠ b → (TJ11 a).2.1 ≠ (TJ11 b).2.1 := by decide +kernel
theorem tyJ11_ok : ∀ k, k < 0 → parseFieldDescriptor (TJ11 k).2.2.1 = some (tyJ11 k) := by decide +kernel
abbrev cJ11_isValidCodePoint_9a6ad : ByteArray := prog_13_method_11_code
def yJ11_isValidCodePoint_9a6ad : MethodName := ⟨RJ11, "isValidCodePoint", "(I)Z"⟩
abbrev cJ11_highSurrogate_5068e : ByteArray := prog_13_method_28_code
def yJ11_highSurrogate_5068e : MethodName := ⟨RJ11, "highSurrogate", "(I)C"⟩
abbrev cJ11_lowSurrogate_5068e : ByteArray := prog_13_method_29_code
def yJ11_lowSurrogate_5068e : MethodName := ⟨RJ11, "lowSurrogate", "(I)C"⟩
def RJxb160c : String := "java/lang/Comparable"
def TJxb160c : u_T := fun k => match k with
  | _ => ("", "", "", false)
def tyJxb160c : Nat → FieldType := fun k => match k with
  | _ => .int
abbrev wsJxb160c0 : List Cond := u_ws RJxb160c TJxb160c 0
theorem nmJxb160c : ∀ a, a < 0 → ∀ b, b < 0 → a ≠ b → (TJxb160c a).2.1 ≠ (TJxb160c b).2.1 := by decide +kernel
theorem tyJxb160c_ok : ∀ k, k < 0 → parseFieldDescriptor (TJxb160c k).2.2.1 = some (tyJxb160c k) := by decide +kernel
def RJ6 : String := "java/lang/Integer"
def TJ6 : u_T := fun k => match k with
  | _ => ("", "", "", false)
def tyJ6 : Nat → FieldType := fun k => match k with
  | _ => .int
abbrev wsJ60 : List Cond := u_ws RJ6 TJ6 0
theorem nmJ6 : ∀ a, a < 0 → ∀ b, b < 0 → a ≠ b → (TJ6 a).2.1 ≠ (TJ6 b).2.1 := by decide +kernel
theorem tyJ6_ok : ∀ k, k < 0 → parseFieldDescriptor (TJ6 k).2.2.1 = some (tyJ6 k) := by decide +kernel
abbrev cJ6_bitCount_0f7a4 : ByteArray := prog_14_method_49_code
def yJ6_bitCount_0f7a4 : MethodName := ⟨RJ6, "bitCount", "(I)I"⟩
def RJ9 : String := "java/lang/Math"
def TJ9 : u_T := fun k => match k with
  | _ => ("", "", "", false)
def tyJ9 : Nat → FieldType := fun k => match k with
  | _ => .int
abbrev wsJ90 : List Cond := u_ws RJ9 TJ9 0
theorem nmJ9 : ∀ a, a < 0 → ∀ b, b < 0 → a ≠ b → (TJ9 a).2.1 ≠ (TJ9 b).2.1 := by decide +kernel
theorem tyJ9_ok : ∀ k, k < 0 → parseFieldDescriptor (TJ9 k).2.2.1 = some (tyJ9 k) := by decide +kernel
abbrev cJ9_max_7cf53 : ByteArray := prog_15_method_65_code
def yJ9_max_7cf53 : MethodName := ⟨RJ9, "max", "(II)I"⟩
abbrev cJ9_min_7cf53 : ByteArray := prog_15_method_69_code
def yJ9_min_7cf53 : MethodName := ⟨RJ9, "min", "(II)I"⟩
abbrev cJ9_min_f86c9 : ByteArray := prog_15_method_70_code
def yJ9_min_f86c9 : MethodName := ⟨RJ9, "min", "(JJ)J"⟩
def RJ0 : String := "java/lang/String"
def TJ0 : u_T := fun k => match k with
  | _ => ("", "", "", false)
def tyJ0 : Nat → FieldType := fun k => match k with
  | _ => .int
abbrev wsJ00 : List Cond := u_ws RJ0 TJ0 0
theorem nmJ0 : ∀ a, a < 0 → ∀ b, b < 0 → a ≠ b → (TJ0 a).2.1 ≠ (TJ0 b).2.1 := by decide +kernel
theorem tyJ0_ok : ∀ k, k < 0 → parseFieldDescriptor (TJ0 k).2.2.1 = some (tyJ0 k) := by decide +kernel
abbrev cJ0_length_8abf5 : ByteArray := prog_16_method_54_code
def yJ0_length_8abf5 : MethodName := ⟨RJ0, "length", "()I"⟩
abbrev cJ0_charAt_5068e : ByteArray := prog_16_method_56_code
def yJ0_charAt_5068e : MethodName := ⟨RJ0, "charAt", "(I)C"⟩
abbrev cJ0_indexOf_0f7a4 : ByteArray := prog_16_method_79_code
def yJ0_indexOf_0f7a4 : MethodName := ⟨RJ0, "indexOf", "(I)I"⟩
abbrev cJ0_indexOf_7cf53 : ByteArray := prog_16_method_80_code
def yJ0_indexOf_7cf53 : MethodName := ⟨RJ0, "indexOf", "(II)I"⟩
abbrev cJ0_coder_7d493 : ByteArray := prog_16_method_152_code
def yJ0_coder_7d493 : MethodName := ⟨RJ0, "coder", "()B"⟩
abbrev cJ0_isLatin1_aae02 : ByteArray := prog_16_method_154_code
def yJ0_isLatin1_aae02 : MethodName := ⟨RJ0, "isLatin1", "()Z"⟩
abbrev cJ0_checkIndex_df160 : ByteArray := prog_16_method_155_code
def yJ0_checkIndex_df160 : MethodName := ⟨RJ0, "checkIndex", "(II)V"⟩
abbrev cJ0_checkBoundsBeginEnd_23922 : ByteArray := prog_16_method_158_code
def yJ0_checkBoundsBeginEnd_23922 : MethodName := ⟨RJ0, "checkBoundsBeginEnd", "(III)V"⟩
def RJ1 : String := "java/lang/StringLatin1"
def TJ1 : u_T := fun k => match k with
  | _ => ("", "", "", false)
def tyJ1 : Nat → FieldType := fun k => match k with
  | _ => .int
abbrev wsJ10 : List Cond := u_ws RJ1 TJ1 0
theorem nmJ1 : ∀ a, a < 0 → ∀ b, b < 0 → a ≠ b → (TJ1 a).2.1 ≠ (TJ1 b).2.1 := by decide +kernel
theorem tyJ1_ok : ∀ k, k < 0 → parseFieldDescriptor (TJ1 k).2.2.1 = some (tyJ1 k) := by decide +kernel
abbrev cJ1_charAt_3b067 : ByteArray := prog_17_method_2_code
def yJ1_charAt_3b067 : MethodName := ⟨RJ1, "charAt", "([BI)C"⟩
abbrev cJ1_canEncode_9a6ad : ByteArray := prog_17_method_4_code
def yJ1_canEncode_9a6ad : MethodName := ⟨RJ1, "canEncode", "(I)Z"⟩
abbrev cJ1_indexOf_4cfef : ByteArray := prog_17_method_22_code
def yJ1_indexOf_4cfef : MethodName := ⟨RJ1, "indexOf", "([BIII)I"⟩
abbrev cJ1_indexOfChar_4cfef : ByteArray := prog_17_method_23_code
def yJ1_indexOfChar_4cfef : MethodName := ⟨RJ1, "indexOfChar", "([BIII)I"⟩
def RJ2 : String := "java/lang/StringUTF16"
def TJ2 : u_T := fun k => match k with
  | _ => ("", "", "", false)
def tyJ2 : Nat → FieldType := fun k => match k with
  | _ => .int
abbrev wsJ20 : List Cond := u_ws RJ2 TJ2 0
theorem nmJ2 : ∀ a, a < 0 → ∀ b, b < 0 → a ≠ b → (TJ2 a).2.1 ≠ (TJ2 b).2.1 := by decide +kernel
theorem tyJ2_ok : ∀ k, k < 0 → parseFieldDescriptor (TJ2 k).2.2.1 = some (tyJ2 k) := by decide +kernel
abbrev cJ2_getChar_3b067 : ByteArray := prog_18_method_5_code
def yJ2_getChar_3b067 : MethodName := ⟨RJ2, "getChar", "([BI)C"⟩
abbrev cJ2_length_9d52b : ByteArray := prog_18_method_6_code
def yJ2_length_9d52b : MethodName := ⟨RJ2, "length", "([B)I"⟩
abbrev cJ2_indexOf_4cfef : ByteArray := prog_18_method_40_code
def yJ2_indexOf_4cfef : MethodName := ⟨RJ2, "indexOf", "([BIII)I"⟩
abbrev cJ2_indexOfChar_4cfef : ByteArray := prog_18_method_47_code
def yJ2_indexOfChar_4cfef : MethodName := ⟨RJ2, "indexOfChar", "([BIII)I"⟩
abbrev cJ2_indexOfCharUnsafe_4cfef : ByteArray := prog_18_method_48_code
def yJ2_indexOfCharUnsafe_4cfef : MethodName := ⟨RJ2, "indexOfCharUnsafe", "([BIII)I"⟩
abbrev cJ2_indexOfSupplementary_4cfef : ByteArray := prog_18_method_49_code
def yJ2_indexOfSupplementary_4cfef : MethodName := ⟨RJ2, "indexOfSupplementary", "([BIII)I"⟩
abbrev cJ2_charAt_3b067 : ByteArray := prog_18_method_83_code
def yJ2_charAt_3b067 : MethodName := ⟨RJ2, "charAt", "([BI)C"⟩
abbrev cJ2_checkIndex_2214a : ByteArray := prog_18_method_91_code
def yJ2_checkIndex_2214a : MethodName := ⟨RJ2, "checkIndex", "(I[B)V"⟩
abbrev cJ2_checkBoundsBeginEnd_d044e : ByteArray := prog_18_method_93_code
def yJ2_checkBoundsBeginEnd_d044e : MethodName := ⟨RJ2, "checkBoundsBeginEnd", "(II[B)V"⟩
def RJ10 : String := "java/lang/System"
def TJ10 : u_T := fun k => match k with
  | _ => ("", "", "", false)
def tyJ10 : Nat → FieldType := fun k => match k with
  | _ => .int
abbrev wsJ100 : List Cond := u_ws RJ10 TJ10 0
theorem nmJ10 : ∀ a, a < 0 → ∀ b, b < 0 → a ≠ b → (TJ10 a).2.1 ≠ (TJ10 b).2.1 := by decide +kernel
theorem tyJ10_ok : ∀ k, k < 0 → parseFieldDescriptor (TJ10 k).2.2.1 = some (tyJ10 k) := by decide +kernel
def RJxfd54e : String := "java/lang/constant/Constable"
def TJxfd54e : u_T := fun k => match k with
  | _ => ("", "", "", false)
def tyJxfd54e : Nat → FieldType := fun k => match k with
  | _ => .int
abbrev wsJxfd54e0 : List Cond := u_ws RJxfd54e TJxfd54e 0
theorem nmJxfd54e : ∀ a, a < 0 → ∀ b, b < 0 → a ≠ b → (TJxfd54e a).2.1 ≠ (TJxfd54e b).2.1 := by decide +kernel
theorem tyJxfd54e_ok : ∀ k, k < 0 → parseFieldDescriptor (TJxfd54e k).2.2.1 = some (tyJxfd54e k) := by decide +kernel
def RJx3cf43 : String := "java/lang/constant/ConstantDesc"
def TJx3cf43 : u_T := fun k => match k with
  | _ => ("", "", "", false)
def tyJx3cf43 : Nat → FieldType := fun k => match k with
  | _ => .int
abbrev wsJx3cf430 : List Cond := u_ws RJx3cf43 TJx3cf43 0
theorem nmJx3cf43 : ∀ a, a < 0 → ∀ b, b < 0 → a ≠ b → (TJx3cf43 a).2.1 ≠ (TJx3cf43 b).2.1 := by decide +kernel
theorem tyJx3cf43_ok : ∀ k, k < 0 → parseFieldDescriptor (TJx3cf43 k).2.2.1 = some (tyJx3cf43 k) := by decide +kernel
def RJ7 : String := "java/util/Arrays"
def TJ7 : u_T := fun k => match k with
  | _ => ("", "", "", false)
def tyJ7 : Nat → FieldType := fun k => match k with
  | _ => .int
abbrev wsJ70 : List Cond := u_ws RJ7 TJ7 0
theorem nmJ7 : ∀ a, a < 0 → ∀ b, b < 0 → a ≠ b → (TJ7 a).2.1 ≠ (TJ7 b).2.1 := by decide +kernel
theorem tyJ7_ok : ∀ k, k < 0 → parseFieldDescriptor (TJ7 k).2.2.1 = some (tyJ7 k) := by decide +kernel
abbrev cJ7_fill_53178 : ByteArray := prog_20_method_103_code
def yJ7_fill_53178 : MethodName := ⟨RJ7, "fill", "([II)V"⟩
abbrev cJ7_fill_031fb : ByteArray := prog_20_method_109_code
def yJ7_fill_031fb : MethodName := ⟨RJ7, "fill", "([BB)V"⟩
def RJ3 : String := "jdk/internal/util/Preconditions"
def TJ3 : u_T := fun k => match k with
  | _ => ("", "", "", false)
def tyJ3 : Nat → FieldType := fun k => match k with
  | _ => .int
abbrev wsJ30 : List Cond := u_ws RJ3 TJ3 0
theorem nmJ3 : ∀ a, a < 0 → ∀ b, b < 0 → a ≠ b → (TJ3 a).2.1 ≠ (TJ3 b).2.1 := by decide +kernel
theorem tyJ3_ok : ∀ k, k < 0 → parseFieldDescriptor (TJ3 k).2.2.1 = some (tyJ3 k) := by decide +kernel
abbrev cJ3_checkIndex_8e157 : ByteArray := prog_21_method_11_code
def yJ3_checkIndex_8e157 : MethodName := ⟨RJ3, "checkIndex", "(IILjava/util/function/BiFunction;)I"⟩
abbrev cJ3_checkFromToIndex_8c36e : ByteArray := prog_21_method_12_code
def yJ3_checkFromToIndex_8c36e : MethodName := ⟨RJ3, "checkFromToIndex", "(IIILjava/util/function/BiFunction;)I"⟩
def RL : String := "TalkBridgeLaw"
abbrev cL_law : ByteArray := code
def yL_law : MethodName := ⟨RL, "law", "([I)Z"⟩
abbrev vwCl : List vw_C := [(RX0, TX0, 3), (RX1, TX1, 2), (RX2, TX2, 6), (RX3, TX3, 6), (RX4, TX4, 18), (RX5, TX5, 10), (RX6, TX6, 5), (RX7, TX7, 7), (RX8, TX8, 11), (RX9, TX9, 10), (RX10, TX10, 70)]
def rv_tbl : List Cond := lw_tbl.filter goodWord
theorem rv_goodIn : GoodIn rv_tbl rv_tbl := fun w h => ⟨h, good_of_word (List.mem_filter.mp h).2⟩
theorem rv_mem {i : Nat} {w : Cond} (h : lw_tbl[i]? = some w) (g : goodWord w = true) : w ∈ rv_tbl := List.mem_filter.mpr ⟨List.mem_of_getElem? h, g⟩
theorem rv_mem0 {i : Nat} {w : Jvm.Cond} (h : (k2_sels lw_privs)[i]? = some w) (g : goodWord w = true) : w ∈ rv_tbl := List.mem_filter.mpr ⟨List.mem_append_left _ (List.mem_of_getElem? h), g⟩
theorem rv_mem1 {i : Nat} {w : Jvm.Cond} (h : tables_1_1[i]? = some w) (g : goodWord w = true) : w ∈ rv_tbl := List.mem_filter.mpr ⟨List.mem_append_right _ (show w ∈ tables_1 from List.mem_append_left _ (List.mem_of_getElem? h)), g⟩
theorem rv_mem2 {i : Nat} {w : Jvm.Cond} (h : tables_1_2[i]? = some w) (g : goodWord w = true) : w ∈ rv_tbl := List.mem_filter.mpr ⟨List.mem_append_right _ (show w ∈ tables_1 from List.mem_append_right _ (List.mem_append_left _ (List.mem_of_getElem? h))), g⟩
theorem rv_mem3 {i : Nat} {w : Jvm.Cond} (h : tables_1_3[i]? = some w) (g : goodWord w = true) : w ∈ rv_tbl := List.mem_filter.mpr ⟨List.mem_append_right _ (show w ∈ tables_1 from List.mem_append_right _ (List.mem_append_right _ (List.mem_append_left _ (List.mem_of_getElem? h)))), g⟩
theorem rv_mem4 {i : Nat} {w : Jvm.Cond} (h : tables_1_4[i]? = some w) (g : goodWord w = true) : w ∈ rv_tbl := List.mem_filter.mpr ⟨List.mem_append_right _ (show w ∈ tables_1 from List.mem_append_right _ (List.mem_append_right _ (List.mem_append_right _ (List.mem_append_left _ (List.mem_of_getElem? h))))), g⟩
theorem rv_mem5 {i : Nat} {w : Jvm.Cond} (h : tables_1_5[i]? = some w) (g : goodWord w = true) : w ∈ rv_tbl := List.mem_filter.mpr ⟨List.mem_append_right _ (show w ∈ tables_1 from List.mem_append_right _ (List.mem_append_right _ (List.mem_append_right _ (List.mem_append_right _ (List.mem_append_left _ (List.mem_of_getElem? h)))))), g⟩
theorem rv_mem6 {i : Nat} {w : Jvm.Cond} (h : tables_1_6[i]? = some w) (g : goodWord w = true) : w ∈ rv_tbl := List.mem_filter.mpr ⟨List.mem_append_right _ (show w ∈ tables_1 from List.mem_append_right _ (List.mem_append_right _ (List.mem_append_right _ (List.mem_append_right _ (List.mem_append_right _ (List.mem_append_left _ (List.mem_of_getElem? h))))))), g⟩
theorem rv_mem7 {i : Nat} {w : Jvm.Cond} (h : tables_1_7[i]? = some w) (g : goodWord w = true) : w ∈ rv_tbl := List.mem_filter.mpr ⟨List.mem_append_right _ (show w ∈ tables_1 from List.mem_append_right _ (List.mem_append_right _ (List.mem_append_right _ (List.mem_append_right _ (List.mem_append_right _ (List.mem_append_right _ (List.mem_append_left _ (List.mem_of_getElem? h)))))))), g⟩
theorem rv_mem8 {i : Nat} {w : Jvm.Cond} (h : tables_1_8[i]? = some w) (g : goodWord w = true) : w ∈ rv_tbl := List.mem_filter.mpr ⟨List.mem_append_right _ (show w ∈ tables_1 from List.mem_append_right _ (List.mem_append_right _ (List.mem_append_right _ (List.mem_append_right _ (List.mem_append_right _ (List.mem_append_right _ (List.mem_append_right _ (List.mem_of_getElem? h)))))))), g⟩
theorem rv_in0 : ∀ w ∈ u_ws RX0 TX0 3, w ∈ rv_tbl := by decide +kernel
theorem rv_in1 : ∀ w ∈ u_ws RX1 TX1 2, w ∈ rv_tbl := by decide +kernel
theorem rv_in2 : ∀ w ∈ u_ws RX2 TX2 6, w ∈ rv_tbl := by decide +kernel
theorem rv_in3 : ∀ w ∈ u_ws RX3 TX3 6, w ∈ rv_tbl := by decide +kernel
theorem rv_in4 : ∀ w ∈ u_ws RX4 TX4 18, w ∈ rv_tbl := by decide +kernel
theorem rv_in5 : ∀ w ∈ u_ws RX5 TX5 10, w ∈ rv_tbl := by decide +kernel
theorem rv_in6 : ∀ w ∈ u_ws RX6 TX6 5, w ∈ rv_tbl := by decide +kernel
theorem rv_in7 : ∀ w ∈ u_ws RX7 TX7 7, w ∈ rv_tbl := by decide +kernel
theorem rv_in8 : ∀ w ∈ u_ws RX8 TX8 11, w ∈ rv_tbl := by decide +kernel
theorem rv_in9 : ∀ w ∈ u_ws RX9 TX9 10, w ∈ rv_tbl := by decide +kernel
theorem rv_in10 : ∀ w ∈ u_ws RX10 TX10 70, w ∈ rv_tbl := by decide +kernel
