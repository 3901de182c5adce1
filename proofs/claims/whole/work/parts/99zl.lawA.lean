/-- a private method of a class that the tables say can be made, by its rows of tables_1 -/
def lw_okq (q : MethodName × Nat) : Prop := (q.1.cls ≠ "java/lang/invoke/MethodHandle" ∧ q.1.cls ≠ "java/lang/invoke/VarHandle") ∧ Cond.instantiable q.1.cls q.2 ∈ tables_1 ∧ Cond.privateMethod q.1 ∈ tables_1 ∧ Cond.instanceMethod q.1 ∈ tables_1
theorem lw_p0 : lw_okq (⟨"HermitLadder", "tapeInt", "(I)V"⟩, 18) := ⟨⟨by decide +kernel, by decide +kernel⟩, List.mem_of_getElem? (i := 23) (by decide +kernel), List.mem_of_getElem? (i := 452) (by decide +kernel), List.mem_of_getElem? (i := 453) (by decide +kernel)⟩
theorem lw_p1 : lw_okq (⟨"HermitLadder$Reader", "advance", "()V"⟩, 10) := ⟨⟨by decide +kernel, by decide +kernel⟩, List.mem_of_getElem? (i := 129) (by decide +kernel), List.mem_of_getElem? (i := 472) (by decide +kernel), List.mem_of_getElem? (i := 473) (by decide +kernel)⟩
theorem lw_p2 : lw_okq (⟨"HermitLadder$Reader", "readFirstLine", "()Z"⟩, 10) := ⟨⟨by decide +kernel, by decide +kernel⟩, List.mem_of_getElem? (i := 129) (by decide +kernel), List.mem_of_getElem? (i := 571) (by decide +kernel), List.mem_of_getElem? (i := 572) (by decide +kernel)⟩
theorem lw_p3 : lw_okq (⟨"HermitLadder$Reader", "expect", "(Ljava/lang/String;)Z"⟩, 10) := ⟨⟨by decide +kernel, by decide +kernel⟩, List.mem_of_getElem? (i := 129) (by decide +kernel), List.mem_of_getElem? (i := 576) (by decide +kernel), List.mem_of_getElem? (i := 577) (by decide +kernel)⟩
theorem lw_p4 : lw_okq (⟨"HermitLadder$Reader", "tokenIs", "(Ljava/lang/String;)Z"⟩, 10) := ⟨⟨by decide +kernel, by decide +kernel⟩, List.mem_of_getElem? (i := 129) (by decide +kernel), List.mem_of_getElem? (i := 580) (by decide +kernel), List.mem_of_getElem? (i := 581) (by decide +kernel)⟩
theorem lw_p5 : lw_okq (⟨"HermitLadder$Reader", "refuse", "()Z"⟩, 10) := ⟨⟨by decide +kernel, by decide +kernel⟩, List.mem_of_getElem? (i := 129) (by decide +kernel), List.mem_of_getElem? (i := 605) (by decide +kernel), List.mem_of_getElem? (i := 606) (by decide +kernel)⟩
theorem lw_p6 : lw_okq (⟨"HermitLadder$Reader", "findFault", "(I)Z"⟩, 10) := ⟨⟨by decide +kernel, by decide +kernel⟩, List.mem_of_getElem? (i := 129) (by decide +kernel), List.mem_of_getElem? (i := 609) (by decide +kernel), List.mem_of_getElem? (i := 610) (by decide +kernel)⟩
theorem lw_p7 : lw_okq (⟨"HermitLadder$Reader", "readNumber", "(II)I"⟩, 10) := ⟨⟨by decide +kernel, by decide +kernel⟩, List.mem_of_getElem? (i := 129) (by decide +kernel), List.mem_of_getElem? (i := 614) (by decide +kernel), List.mem_of_getElem? (i := 615) (by decide +kernel)⟩
theorem lw_p8 : lw_okq (⟨"HermitLadder$Reader", "readLine", "()Z"⟩, 10) := ⟨⟨by decide +kernel, by decide +kernel⟩, List.mem_of_getElem? (i := 129) (by decide +kernel), List.mem_of_getElem? (i := 620) (by decide +kernel), List.mem_of_getElem? (i := 621) (by decide +kernel)⟩
theorem lw_p9 : lw_okq (⟨"HermitLadder$Reader", "accept", "(Ljava/lang/String;)Z"⟩, 10) := ⟨⟨by decide +kernel, by decide +kernel⟩, List.mem_of_getElem? (i := 129) (by decide +kernel), List.mem_of_getElem? (i := 625) (by decide +kernel), List.mem_of_getElem? (i := 626) (by decide +kernel)⟩
theorem lw_p10 : lw_okq (⟨"HermitLadder$Reader", "readHole", "()Z"⟩, 10) := ⟨⟨by decide +kernel, by decide +kernel⟩, List.mem_of_getElem? (i := 129) (by decide +kernel), List.mem_of_getElem? (i := 629) (by decide +kernel), List.mem_of_getElem? (i := 630) (by decide +kernel)⟩
theorem lw_p11 : lw_okq (⟨"HermitLadder$Reader", "readThing", "()I"⟩, 10) := ⟨⟨by decide +kernel, by decide +kernel⟩, List.mem_of_getElem? (i := 129) (by decide +kernel), List.mem_of_getElem? (i := 634) (by decide +kernel), List.mem_of_getElem? (i := 635) (by decide +kernel)⟩
theorem lw_p12 : lw_okq (⟨"HermitLadder$Reader", "readPilgrim", "()Z"⟩, 10) := ⟨⟨by decide +kernel, by decide +kernel⟩, List.mem_of_getElem? (i := 129) (by decide +kernel), List.mem_of_getElem? (i := 641) (by decide +kernel), List.mem_of_getElem? (i := 642) (by decide +kernel)⟩
theorem lw_p13 : lw_okq (⟨"HermitLadder$Reader", "readTires", "()Z"⟩, 10) := ⟨⟨by decide +kernel, by decide +kernel⟩, List.mem_of_getElem? (i := 129) (by decide +kernel), List.mem_of_getElem? (i := 652) (by decide +kernel), List.mem_of_getElem? (i := 653) (by decide +kernel)⟩
theorem lw_p14 : lw_okq (⟨"HermitLadder$Reader", "readSum", "(I)Z"⟩, 10) := ⟨⟨by decide +kernel, by decide +kernel⟩, List.mem_of_getElem? (i := 129) (by decide +kernel), List.mem_of_getElem? (i := 656) (by decide +kernel), List.mem_of_getElem? (i := 657) (by decide +kernel)⟩
theorem lw_p15 : lw_okq (⟨"HermitLadder$Reader", "readTerm", "(I)Z"⟩, 10) := ⟨⟨by decide +kernel, by decide +kernel⟩, List.mem_of_getElem? (i := 129) (by decide +kernel), List.mem_of_getElem? (i := 660) (by decide +kernel), List.mem_of_getElem? (i := 661) (by decide +kernel)⟩
def lw_privs_1 : List (MethodName × Nat) := [(⟨"HermitLadder", "tapeInt", "(I)V"⟩, 18), (⟨"HermitLadder$Reader", "advance", "()V"⟩, 10), (⟨"HermitLadder$Reader", "readFirstLine", "()Z"⟩, 10), (⟨"HermitLadder$Reader", "expect", "(Ljava/lang/String;)Z"⟩, 10), (⟨"HermitLadder$Reader", "tokenIs", "(Ljava/lang/String;)Z"⟩, 10), (⟨"HermitLadder$Reader", "refuse", "()Z"⟩, 10), (⟨"HermitLadder$Reader", "findFault", "(I)Z"⟩, 10), (⟨"HermitLadder$Reader", "readNumber", "(II)I"⟩, 10), (⟨"HermitLadder$Reader", "readLine", "()Z"⟩, 10), (⟨"HermitLadder$Reader", "accept", "(Ljava/lang/String;)Z"⟩, 10), (⟨"HermitLadder$Reader", "readHole", "()Z"⟩, 10), (⟨"HermitLadder$Reader", "readThing", "()I"⟩, 10), (⟨"HermitLadder$Reader", "readPilgrim", "()Z"⟩, 10), (⟨"HermitLadder$Reader", "readTires", "()Z"⟩, 10), (⟨"HermitLadder$Reader", "readSum", "(I)Z"⟩, 10), (⟨"HermitLadder$Reader", "readTerm", "(I)Z"⟩, 10)]
theorem lw_r1 : ∀ q ∈ lw_privs_1, lw_okq q := List.forall_mem_cons.mpr ⟨lw_p0, List.forall_mem_cons.mpr ⟨lw_p1, List.forall_mem_cons.mpr ⟨lw_p2, List.forall_mem_cons.mpr ⟨lw_p3, List.forall_mem_cons.mpr ⟨lw_p4, List.forall_mem_cons.mpr ⟨lw_p5, List.forall_mem_cons.mpr ⟨lw_p6, List.forall_mem_cons.mpr ⟨lw_p7, List.forall_mem_cons.mpr ⟨lw_p8, List.forall_mem_cons.mpr ⟨lw_p9, List.forall_mem_cons.mpr ⟨lw_p10, List.forall_mem_cons.mpr ⟨lw_p11, List.forall_mem_cons.mpr ⟨lw_p12, List.forall_mem_cons.mpr ⟨lw_p13, List.forall_mem_cons.mpr ⟨lw_p14, List.forall_mem_cons.mpr ⟨lw_p15, fun _ h => absurd h List.not_mem_nil⟩⟩⟩⟩⟩⟩⟩⟩⟩⟩⟩⟩⟩⟩⟩⟩
theorem lw_p16 : lw_okq (⟨"HermitLadder$Reader", "readAtom", "(I)Z"⟩, 10) := ⟨⟨by decide +kernel, by decide +kernel⟩, List.mem_of_getElem? (i := 129) (by decide +kernel), List.mem_of_getElem? (i := 664) (by decide +kernel), List.mem_of_getElem? (i := 665) (by decide +kernel)⟩
theorem lw_p17 : lw_okq (⟨"HermitLadder$Reader", "goDeeper", "(I)Z"⟩, 10) := ⟨⟨by decide +kernel, by decide +kernel⟩, List.mem_of_getElem? (i := 129) (by decide +kernel), List.mem_of_getElem? (i := 673) (by decide +kernel), List.mem_of_getElem? (i := 674) (by decide +kernel)⟩
theorem lw_p18 : lw_okq (⟨"HermitLadder$Reader", "readIf", "(I)Z"⟩, 10) := ⟨⟨by decide +kernel, by decide +kernel⟩, List.mem_of_getElem? (i := 129) (by decide +kernel), List.mem_of_getElem? (i := 679) (by decide +kernel), List.mem_of_getElem? (i := 680) (by decide +kernel)⟩
theorem lw_p19 : lw_okq (⟨"HermitLadder$Reader", "readTruth", "(I)Z"⟩, 10) := ⟨⟨by decide +kernel, by decide +kernel⟩, List.mem_of_getElem? (i := 129) (by decide +kernel), List.mem_of_getElem? (i := 683) (by decide +kernel), List.mem_of_getElem? (i := 684) (by decide +kernel)⟩
theorem lw_p20 : lw_okq (⟨"HermitLadder$Reader", "readBoth", "(I)Z"⟩, 10) := ⟨⟨by decide +kernel, by decide +kernel⟩, List.mem_of_getElem? (i := 129) (by decide +kernel), List.mem_of_getElem? (i := 687) (by decide +kernel), List.mem_of_getElem? (i := 688) (by decide +kernel)⟩
theorem lw_p21 : lw_okq (⟨"HermitLadder$Reader", "readUnit", "(I)Z"⟩, 10) := ⟨⟨by decide +kernel, by decide +kernel⟩, List.mem_of_getElem? (i := 129) (by decide +kernel), List.mem_of_getElem? (i := 691) (by decide +kernel), List.mem_of_getElem? (i := 692) (by decide +kernel)⟩
theorem lw_p22 : lw_okq (⟨"HermitLadder$Reader", "comparison", "()I"⟩, 10) := ⟨⟨by decide +kernel, by decide +kernel⟩, List.mem_of_getElem? (i := 129) (by decide +kernel), List.mem_of_getElem? (i := 698) (by decide +kernel), List.mem_of_getElem? (i := 699) (by decide +kernel)⟩
theorem lw_p23 : lw_okq (⟨"HermitLadder$Reader", "factTold", "()I"⟩, 10) := ⟨⟨by decide +kernel, by decide +kernel⟩, List.mem_of_getElem? (i := 129) (by decide +kernel), List.mem_of_getElem? (i := 710) (by decide +kernel), List.mem_of_getElem? (i := 711) (by decide +kernel)⟩
theorem lw_p24 : lw_okq (⟨"HermitLadder$Reader", "readMay", "()Z"⟩, 10) := ⟨⟨by decide +kernel, by decide +kernel⟩, List.mem_of_getElem? (i := 129) (by decide +kernel), List.mem_of_getElem? (i := 720) (by decide +kernel), List.mem_of_getElem? (i := 721) (by decide +kernel)⟩
theorem lw_p25 : lw_okq (⟨"HermitLadder", "startAnew", "()V"⟩, 18) := ⟨⟨by decide +kernel, by decide +kernel⟩, List.mem_of_getElem? (i := 23) (by decide +kernel), List.mem_of_getElem? (i := 731) (by decide +kernel), List.mem_of_getElem? (i := 732) (by decide +kernel)⟩
theorem lw_p26 : lw_okq (⟨"HermitLadder", "settle", "()V"⟩, 18) := ⟨⟨by decide +kernel, by decide +kernel⟩, List.mem_of_getElem? (i := 23) (by decide +kernel), List.mem_of_getElem? (i := 736) (by decide +kernel), List.mem_of_getElem? (i := 737) (by decide +kernel)⟩
theorem lw_p27 : lw_okq (⟨"HermitLadder$Moves", "entryRefusal", "(II)I"⟩, 5) := ⟨⟨by decide +kernel, by decide +kernel⟩, List.mem_of_getElem? (i := 220) (by decide +kernel), List.mem_of_getElem? (i := 775) (by decide +kernel), List.mem_of_getElem? (i := 776) (by decide +kernel)⟩
theorem lw_p28 : lw_okq (⟨"HermitLadder$Laws", "learnFacts", "(III)V"⟩, 5) := ⟨⟨by decide +kernel, by decide +kernel⟩, List.mem_of_getElem? (i := 191) (by decide +kernel), List.mem_of_getElem? (i := 795) (by decide +kernel), List.mem_of_getElem? (i := 796) (by decide +kernel)⟩
theorem lw_p29 : lw_okq (⟨"HermitLadder$Laws", "reckon", "(II)I"⟩, 5) := ⟨⟨by decide +kernel, by decide +kernel⟩, List.mem_of_getElem? (i := 191) (by decide +kernel), List.mem_of_getElem? (i := 799) (by decide +kernel), List.mem_of_getElem? (i := 800) (by decide +kernel)⟩
theorem lw_p30 : lw_okq (⟨"HermitLadder$Laws", "operate", "(II)I"⟩, 5) := ⟨⟨by decide +kernel, by decide +kernel⟩, List.mem_of_getElem? (i := 191) (by decide +kernel), List.mem_of_getElem? (i := 803) (by decide +kernel), List.mem_of_getElem? (i := 804) (by decide +kernel)⟩
theorem lw_p31 : lw_okq (⟨"HermitLadder$Moves", "takeRefusal", "(III)I"⟩, 5) := ⟨⟨by decide +kernel, by decide +kernel⟩, List.mem_of_getElem? (i := 220) (by decide +kernel), List.mem_of_getElem? (i := 821) (by decide +kernel), List.mem_of_getElem? (i := 822) (by decide +kernel)⟩
def lw_privs_2 : List (MethodName × Nat) := [(⟨"HermitLadder$Reader", "readAtom", "(I)Z"⟩, 10), (⟨"HermitLadder$Reader", "goDeeper", "(I)Z"⟩, 10), (⟨"HermitLadder$Reader", "readIf", "(I)Z"⟩, 10), (⟨"HermitLadder$Reader", "readTruth", "(I)Z"⟩, 10), (⟨"HermitLadder$Reader", "readBoth", "(I)Z"⟩, 10), (⟨"HermitLadder$Reader", "readUnit", "(I)Z"⟩, 10), (⟨"HermitLadder$Reader", "comparison", "()I"⟩, 10), (⟨"HermitLadder$Reader", "factTold", "()I"⟩, 10), (⟨"HermitLadder$Reader", "readMay", "()Z"⟩, 10), (⟨"HermitLadder", "startAnew", "()V"⟩, 18), (⟨"HermitLadder", "settle", "()V"⟩, 18), (⟨"HermitLadder$Moves", "entryRefusal", "(II)I"⟩, 5), (⟨"HermitLadder$Laws", "learnFacts", "(III)V"⟩, 5), (⟨"HermitLadder$Laws", "reckon", "(II)I"⟩, 5), (⟨"HermitLadder$Laws", "operate", "(II)I"⟩, 5), (⟨"HermitLadder$Moves", "takeRefusal", "(III)I"⟩, 5)]
theorem lw_r2 : ∀ q ∈ lw_privs_2, lw_okq q := List.forall_mem_cons.mpr ⟨lw_p16, List.forall_mem_cons.mpr ⟨lw_p17, List.forall_mem_cons.mpr ⟨lw_p18, List.forall_mem_cons.mpr ⟨lw_p19, List.forall_mem_cons.mpr ⟨lw_p20, List.forall_mem_cons.mpr ⟨lw_p21, List.forall_mem_cons.mpr ⟨lw_p22, List.forall_mem_cons.mpr ⟨lw_p23, List.forall_mem_cons.mpr ⟨lw_p24, List.forall_mem_cons.mpr ⟨lw_p25, List.forall_mem_cons.mpr ⟨lw_p26, List.forall_mem_cons.mpr ⟨lw_p27, List.forall_mem_cons.mpr ⟨lw_p28, List.forall_mem_cons.mpr ⟨lw_p29, List.forall_mem_cons.mpr ⟨lw_p30, List.forall_mem_cons.mpr ⟨lw_p31, fun _ h => absurd h List.not_mem_nil⟩⟩⟩⟩⟩⟩⟩⟩⟩⟩⟩⟩⟩⟩⟩⟩
theorem lw_p32 : lw_okq (⟨"HermitLadder", "step", "(LHermitLadder$Pilgrim;I)I"⟩, 18) := ⟨⟨by decide +kernel, by decide +kernel⟩, List.mem_of_getElem? (i := 23) (by decide +kernel), List.mem_of_getElem? (i := 852) (by decide +kernel), List.mem_of_getElem? (i := 853) (by decide +kernel)⟩
theorem lw_p33 : lw_okq (⟨"HermitLadder", "keepTrial", "()V"⟩, 18) := ⟨⟨by decide +kernel, by decide +kernel⟩, List.mem_of_getElem? (i := 23) (by decide +kernel), List.mem_of_getElem? (i := 857) (by decide +kernel), List.mem_of_getElem? (i := 858) (by decide +kernel)⟩
theorem lw_p34 : lw_okq (⟨"HermitLadder", "remember", "()V"⟩, 18) := ⟨⟨by decide +kernel, by decide +kernel⟩, List.mem_of_getElem? (i := 23) (by decide +kernel), List.mem_of_getElem? (i := 861) (by decide +kernel), List.mem_of_getElem? (i := 862) (by decide +kernel)⟩
theorem lw_p35 : lw_okq (⟨"HermitLadder", "follow", "(LHermitLadder$Tray;)I"⟩, 18) := ⟨⟨by decide +kernel, by decide +kernel⟩, List.mem_of_getElem? (i := 23) (by decide +kernel), List.mem_of_getElem? (i := 888) (by decide +kernel), List.mem_of_getElem? (i := 889) (by decide +kernel)⟩
theorem lw_p36 : lw_okq (⟨"HermitLadder", "trayRefused", "(I)I"⟩, 18) := ⟨⟨by decide +kernel, by decide +kernel⟩, List.mem_of_getElem? (i := 23) (by decide +kernel), List.mem_of_getElem? (i := 901) (by decide +kernel), List.mem_of_getElem? (i := 902) (by decide +kernel)⟩
theorem lw_p37 : lw_okq (⟨"HermitLadder", "comingRefused", "(II)I"⟩, 18) := ⟨⟨by decide +kernel, by decide +kernel⟩, List.mem_of_getElem? (i := 23) (by decide +kernel), List.mem_of_getElem? (i := 920) (by decide +kernel), List.mem_of_getElem? (i := 921) (by decide +kernel)⟩
theorem lw_p38 : lw_okq (⟨"HermitLadder$Coming", "leaveFrom", "(I)V"⟩, 6) := ⟨⟨by decide +kernel, by decide +kernel⟩, List.mem_of_getElem? (i := 248) (by decide +kernel), List.mem_of_getElem? (i := 933) (by decide +kernel), List.mem_of_getElem? (i := 934) (by decide +kernel)⟩
theorem lw_p39 : lw_okq (⟨"HermitLadder$Moves", "keep", "(II)V"⟩, 5) := ⟨⟨by decide +kernel, by decide +kernel⟩, List.mem_of_getElem? (i := 220) (by decide +kernel), List.mem_of_getElem? (i := 941) (by decide +kernel), List.mem_of_getElem? (i := 942) (by decide +kernel)⟩
theorem lw_p40 : lw_okq (⟨"HermitLadder$Moves", "gatherThings", "(III)V"⟩, 5) := ⟨⟨by decide +kernel, by decide +kernel⟩, List.mem_of_getElem? (i := 220) (by decide +kernel), List.mem_of_getElem? (i := 945) (by decide +kernel), List.mem_of_getElem? (i := 946) (by decide +kernel)⟩
theorem lw_p41 : lw_okq (⟨"HermitLadder$Coming", "firstDeed", "(II)I"⟩, 6) := ⟨⟨by decide +kernel, by decide +kernel⟩, List.mem_of_getElem? (i := 248) (by decide +kernel), List.mem_of_getElem? (i := 967) (by decide +kernel), List.mem_of_getElem? (i := 968) (by decide +kernel)⟩
theorem lw_p42 : lw_okq (⟨"HermitLadder$Rows", "spread", "(I)V"⟩, 7) := ⟨⟨by decide +kernel, by decide +kernel⟩, List.mem_of_getElem? (i := 301) (by decide +kernel), List.mem_of_getElem? (i := 986) (by decide +kernel), List.mem_of_getElem? (i := 987) (by decide +kernel)⟩
theorem lw_p43 : lw_okq (⟨"HermitLadder$Rows", "within", "(I)I"⟩, 7) := ⟨⟨by decide +kernel, by decide +kernel⟩, List.mem_of_getElem? (i := 301) (by decide +kernel), List.mem_of_getElem? (i := 990) (by decide +kernel), List.mem_of_getElem? (i := 991) (by decide +kernel)⟩
theorem lw_p44 : lw_okq (⟨"HermitLadder$Rows", "isWanted", "(II)Z"⟩, 7) := ⟨⟨by decide +kernel, by decide +kernel⟩, List.mem_of_getElem? (i := 301) (by decide +kernel), List.mem_of_getElem? (i := 997) (by decide +kernel), List.mem_of_getElem? (i := 998) (by decide +kernel)⟩
theorem lw_p45 : lw_okq (⟨"HermitLadder", "isTenAndThing", "(I)Z"⟩, 18) := ⟨⟨by decide +kernel, by decide +kernel⟩, List.mem_of_getElem? (i := 23) (by decide +kernel), List.mem_of_getElem? (i := 1053) (by decide +kernel), List.mem_of_getElem? (i := 1054) (by decide +kernel)⟩
theorem lw_p46 : lw_okq (⟨"HermitLadder$Sharing", "withThing", "(II)I"⟩, 3) := ⟨⟨by decide +kernel, by decide +kernel⟩, List.mem_of_getElem? (i := 370) (by decide +kernel), List.mem_of_getElem? (i := 1061) (by decide +kernel), List.mem_of_getElem? (i := 1062) (by decide +kernel)⟩
theorem lw_p47 : lw_okq (⟨"HermitLadder$Sharing", "behind", "(II)I"⟩, 3) := ⟨⟨by decide +kernel, by decide +kernel⟩, List.mem_of_getElem? (i := 370) (by decide +kernel), List.mem_of_getElem? (i := 1065) (by decide +kernel), List.mem_of_getElem? (i := 1066) (by decide +kernel)⟩
def lw_privs_3 : List (MethodName × Nat) := [(⟨"HermitLadder", "step", "(LHermitLadder$Pilgrim;I)I"⟩, 18), (⟨"HermitLadder", "keepTrial", "()V"⟩, 18), (⟨"HermitLadder", "remember", "()V"⟩, 18), (⟨"HermitLadder", "follow", "(LHermitLadder$Tray;)I"⟩, 18), (⟨"HermitLadder", "trayRefused", "(I)I"⟩, 18), (⟨"HermitLadder", "comingRefused", "(II)I"⟩, 18), (⟨"HermitLadder$Coming", "leaveFrom", "(I)V"⟩, 6), (⟨"HermitLadder$Moves", "keep", "(II)V"⟩, 5), (⟨"HermitLadder$Moves", "gatherThings", "(III)V"⟩, 5), (⟨"HermitLadder$Coming", "firstDeed", "(II)I"⟩, 6), (⟨"HermitLadder$Rows", "spread", "(I)V"⟩, 7), (⟨"HermitLadder$Rows", "within", "(I)I"⟩, 7), (⟨"HermitLadder$Rows", "isWanted", "(II)Z"⟩, 7), (⟨"HermitLadder", "isTenAndThing", "(I)Z"⟩, 18), (⟨"HermitLadder$Sharing", "withThing", "(II)I"⟩, 3), (⟨"HermitLadder$Sharing", "behind", "(II)I"⟩, 3)]
theorem lw_r3 : ∀ q ∈ lw_privs_3, lw_okq q := List.forall_mem_cons.mpr ⟨lw_p32, List.forall_mem_cons.mpr ⟨lw_p33, List.forall_mem_cons.mpr ⟨lw_p34, List.forall_mem_cons.mpr ⟨lw_p35, List.forall_mem_cons.mpr ⟨lw_p36, List.forall_mem_cons.mpr ⟨lw_p37, List.forall_mem_cons.mpr ⟨lw_p38, List.forall_mem_cons.mpr ⟨lw_p39, List.forall_mem_cons.mpr ⟨lw_p40, List.forall_mem_cons.mpr ⟨lw_p41, List.forall_mem_cons.mpr ⟨lw_p42, List.forall_mem_cons.mpr ⟨lw_p43, List.forall_mem_cons.mpr ⟨lw_p44, List.forall_mem_cons.mpr ⟨lw_p45, List.forall_mem_cons.mpr ⟨lw_p46, List.forall_mem_cons.mpr ⟨lw_p47, fun _ h => absurd h List.not_mem_nil⟩⟩⟩⟩⟩⟩⟩⟩⟩⟩⟩⟩⟩⟩⟩⟩
theorem lw_p48 : lw_okq (⟨"HermitLadder$Sharing", "isFree", "(III)Z"⟩, 3) := ⟨⟨by decide +kernel, by decide +kernel⟩, List.mem_of_getElem? (i := 370) (by decide +kernel), List.mem_of_getElem? (i := 1069) (by decide +kernel), List.mem_of_getElem? (i := 1070) (by decide +kernel)⟩
theorem lw_p49 : lw_okq (⟨"HermitLadder$Sharing", "firstRung", "(II)I"⟩, 3) := ⟨⟨by decide +kernel, by decide +kernel⟩, List.mem_of_getElem? (i := 370) (by decide +kernel), List.mem_of_getElem? (i := 1083) (by decide +kernel), List.mem_of_getElem? (i := 1084) (by decide +kernel)⟩
theorem lw_p50 : lw_okq (⟨"HermitLadder", "timesTillSettled", "()I"⟩, 18) := ⟨⟨by decide +kernel, by decide +kernel⟩, List.mem_of_getElem? (i := 23) (by decide +kernel), List.mem_of_getElem? (i := 1092) (by decide +kernel), List.mem_of_getElem? (i := 1093) (by decide +kernel)⟩
theorem lw_p51 : lw_okq (⟨"HermitLadder", "tallySeen", "(I)I"⟩, 18) := ⟨⟨by decide +kernel, by decide +kernel⟩, List.mem_of_getElem? (i := 23) (by decide +kernel), List.mem_of_getElem? (i := 1114) (by decide +kernel), List.mem_of_getElem? (i := 1115) (by decide +kernel)⟩
theorem lw_p52 : lw_okq (⟨"HermitLadder", "toldRefused", "(IIII)I"⟩, 18) := ⟨⟨by decide +kernel, by decide +kernel⟩, List.mem_of_getElem? (i := 23) (by decide +kernel), List.mem_of_getElem? (i := 1118) (by decide +kernel), List.mem_of_getElem? (i := 1119) (by decide +kernel)⟩
theorem lw_p53 : lw_okq (⟨"HermitLadder$Rows", "dropDeadEnds", "()V"⟩, 7) := ⟨⟨by decide +kernel, by decide +kernel⟩, List.mem_of_getElem? (i := 301) (by decide +kernel), List.mem_of_getElem? (i := 1134) (by decide +kernel), List.mem_of_getElem? (i := 1135) (by decide +kernel)⟩
theorem lw_p54 : lw_okq (⟨"HermitLadder$Rows", "firstOnward", "(II)I"⟩, 7) := ⟨⟨by decide +kernel, by decide +kernel⟩, List.mem_of_getElem? (i := 301) (by decide +kernel), List.mem_of_getElem? (i := 1138) (by decide +kernel), List.mem_of_getElem? (i := 1139) (by decide +kernel)⟩
theorem lw_p55 : lw_okq (⟨"HermitLadder", "windsThatTire", "(LHermitLadder$Tray;)I"⟩, 18) := ⟨⟨by decide +kernel, by decide +kernel⟩, List.mem_of_getElem? (i := 23) (by decide +kernel), List.mem_of_getElem? (i := 1154) (by decide +kernel), List.mem_of_getElem? (i := 1155) (by decide +kernel)⟩
theorem lw_p56 : lw_okq (⟨"HermitLadder", "tiresAsTold", "(LHermitLadder$Tray;)Z"⟩, 18) := ⟨⟨by decide +kernel, by decide +kernel⟩, List.mem_of_getElem? (i := 23) (by decide +kernel), List.mem_of_getElem? (i := 1158) (by decide +kernel), List.mem_of_getElem? (i := 1159) (by decide +kernel)⟩
theorem lw_p57 : lw_okq (⟨"HermitLadder", "mostAlike", "(II)I"⟩, 18) := ⟨⟨by decide +kernel, by decide +kernel⟩, List.mem_of_getElem? (i := 23) (by decide +kernel), List.mem_of_getElem? (i := 1166) (by decide +kernel), List.mem_of_getElem? (i := 1167) (by decide +kernel)⟩
theorem lw_p58 : lw_okq (⟨"HermitLadder$Slips", "explore", "(II)V"⟩, 11) := ⟨⟨by decide +kernel, by decide +kernel⟩, List.mem_of_getElem? (i := 329) (by decide +kernel), List.mem_of_getElem? (i := 1183) (by decide +kernel), List.mem_of_getElem? (i := 1184) (by decide +kernel)⟩
theorem lw_p59 : lw_okq (⟨"HermitLadder$Slips", "reach", "(II)V"⟩, 11) := ⟨⟨by decide +kernel, by decide +kernel⟩, List.mem_of_getElem? (i := 329) (by decide +kernel), List.mem_of_getElem? (i := 1188) (by decide +kernel), List.mem_of_getElem? (i := 1189) (by decide +kernel)⟩
theorem lw_p60 : lw_okq (⟨"HermitLadder$Slips", "reachFrom", "(I)V"⟩, 11) := ⟨⟨by decide +kernel, by decide +kernel⟩, List.mem_of_getElem? (i := 329) (by decide +kernel), List.mem_of_getElem? (i := 1193) (by decide +kernel), List.mem_of_getElem? (i := 1194) (by decide +kernel)⟩
theorem lw_p61 : lw_okq (⟨"HermitLadder$Slips", "reckonWithin", "(I)V"⟩, 11) := ⟨⟨by decide +kernel, by decide +kernel⟩, List.mem_of_getElem? (i := 329) (by decide +kernel), List.mem_of_getElem? (i := 1205) (by decide +kernel), List.mem_of_getElem? (i := 1206) (by decide +kernel)⟩
theorem lw_p62 : lw_okq (⟨"HermitLadder$Slips", "likeliest", "(I)J"⟩, 11) := ⟨⟨by decide +kernel, by decide +kernel⟩, List.mem_of_getElem? (i := 329) (by decide +kernel), List.mem_of_getElem? (i := 1209) (by decide +kernel), List.mem_of_getElem? (i := 1210) (by decide +kernel)⟩
theorem lw_p63 : lw_okq (⟨"HermitLadderModel", "next", "()V"⟩, 42) := ⟨⟨by decide +kernel, by decide +kernel⟩, List.mem_of_getElem? (i := 1268) (by decide +kernel), List.mem_of_getElem? (i := 1417) (by decide +kernel), List.mem_of_getElem? (i := 1418) (by decide +kernel)⟩
def lw_privs_4 : List (MethodName × Nat) := [(⟨"HermitLadder$Sharing", "isFree", "(III)Z"⟩, 3), (⟨"HermitLadder$Sharing", "firstRung", "(II)I"⟩, 3), (⟨"HermitLadder", "timesTillSettled", "()I"⟩, 18), (⟨"HermitLadder", "tallySeen", "(I)I"⟩, 18), (⟨"HermitLadder", "toldRefused", "(IIII)I"⟩, 18), (⟨"HermitLadder$Rows", "dropDeadEnds", "()V"⟩, 7), (⟨"HermitLadder$Rows", "firstOnward", "(II)I"⟩, 7), (⟨"HermitLadder", "windsThatTire", "(LHermitLadder$Tray;)I"⟩, 18), (⟨"HermitLadder", "tiresAsTold", "(LHermitLadder$Tray;)Z"⟩, 18), (⟨"HermitLadder", "mostAlike", "(II)I"⟩, 18), (⟨"HermitLadder$Slips", "explore", "(II)V"⟩, 11), (⟨"HermitLadder$Slips", "reach", "(II)V"⟩, 11), (⟨"HermitLadder$Slips", "reachFrom", "(I)V"⟩, 11), (⟨"HermitLadder$Slips", "reckonWithin", "(I)V"⟩, 11), (⟨"HermitLadder$Slips", "likeliest", "(I)J"⟩, 11), (⟨"HermitLadderModel", "next", "()V"⟩, 42)]
theorem lw_r4 : ∀ q ∈ lw_privs_4, lw_okq q := List.forall_mem_cons.mpr ⟨lw_p48, List.forall_mem_cons.mpr ⟨lw_p49, List.forall_mem_cons.mpr ⟨lw_p50, List.forall_mem_cons.mpr ⟨lw_p51, List.forall_mem_cons.mpr ⟨lw_p52, List.forall_mem_cons.mpr ⟨lw_p53, List.forall_mem_cons.mpr ⟨lw_p54, List.forall_mem_cons.mpr ⟨lw_p55, List.forall_mem_cons.mpr ⟨lw_p56, List.forall_mem_cons.mpr ⟨lw_p57, List.forall_mem_cons.mpr ⟨lw_p58, List.forall_mem_cons.mpr ⟨lw_p59, List.forall_mem_cons.mpr ⟨lw_p60, List.forall_mem_cons.mpr ⟨lw_p61, List.forall_mem_cons.mpr ⟨lw_p62, List.forall_mem_cons.mpr ⟨lw_p63, fun _ h => absurd h List.not_mem_nil⟩⟩⟩⟩⟩⟩⟩⟩⟩⟩⟩⟩⟩⟩⟩⟩
theorem lw_p64 : lw_okq (⟨"HermitLadderModel", "see", "(I)I"⟩, 42) := ⟨⟨by decide +kernel, by decide +kernel⟩, List.mem_of_getElem? (i := 1268) (by decide +kernel), List.mem_of_getElem? (i := 1421) (by decide +kernel), List.mem_of_getElem? (i := 1422) (by decide +kernel)⟩
theorem lw_p65 : lw_okq (⟨"HermitLadderModel", "keyAt", "()I"⟩, 42) := ⟨⟨by decide +kernel, by decide +kernel⟩, List.mem_of_getElem? (i := 1268) (by decide +kernel), List.mem_of_getElem? (i := 1428) (by decide +kernel), List.mem_of_getElem? (i := 1429) (by decide +kernel)⟩
theorem lw_p66 : lw_okq (⟨"HermitLadderModel", "eats", "(I)Z"⟩, 42) := ⟨⟨by decide +kernel, by decide +kernel⟩, List.mem_of_getElem? (i := 1268) (by decide +kernel), List.mem_of_getElem? (i := 1439) (by decide +kernel), List.mem_of_getElem? (i := 1440) (by decide +kernel)⟩
theorem lw_p67 : lw_okq (⟨"HermitLadderModel", "is", "(I)Z"⟩, 42) := ⟨⟨by decide +kernel, by decide +kernel⟩, List.mem_of_getElem? (i := 1268) (by decide +kernel), List.mem_of_getElem? (i := 1443) (by decide +kernel), List.mem_of_getElem? (i := 1444) (by decide +kernel)⟩
theorem lw_p68 : lw_okq (⟨"HermitLadderModel", "fails", "(I)V"⟩, 42) := ⟨⟨by decide +kernel, by decide +kernel⟩, List.mem_of_getElem? (i := 1268) (by decide +kernel), List.mem_of_getElem? (i := 1447) (by decide +kernel), List.mem_of_getElem? (i := 1448) (by decide +kernel)⟩
theorem lw_p69 : lw_okq (⟨"HermitLadderModel", "takes", "(II)I"⟩, 42) := ⟨⟨by decide +kernel, by decide +kernel⟩, List.mem_of_getElem? (i := 1268) (by decide +kernel), List.mem_of_getElem? (i := 1451) (by decide +kernel), List.mem_of_getElem? (i := 1452) (by decide +kernel)⟩
theorem lw_p70 : lw_okq (⟨"HermitLadderModel", "closes", "()V"⟩, 42) := ⟨⟨by decide +kernel, by decide +kernel⟩, List.mem_of_getElem? (i := 1268) (by decide +kernel), List.mem_of_getElem? (i := 1455) (by decide +kernel), List.mem_of_getElem? (i := 1456) (by decide +kernel)⟩
theorem lw_p71 : lw_okq (⟨"HermitLadderModel", "readLine", "()V"⟩, 42) := ⟨⟨by decide +kernel, by decide +kernel⟩, List.mem_of_getElem? (i := 1268) (by decide +kernel), List.mem_of_getElem? (i := 1459) (by decide +kernel), List.mem_of_getElem? (i := 1460) (by decide +kernel)⟩
theorem lw_p72 : lw_okq (⟨"HermitLadderModel", "readHole", "()V"⟩, 42) := ⟨⟨by decide +kernel, by decide +kernel⟩, List.mem_of_getElem? (i := 1268) (by decide +kernel), List.mem_of_getElem? (i := 1463) (by decide +kernel), List.mem_of_getElem? (i := 1464) (by decide +kernel)⟩
theorem lw_p73 : lw_okq (⟨"HermitLadderModel", "readFlag", "(I)Z"⟩, 42) := ⟨⟨by decide +kernel, by decide +kernel⟩, List.mem_of_getElem? (i := 1268) (by decide +kernel), List.mem_of_getElem? (i := 1467) (by decide +kernel), List.mem_of_getElem? (i := 1468) (by decide +kernel)⟩
theorem lw_p74 : lw_okq (⟨"HermitLadderModel", "readThing", "()I"⟩, 42) := ⟨⟨by decide +kernel, by decide +kernel⟩, List.mem_of_getElem? (i := 1268) (by decide +kernel), List.mem_of_getElem? (i := 1471) (by decide +kernel), List.mem_of_getElem? (i := 1472) (by decide +kernel)⟩
theorem lw_p75 : lw_okq (⟨"HermitLadderModel", "readPilgrim", "()V"⟩, 42) := ⟨⟨by decide +kernel, by decide +kernel⟩, List.mem_of_getElem? (i := 1268) (by decide +kernel), List.mem_of_getElem? (i := 1475) (by decide +kernel), List.mem_of_getElem? (i := 1476) (by decide +kernel)⟩
theorem lw_p76 : lw_okq (⟨"HermitLadderModel", "readLaw", "(I)V"⟩, 42) := ⟨⟨by decide +kernel, by decide +kernel⟩, List.mem_of_getElem? (i := 1268) (by decide +kernel), List.mem_of_getElem? (i := 1479) (by decide +kernel), List.mem_of_getElem? (i := 1480) (by decide +kernel)⟩
theorem lw_p77 : lw_okq (⟨"HermitLadderModel", "readSum", "(I)V"⟩, 42) := ⟨⟨by decide +kernel, by decide +kernel⟩, List.mem_of_getElem? (i := 1268) (by decide +kernel), List.mem_of_getElem? (i := 1483) (by decide +kernel), List.mem_of_getElem? (i := 1484) (by decide +kernel)⟩
theorem lw_p78 : lw_okq (⟨"HermitLadderModel", "readTerm", "(I)V"⟩, 42) := ⟨⟨by decide +kernel, by decide +kernel⟩, List.mem_of_getElem? (i := 1268) (by decide +kernel), List.mem_of_getElem? (i := 1487) (by decide +kernel), List.mem_of_getElem? (i := 1488) (by decide +kernel)⟩
theorem lw_p79 : lw_okq (⟨"HermitLadderModel", "readAtom", "(I)V"⟩, 42) := ⟨⟨by decide +kernel, by decide +kernel⟩, List.mem_of_getElem? (i := 1268) (by decide +kernel), List.mem_of_getElem? (i := 1491) (by decide +kernel), List.mem_of_getElem? (i := 1492) (by decide +kernel)⟩
def lw_privs_5 : List (MethodName × Nat) := [(⟨"HermitLadderModel", "see", "(I)I"⟩, 42), (⟨"HermitLadderModel", "keyAt", "()I"⟩, 42), (⟨"HermitLadderModel", "eats", "(I)Z"⟩, 42), (⟨"HermitLadderModel", "is", "(I)Z"⟩, 42), (⟨"HermitLadderModel", "fails", "(I)V"⟩, 42), (⟨"HermitLadderModel", "takes", "(II)I"⟩, 42), (⟨"HermitLadderModel", "closes", "()V"⟩, 42), (⟨"HermitLadderModel", "readLine", "()V"⟩, 42), (⟨"HermitLadderModel", "readHole", "()V"⟩, 42), (⟨"HermitLadderModel", "readFlag", "(I)Z"⟩, 42), (⟨"HermitLadderModel", "readThing", "()I"⟩, 42), (⟨"HermitLadderModel", "readPilgrim", "()V"⟩, 42), (⟨"HermitLadderModel", "readLaw", "(I)V"⟩, 42), (⟨"HermitLadderModel", "readSum", "(I)V"⟩, 42), (⟨"HermitLadderModel", "readTerm", "(I)V"⟩, 42), (⟨"HermitLadderModel", "readAtom", "(I)V"⟩, 42)]
theorem lw_r5 : ∀ q ∈ lw_privs_5, lw_okq q := List.forall_mem_cons.mpr ⟨lw_p64, List.forall_mem_cons.mpr ⟨lw_p65, List.forall_mem_cons.mpr ⟨lw_p66, List.forall_mem_cons.mpr ⟨lw_p67, List.forall_mem_cons.mpr ⟨lw_p68, List.forall_mem_cons.mpr ⟨lw_p69, List.forall_mem_cons.mpr ⟨lw_p70, List.forall_mem_cons.mpr ⟨lw_p71, List.forall_mem_cons.mpr ⟨lw_p72, List.forall_mem_cons.mpr ⟨lw_p73, List.forall_mem_cons.mpr ⟨lw_p74, List.forall_mem_cons.mpr ⟨lw_p75, List.forall_mem_cons.mpr ⟨lw_p76, List.forall_mem_cons.mpr ⟨lw_p77, List.forall_mem_cons.mpr ⟨lw_p78, List.forall_mem_cons.mpr ⟨lw_p79, fun _ h => absurd h List.not_mem_nil⟩⟩⟩⟩⟩⟩⟩⟩⟩⟩⟩⟩⟩⟩⟩⟩
theorem lw_p80 : lw_okq (⟨"HermitLadderModel", "codes", "(I)V"⟩, 42) := ⟨⟨by decide +kernel, by decide +kernel⟩, List.mem_of_getElem? (i := 1268) (by decide +kernel), List.mem_of_getElem? (i := 1495) (by decide +kernel), List.mem_of_getElem? (i := 1496) (by decide +kernel)⟩
theorem lw_p81 : lw_okq (⟨"HermitLadderModel", "wordOf", "(I)I"⟩, 42) := ⟨⟨by decide +kernel, by decide +kernel⟩, List.mem_of_getElem? (i := 1268) (by decide +kernel), List.mem_of_getElem? (i := 1499) (by decide +kernel), List.mem_of_getElem? (i := 1500) (by decide +kernel)⟩
theorem lw_p82 : lw_okq (⟨"HermitLadderModel", "goesIn", "(I)Z"⟩, 42) := ⟨⟨by decide +kernel, by decide +kernel⟩, List.mem_of_getElem? (i := 1268) (by decide +kernel), List.mem_of_getElem? (i := 1503) (by decide +kernel), List.mem_of_getElem? (i := 1504) (by decide +kernel)⟩
theorem lw_p83 : lw_okq (⟨"HermitLadderModel", "readIf", "(I)V"⟩, 42) := ⟨⟨by decide +kernel, by decide +kernel⟩, List.mem_of_getElem? (i := 1268) (by decide +kernel), List.mem_of_getElem? (i := 1507) (by decide +kernel), List.mem_of_getElem? (i := 1508) (by decide +kernel)⟩
theorem lw_p84 : lw_okq (⟨"HermitLadderModel", "readTruth", "(I)V"⟩, 42) := ⟨⟨by decide +kernel, by decide +kernel⟩, List.mem_of_getElem? (i := 1268) (by decide +kernel), List.mem_of_getElem? (i := 1511) (by decide +kernel), List.mem_of_getElem? (i := 1512) (by decide +kernel)⟩
theorem lw_p85 : lw_okq (⟨"HermitLadderModel", "readBoth", "(I)V"⟩, 42) := ⟨⟨by decide +kernel, by decide +kernel⟩, List.mem_of_getElem? (i := 1268) (by decide +kernel), List.mem_of_getElem? (i := 1515) (by decide +kernel), List.mem_of_getElem? (i := 1516) (by decide +kernel)⟩
theorem lw_p86 : lw_okq (⟨"HermitLadderModel", "readUnit", "(I)V"⟩, 42) := ⟨⟨by decide +kernel, by decide +kernel⟩, List.mem_of_getElem? (i := 1268) (by decide +kernel), List.mem_of_getElem? (i := 1519) (by decide +kernel), List.mem_of_getElem? (i := 1520) (by decide +kernel)⟩
theorem lw_p87 : lw_okq (⟨"HermitLadderModel", "isRung", "(I)Z"⟩, 42) := ⟨⟨by decide +kernel, by decide +kernel⟩, List.mem_of_getElem? (i := 1268) (by decide +kernel), List.mem_of_getElem? (i := 1531) (by decide +kernel), List.mem_of_getElem? (i := 1532) (by decide +kernel)⟩
theorem lw_p88 : lw_okq (⟨"HermitLadderModel", "whyAct", "(J)I"⟩, 42) := ⟨⟨by decide +kernel, by decide +kernel⟩, List.mem_of_getElem? (i := 1268) (by decide +kernel), List.mem_of_getElem? (i := 1539) (by decide +kernel), List.mem_of_getElem? (i := 1540) (by decide +kernel)⟩
theorem lw_p89 : lw_okq (⟨"HermitLadderModel", "moveOf", "(J)I"⟩, 42) := ⟨⟨by decide +kernel, by decide +kernel⟩, List.mem_of_getElem? (i := 1268) (by decide +kernel), List.mem_of_getElem? (i := 1543) (by decide +kernel), List.mem_of_getElem? (i := 1544) (by decide +kernel)⟩
theorem lw_p90 : lw_okq (⟨"HermitLadderModel", "isThing", "(J)Z"⟩, 42) := ⟨⟨by decide +kernel, by decide +kernel⟩, List.mem_of_getElem? (i := 1268) (by decide +kernel), List.mem_of_getElem? (i := 1550) (by decide +kernel), List.mem_of_getElem? (i := 1551) (by decide +kernel)⟩
theorem lw_p91 : lw_okq (⟨"HermitLadderModel", "standNow", "()I"⟩, 42) := ⟨⟨by decide +kernel, by decide +kernel⟩, List.mem_of_getElem? (i := 1268) (by decide +kernel), List.mem_of_getElem? (i := 1555) (by decide +kernel), List.mem_of_getElem? (i := 1556) (by decide +kernel)⟩
theorem lw_p92 : lw_okq (⟨"HermitLadderModel", "whyBy", "(III)I"⟩, 42) := ⟨⟨by decide +kernel, by decide +kernel⟩, List.mem_of_getElem? (i := 1268) (by decide +kernel), List.mem_of_getElem? (i := 1562) (by decide +kernel), List.mem_of_getElem? (i := 1563) (by decide +kernel)⟩
theorem lw_p93 : lw_okq (⟨"HermitLadderModel", "isBarred", "(II)Z"⟩, 42) := ⟨⟨by decide +kernel, by decide +kernel⟩, List.mem_of_getElem? (i := 1268) (by decide +kernel), List.mem_of_getElem? (i := 1572) (by decide +kernel), List.mem_of_getElem? (i := 1573) (by decide +kernel)⟩
theorem lw_p94 : lw_okq (⟨"HermitLadderModel", "reckons", "(III)I"⟩, 42) := ⟨⟨by decide +kernel, by decide +kernel⟩, List.mem_of_getElem? (i := 1268) (by decide +kernel), List.mem_of_getElem? (i := 1576) (by decide +kernel), List.mem_of_getElem? (i := 1577) (by decide +kernel)⟩
theorem lw_p95 : lw_okq (⟨"HermitLadderModel", "actedTo", "(III)I"⟩, 42) := ⟨⟨by decide +kernel, by decide +kernel⟩, List.mem_of_getElem? (i := 1268) (by decide +kernel), List.mem_of_getElem? (i := 1595) (by decide +kernel), List.mem_of_getElem? (i := 1596) (by decide +kernel)⟩
def lw_privs_6 : List (MethodName × Nat) := [(⟨"HermitLadderModel", "codes", "(I)V"⟩, 42), (⟨"HermitLadderModel", "wordOf", "(I)I"⟩, 42), (⟨"HermitLadderModel", "goesIn", "(I)Z"⟩, 42), (⟨"HermitLadderModel", "readIf", "(I)V"⟩, 42), (⟨"HermitLadderModel", "readTruth", "(I)V"⟩, 42), (⟨"HermitLadderModel", "readBoth", "(I)V"⟩, 42), (⟨"HermitLadderModel", "readUnit", "(I)V"⟩, 42), (⟨"HermitLadderModel", "isRung", "(I)Z"⟩, 42), (⟨"HermitLadderModel", "whyAct", "(J)I"⟩, 42), (⟨"HermitLadderModel", "moveOf", "(J)I"⟩, 42), (⟨"HermitLadderModel", "isThing", "(J)Z"⟩, 42), (⟨"HermitLadderModel", "standNow", "()I"⟩, 42), (⟨"HermitLadderModel", "whyBy", "(III)I"⟩, 42), (⟨"HermitLadderModel", "isBarred", "(II)Z"⟩, 42), (⟨"HermitLadderModel", "reckons", "(III)I"⟩, 42), (⟨"HermitLadderModel", "actedTo", "(III)I"⟩, 42)]
theorem lw_r6 : ∀ q ∈ lw_privs_6, lw_okq q := List.forall_mem_cons.mpr ⟨lw_p80, List.forall_mem_cons.mpr ⟨lw_p81, List.forall_mem_cons.mpr ⟨lw_p82, List.forall_mem_cons.mpr ⟨lw_p83, List.forall_mem_cons.mpr ⟨lw_p84, List.forall_mem_cons.mpr ⟨lw_p85, List.forall_mem_cons.mpr ⟨lw_p86, List.forall_mem_cons.mpr ⟨lw_p87, List.forall_mem_cons.mpr ⟨lw_p88, List.forall_mem_cons.mpr ⟨lw_p89, List.forall_mem_cons.mpr ⟨lw_p90, List.forall_mem_cons.mpr ⟨lw_p91, List.forall_mem_cons.mpr ⟨lw_p92, List.forall_mem_cons.mpr ⟨lw_p93, List.forall_mem_cons.mpr ⟨lw_p94, List.forall_mem_cons.mpr ⟨lw_p95, fun _ h => absurd h List.not_mem_nil⟩⟩⟩⟩⟩⟩⟩⟩⟩⟩⟩⟩⟩⟩⟩⟩
theorem lw_p96 : lw_okq (⟨"HermitLadderModel", "tiredTo", "(II)I"⟩, 42) := ⟨⟨by decide +kernel, by decide +kernel⟩, List.mem_of_getElem? (i := 1268) (by decide +kernel), List.mem_of_getElem? (i := 1599) (by decide +kernel), List.mem_of_getElem? (i := 1600) (by decide +kernel)⟩
theorem lw_p97 : lw_okq (⟨"HermitLadderModel", "keeps", "()V"⟩, 42) := ⟨⟨by decide +kernel, by decide +kernel⟩, List.mem_of_getElem? (i := 1268) (by decide +kernel), List.mem_of_getElem? (i := 1607) (by decide +kernel), List.mem_of_getElem? (i := 1608) (by decide +kernel)⟩
theorem lw_p98 : lw_okq (⟨"HermitLadderModel", "acts", "(I)V"⟩, 42) := ⟨⟨by decide +kernel, by decide +kernel⟩, List.mem_of_getElem? (i := 1268) (by decide +kernel), List.mem_of_getElem? (i := 1611) (by decide +kernel), List.mem_of_getElem? (i := 1612) (by decide +kernel)⟩
theorem lw_p99 : lw_okq (⟨"HermitLadderModel", "isStand", "(I)V"⟩, 42) := ⟨⟨by decide +kernel, by decide +kernel⟩, List.mem_of_getElem? (i := 1268) (by decide +kernel), List.mem_of_getElem? (i := 1615) (by decide +kernel), List.mem_of_getElem? (i := 1616) (by decide +kernel)⟩
theorem lw_p100 : lw_okq (⟨"HermitLadderModel", "notes", "()V"⟩, 42) := ⟨⟨by decide +kernel, by decide +kernel⟩, List.mem_of_getElem? (i := 1268) (by decide +kernel), List.mem_of_getElem? (i := 1619) (by decide +kernel), List.mem_of_getElem? (i := 1620) (by decide +kernel)⟩
theorem lw_p101 : lw_okq (⟨"HermitLadderModel", "habitOf", "(I)I"⟩, 42) := ⟨⟨by decide +kernel, by decide +kernel⟩, List.mem_of_getElem? (i := 1268) (by decide +kernel), List.mem_of_getElem? (i := 1633) (by decide +kernel), List.mem_of_getElem? (i := 1634) (by decide +kernel)⟩
theorem lw_p102 : lw_okq (⟨"HermitLadderModel", "noTray", "(I)I"⟩, 42) := ⟨⟨by decide +kernel, by decide +kernel⟩, List.mem_of_getElem? (i := 1268) (by decide +kernel), List.mem_of_getElem? (i := 1646) (by decide +kernel), List.mem_of_getElem? (i := 1647) (by decide +kernel)⟩
theorem lw_p103 : lw_okq (⟨"HermitLadderModel", "tells", "(I)I"⟩, 42) := ⟨⟨by decide +kernel, by decide +kernel⟩, List.mem_of_getElem? (i := 1268) (by decide +kernel), List.mem_of_getElem? (i := 1650) (by decide +kernel), List.mem_of_getElem? (i := 1651) (by decide +kernel)⟩
theorem lw_p104 : lw_okq (⟨"HermitLadderModel", "whyNot", "(J)I"⟩, 42) := ⟨⟨by decide +kernel, by decide +kernel⟩, List.mem_of_getElem? (i := 1268) (by decide +kernel), List.mem_of_getElem? (i := 1654) (by decide +kernel), List.mem_of_getElem? (i := 1655) (by decide +kernel)⟩
theorem lw_p105 : lw_okq (⟨"HermitLadderModel", "does", "(I)V"⟩, 42) := ⟨⟨by decide +kernel, by decide +kernel⟩, List.mem_of_getElem? (i := 1268) (by decide +kernel), List.mem_of_getElem? (i := 1660) (by decide +kernel), List.mem_of_getElem? (i := 1661) (by decide +kernel)⟩
theorem lw_p106 : lw_okq (⟨"HermitLadderModel", "isAgain", "()V"⟩, 42) := ⟨⟨by decide +kernel, by decide +kernel⟩, List.mem_of_getElem? (i := 1268) (by decide +kernel), List.mem_of_getElem? (i := 1664) (by decide +kernel), List.mem_of_getElem? (i := 1665) (by decide +kernel)⟩
theorem lw_p107 : lw_okq (⟨"HermitLadderModel", "drawn", "()I"⟩, 42) := ⟨⟨by decide +kernel, by decide +kernel⟩, List.mem_of_getElem? (i := 1268) (by decide +kernel), List.mem_of_getElem? (i := 1677) (by decide +kernel), List.mem_of_getElem? (i := 1678) (by decide +kernel)⟩
theorem lw_p108 : lw_okq (⟨"HermitLadderModel", "draw", "(I)I"⟩, 42) := ⟨⟨by decide +kernel, by decide +kernel⟩, List.mem_of_getElem? (i := 1268) (by decide +kernel), List.mem_of_getElem? (i := 1681) (by decide +kernel), List.mem_of_getElem? (i := 1682) (by decide +kernel)⟩
theorem lw_p109 : lw_okq (⟨"HermitLadderModel", "noComing", "(II)I"⟩, 42) := ⟨⟨by decide +kernel, by decide +kernel⟩, List.mem_of_getElem? (i := 1268) (by decide +kernel), List.mem_of_getElem? (i := 1690) (by decide +kernel), List.mem_of_getElem? (i := 1691) (by decide +kernel)⟩
theorem lw_p110 : lw_okq (⟨"HermitLadderModel", "isSet", "(I)Z"⟩, 42) := ⟨⟨by decide +kernel, by decide +kernel⟩, List.mem_of_getElem? (i := 1268) (by decide +kernel), List.mem_of_getElem? (i := 1694) (by decide +kernel), List.mem_of_getElem? (i := 1695) (by decide +kernel)⟩
theorem lw_p111 : lw_okq (⟨"HermitLadderModel", "laysFar", "(II)I"⟩, 42) := ⟨⟨by decide +kernel, by decide +kernel⟩, List.mem_of_getElem? (i := 1268) (by decide +kernel), List.mem_of_getElem? (i := 1698) (by decide +kernel), List.mem_of_getElem? (i := 1699) (by decide +kernel)⟩
def lw_privs_7 : List (MethodName × Nat) := [(⟨"HermitLadderModel", "tiredTo", "(II)I"⟩, 42), (⟨"HermitLadderModel", "keeps", "()V"⟩, 42), (⟨"HermitLadderModel", "acts", "(I)V"⟩, 42), (⟨"HermitLadderModel", "isStand", "(I)V"⟩, 42), (⟨"HermitLadderModel", "notes", "()V"⟩, 42), (⟨"HermitLadderModel", "habitOf", "(I)I"⟩, 42), (⟨"HermitLadderModel", "noTray", "(I)I"⟩, 42), (⟨"HermitLadderModel", "tells", "(I)I"⟩, 42), (⟨"HermitLadderModel", "whyNot", "(J)I"⟩, 42), (⟨"HermitLadderModel", "does", "(I)V"⟩, 42), (⟨"HermitLadderModel", "isAgain", "()V"⟩, 42), (⟨"HermitLadderModel", "drawn", "()I"⟩, 42), (⟨"HermitLadderModel", "draw", "(I)I"⟩, 42), (⟨"HermitLadderModel", "noComing", "(II)I"⟩, 42), (⟨"HermitLadderModel", "isSet", "(I)Z"⟩, 42), (⟨"HermitLadderModel", "laysFar", "(II)I"⟩, 42)]
theorem lw_r7 : ∀ q ∈ lw_privs_7, lw_okq q := List.forall_mem_cons.mpr ⟨lw_p96, List.forall_mem_cons.mpr ⟨lw_p97, List.forall_mem_cons.mpr ⟨lw_p98, List.forall_mem_cons.mpr ⟨lw_p99, List.forall_mem_cons.mpr ⟨lw_p100, List.forall_mem_cons.mpr ⟨lw_p101, List.forall_mem_cons.mpr ⟨lw_p102, List.forall_mem_cons.mpr ⟨lw_p103, List.forall_mem_cons.mpr ⟨lw_p104, List.forall_mem_cons.mpr ⟨lw_p105, List.forall_mem_cons.mpr ⟨lw_p106, List.forall_mem_cons.mpr ⟨lw_p107, List.forall_mem_cons.mpr ⟨lw_p108, List.forall_mem_cons.mpr ⟨lw_p109, List.forall_mem_cons.mpr ⟨lw_p110, List.forall_mem_cons.mpr ⟨lw_p111, fun _ h => absurd h List.not_mem_nil⟩⟩⟩⟩⟩⟩⟩⟩⟩⟩⟩⟩⟩⟩⟩⟩
theorem lw_p112 : lw_okq (⟨"HermitLadderModel", "laysStands", "(Z)V"⟩, 42) := ⟨⟨by decide +kernel, by decide +kernel⟩, List.mem_of_getElem? (i := 1268) (by decide +kernel), List.mem_of_getElem? (i := 1702) (by decide +kernel), List.mem_of_getElem? (i := 1703) (by decide +kernel)⟩
theorem lw_p113 : lw_okq (⟨"HermitLadderModel", "adds", "(I)V"⟩, 42) := ⟨⟨by decide +kernel, by decide +kernel⟩, List.mem_of_getElem? (i := 1268) (by decide +kernel), List.mem_of_getElem? (i := 1706) (by decide +kernel), List.mem_of_getElem? (i := 1707) (by decide +kernel)⟩
theorem lw_p114 : lw_okq (⟨"HermitLadderModel", "isMove", "(I)Z"⟩, 42) := ⟨⟨by decide +kernel, by decide +kernel⟩, List.mem_of_getElem? (i := 1268) (by decide +kernel), List.mem_of_getElem? (i := 1710) (by decide +kernel), List.mem_of_getElem? (i := 1711) (by decide +kernel)⟩
theorem lw_p115 : lw_okq (⟨"HermitLadderModel", "farBy", "(II)I"⟩, 42) := ⟨⟨by decide +kernel, by decide +kernel⟩, List.mem_of_getElem? (i := 1268) (by decide +kernel), List.mem_of_getElem? (i := 1721) (by decide +kernel), List.mem_of_getElem? (i := 1722) (by decide +kernel)⟩
theorem lw_p116 : lw_okq (⟨"HermitLadderModel", "deedAt", "(I)I"⟩, 42) := ⟨⟨by decide +kernel, by decide +kernel⟩, List.mem_of_getElem? (i := 1268) (by decide +kernel), List.mem_of_getElem? (i := 1729) (by decide +kernel), List.mem_of_getElem? (i := 1730) (by decide +kernel)⟩
theorem lw_p117 : lw_okq (⟨"HermitLadderModel", "isLanding", "(II)Z"⟩, 42) := ⟨⟨by decide +kernel, by decide +kernel⟩, List.mem_of_getElem? (i := 1268) (by decide +kernel), List.mem_of_getElem? (i := 1761) (by decide +kernel), List.mem_of_getElem? (i := 1762) (by decide +kernel)⟩
theorem lw_p118 : lw_okq (⟨"HermitLadderModel", "goesShare", "(IIIII)V"⟩, 42) := ⟨⟨by decide +kernel, by decide +kernel⟩, List.mem_of_getElem? (i := 1268) (by decide +kernel), List.mem_of_getElem? (i := 1769) (by decide +kernel), List.mem_of_getElem? (i := 1770) (by decide +kernel)⟩
theorem lw_p119 : lw_okq (⟨"HermitLadderModel", "laysRow", "()V"⟩, 42) := ⟨⟨by decide +kernel, by decide +kernel⟩, List.mem_of_getElem? (i := 1268) (by decide +kernel), List.mem_of_getElem? (i := 1778) (by decide +kernel), List.mem_of_getElem? (i := 1779) (by decide +kernel)⟩
theorem lw_p120 : lw_okq (⟨"HermitLadderModel", "noSeen", "(I)I"⟩, 42) := ⟨⟨by decide +kernel, by decide +kernel⟩, List.mem_of_getElem? (i := 1268) (by decide +kernel), List.mem_of_getElem? (i := 1794) (by decide +kernel), List.mem_of_getElem? (i := 1795) (by decide +kernel)⟩
theorem lw_p121 : lw_okq (⟨"HermitLadderModel", "laysSeen", "(II)J"⟩, 42) := ⟨⟨by decide +kernel, by decide +kernel⟩, List.mem_of_getElem? (i := 1268) (by decide +kernel), List.mem_of_getElem? (i := 1800) (by decide +kernel), List.mem_of_getElem? (i := 1801) (by decide +kernel)⟩
theorem lw_p122 : lw_okq (⟨"HermitLadderModel", "isSeen", "(III)Z"⟩, 42) := ⟨⟨by decide +kernel, by decide +kernel⟩, List.mem_of_getElem? (i := 1268) (by decide +kernel), List.mem_of_getElem? (i := 1804) (by decide +kernel), List.mem_of_getElem? (i := 1805) (by decide +kernel)⟩
theorem lw_p123 : lw_okq (⟨"HermitLadderModel", "noTired", "(I)I"⟩, 42) := ⟨⟨by decide +kernel, by decide +kernel⟩, List.mem_of_getElem? (i := 1268) (by decide +kernel), List.mem_of_getElem? (i := 1820) (by decide +kernel), List.mem_of_getElem? (i := 1821) (by decide +kernel)⟩
theorem lw_p124 : lw_okq (⟨"HermitLadderModel", "windsOf", "(I)I"⟩, 42) := ⟨⟨by decide +kernel, by decide +kernel⟩, List.mem_of_getElem? (i := 1268) (by decide +kernel), List.mem_of_getElem? (i := 1826) (by decide +kernel), List.mem_of_getElem? (i := 1827) (by decide +kernel)⟩
theorem lw_p125 : lw_okq (⟨"HermitLadderModel", "mostAlike", "(II)I"⟩, 42) := ⟨⟨by decide +kernel, by decide +kernel⟩, List.mem_of_getElem? (i := 1268) (by decide +kernel), List.mem_of_getElem? (i := 1834) (by decide +kernel), List.mem_of_getElem? (i := 1835) (by decide +kernel)⟩
theorem lw_p126 : lw_okq (⟨"HermitLadderModel", "laysStood", "(II)V"⟩, 42) := ⟨⟨by decide +kernel, by decide +kernel⟩, List.mem_of_getElem? (i := 1268) (by decide +kernel), List.mem_of_getElem? (i := 1842) (by decide +kernel), List.mem_of_getElem? (i := 1843) (by decide +kernel)⟩
theorem lw_p127 : lw_okq (⟨"HermitLadderModel", "standsBy", "(III)Z"⟩, 42) := ⟨⟨by decide +kernel, by decide +kernel⟩, List.mem_of_getElem? (i := 1268) (by decide +kernel), List.mem_of_getElem? (i := 1846) (by decide +kernel), List.mem_of_getElem? (i := 1847) (by decide +kernel)⟩
def lw_privs_8 : List (MethodName × Nat) := [(⟨"HermitLadderModel", "laysStands", "(Z)V"⟩, 42), (⟨"HermitLadderModel", "adds", "(I)V"⟩, 42), (⟨"HermitLadderModel", "isMove", "(I)Z"⟩, 42), (⟨"HermitLadderModel", "farBy", "(II)I"⟩, 42), (⟨"HermitLadderModel", "deedAt", "(I)I"⟩, 42), (⟨"HermitLadderModel", "isLanding", "(II)Z"⟩, 42), (⟨"HermitLadderModel", "goesShare", "(IIIII)V"⟩, 42), (⟨"HermitLadderModel", "laysRow", "()V"⟩, 42), (⟨"HermitLadderModel", "noSeen", "(I)I"⟩, 42), (⟨"HermitLadderModel", "laysSeen", "(II)J"⟩, 42), (⟨"HermitLadderModel", "isSeen", "(III)Z"⟩, 42), (⟨"HermitLadderModel", "noTired", "(I)I"⟩, 42), (⟨"HermitLadderModel", "windsOf", "(I)I"⟩, 42), (⟨"HermitLadderModel", "mostAlike", "(II)I"⟩, 42), (⟨"HermitLadderModel", "laysStood", "(II)V"⟩, 42), (⟨"HermitLadderModel", "standsBy", "(III)Z"⟩, 42)]
theorem lw_r8 : ∀ q ∈ lw_privs_8, lw_okq q := List.forall_mem_cons.mpr ⟨lw_p112, List.forall_mem_cons.mpr ⟨lw_p113, List.forall_mem_cons.mpr ⟨lw_p114, List.forall_mem_cons.mpr ⟨lw_p115, List.forall_mem_cons.mpr ⟨lw_p116, List.forall_mem_cons.mpr ⟨lw_p117, List.forall_mem_cons.mpr ⟨lw_p118, List.forall_mem_cons.mpr ⟨lw_p119, List.forall_mem_cons.mpr ⟨lw_p120, List.forall_mem_cons.mpr ⟨lw_p121, List.forall_mem_cons.mpr ⟨lw_p122, List.forall_mem_cons.mpr ⟨lw_p123, List.forall_mem_cons.mpr ⟨lw_p124, List.forall_mem_cons.mpr ⟨lw_p125, List.forall_mem_cons.mpr ⟨lw_p126, List.forall_mem_cons.mpr ⟨lw_p127, fun _ h => absurd h List.not_mem_nil⟩⟩⟩⟩⟩⟩⟩⟩⟩⟩⟩⟩⟩⟩⟩⟩
theorem lw_p128 : lw_okq (⟨"HermitLadderModel", "laysLikely", "(II)I"⟩, 42) := ⟨⟨by decide +kernel, by decide +kernel⟩, List.mem_of_getElem? (i := 1268) (by decide +kernel), List.mem_of_getElem? (i := 1854) (by decide +kernel), List.mem_of_getElem? (i := 1855) (by decide +kernel)⟩
theorem lw_p129 : lw_okq (⟨"HermitLadderModel", "likelyBy", "(III)I"⟩, 42) := ⟨⟨by decide +kernel, by decide +kernel⟩, List.mem_of_getElem? (i := 1268) (by decide +kernel), List.mem_of_getElem? (i := 1861) (by decide +kernel), List.mem_of_getElem? (i := 1862) (by decide +kernel)⟩
def lw_privs_9 : List (MethodName × Nat) := [(⟨"HermitLadderModel", "laysLikely", "(II)I"⟩, 42), (⟨"HermitLadderModel", "likelyBy", "(III)I"⟩, 42)]
theorem lw_r9 : ∀ q ∈ lw_privs_9, lw_okq q := List.forall_mem_cons.mpr ⟨lw_p128, List.forall_mem_cons.mpr ⟨lw_p129, fun _ h => absurd h List.not_mem_nil⟩⟩
def lw_privs : List (MethodName × Nat) := lw_privs_1 ++ (lw_privs_2 ++ (lw_privs_3 ++ (lw_privs_4 ++ (lw_privs_5 ++ (lw_privs_6 ++ (lw_privs_7 ++ (lw_privs_8 ++ (lw_privs_9))))))))
def lw_tbl : List Cond := k2_sels lw_privs ++ tables_1
theorem lw_privs_ok : ∀ q ∈ lw_privs, lw_okq q := by
  show ∀ q ∈ lw_privs_1 ++ (lw_privs_2 ++ (lw_privs_3 ++ (lw_privs_4 ++ (lw_privs_5 ++ (lw_privs_6 ++ (lw_privs_7 ++ (lw_privs_8 ++ (lw_privs_9)))))))), lw_okq q
  exact List.forall_mem_append.mpr ⟨lw_r1, List.forall_mem_append.mpr ⟨lw_r2, List.forall_mem_append.mpr ⟨lw_r3, List.forall_mem_append.mpr ⟨lw_r4, List.forall_mem_append.mpr ⟨lw_r5, List.forall_mem_append.mpr ⟨lw_r6, List.forall_mem_append.mpr ⟨lw_r7, List.forall_mem_append.mpr ⟨lw_r8, lw_r9⟩⟩⟩⟩⟩⟩⟩⟩

def zq_P : List Nat := [164, 165, 158, 159, 257, 175, 180, 184, 206, 166, 194, 599, 170, 189, 192, 198, 200, 203, 208, 210, 213, 216, 219, 600, 331, 136, 332, 856, 857, 859, 858, 150, 889, 949, 1056, 1177, 800, 381, 382, 384, 386, 388, 389, 392, 383, 876, 362, 1066, 1067, 1068, 137, 1069, 365, 356, 355, 181, 176, 899, 131, 900, 902, 903, 922, 923, 1070, 1072, 39, 1073, 357, 361, 904, 906, 27, 907, 908, 887, 888, 132, 909, 910, 911, 135, 912, 333, 168, 334, 217, 220, 211, 214, 944, 594, 144, 595, 945, 644, 645, 915, 916, 151, 917, 918, 919, 920, 924, 926, 28, 927, 335, 185, 337, 173, 177, 928, 930, 29, 931, 207, 336, 932, 934, 30, 935, 936, 937, 938, 939, 940, 941, 942, 943, 520, 521, 1074, 1076, 40, 1077, 1065, 1061, 1062, 1064, 38, 138, 1060, 1081, 1087, 359, 1099, 1096, 1098, 41, 1095, 1142, 1143, 1154, 1155, 1151, 1152, 1153, 1164, 329, 330, 324, 325, 326, 327, 328, 872, 353, 354, 953, 946, 947, 948, 950, 952, 31, 897, 968, 966, 962, 895, 896, 963, 964, 965, 961, 1005, 1229, 1003, 1004, 1228, 301, 302, 303, 305, 307, 518, 188, 191, 195, 197, 980, 262, 263, 272, 274, 264, 607, 610, 615, 616, 617, 145, 618, 619, 620, 621, 622, 2031, 623, 624, 625, 626, 627, 2030, 629, 630, 631, 632, 633, 634, 635, 636, 637, 638, 146, 639, 643, 646, 640, 641, 642, 647, 648, 649, 650, 651, 147, 652, 653, 654, 655, 656, 657, 658, 659, 660, 661, 662, 663, 664, 665, 666, 667, 668, 670, 671, 148, 672, 673, 674, 675, 676, 677, 678, 679, 681, 683, 685, 686, 687, 688, 689, 149, 690, 691, 692, 693, 694, 695, 696, 697, 698, 613, 267, 266, 265, 269, 268, 699, 605, 606, 133, 608, 609, 611, 612, 604, 713, 714, 715, 716, 717, 718, 719, 720, 721, 722, 723, 724, 725, 726, 727, 728, 729, 730, 731, 732, 733, 712, 741, 737, 738, 740, 6, 709, 711, 4, 734, 736, 5, 601, 603, 1, 708, 746, 270, 167, 172, 204, 705, 707, 3, 743, 745, 7, 703, 757, 766, 178, 182, 186, 754, 756, 9, 763, 765, 11, 761, 190, 196, 193, 773, 805, 271, 842, 830, 797, 798, 799, 802, 804, 17, 785, 787, 14, 808, 810, 18, 839, 841, 23, 819, 820, 822, 21, 811, 812, 814, 19, 788, 789, 791, 15, 792, 793, 795, 16, 815, 816, 818, 20, 823, 827, 829, 22, 796, 209, 212, 215, 784, 218, 221, 852, 199, 201, 758, 760, 10, 770, 772, 12, 781, 783, 13, 849, 851, 24, 752, 593, 596, 597, 598, 700, 702, 2, 749, 751, 8, 592, 434, 435, 438, 442, 436, 437, 441, 439, 440, 1108, 1109, 1110, 1254, 417, 414, 1122, 390, 387, 385, 1129, 364, 1119, 1121, 43, 140, 1123, 1125, 1126, 1128, 44, 1118, 1115, 1117, 42, 1114, 1133, 1278, 1270, 1267, 1269, 54, 1266, 360, 1263, 1265, 53, 1262, 503, 504, 507, 505, 506, 1197, 1201, 1202, 1175, 1176, 1193, 1203, 1194, 1196, 47, 142, 1198, 1200, 48, 171, 1190, 1192, 46, 1189, 1207, 1215, 1211, 1212, 1214, 49, 462, 463, 468, 471, 472, 473, 474, 464, 465, 466, 467, 469, 470, 1320, 1329, 363, 358, 1326, 1317, 1319, 59, 141, 1327, 1328, 1325, 1316, 1322, 1324, 60, 1315, 1333, 202, 1341, 1338, 1340, 62, 1337, 1312, 1314, 58, 1334, 1336, 61, 1311, 1348, 1349, 1345, 1346, 1347, 1353, 409, 410, 411, 429, 413, 416, 419, 1365, 1366, 1367, 1368, 1377, 1024, 1025, 157, 522, 523, 160, 161, 524, 525, 258, 259, 526, 297, 298, 134, 527, 528, 529, 530, 317, 531, 532, 533, 320, 321, 534, 349, 350, 535, 377, 378, 536, 406, 139, 430, 431, 537, 458, 459, 538, 499, 500, 539, 162, 163, 260, 261, 300, 322, 323, 351, 352, 379, 380, 408, 432, 433, 460, 461, 501, 502, 515, 516, 517, 156, 584, 580, 581, 583, 0, 306, 869, 870, 871, 873, 874, 875, 868, 864, 865, 867, 26, 863, 273, 205, 589, 590, 591, 853, 854, 855, 860, 862, 25, 588, 881, 275, 885, 179, 183, 187, 886, 304, 894, 893, 958, 959, 960, 970, 971, 972, 957, 308, 985, 984, 993, 977, 978, 979, 990, 992, 34, 989, 981, 983, 32, 986, 988, 33, 976, 997, 1002, 1001, 1009, 1016, 418, 1021, 1022, 1023, 1020, 412, 1014, 1015, 1017, 1019, 35, 1013, 1033, 1030, 1032, 36, 1029, 1040, 1041, 1044, 1038, 1039, 1042, 1043, 1037, 1052, 1053, 1054, 1055, 1049, 1051, 37, 1057, 1058, 1059, 1078, 1079, 1080, 1084, 1085, 1086, 1048, 1092, 1093, 1094, 1091, 1104, 1105, 1106, 1107, 1111, 1112, 1113, 1130, 1131, 1132, 1103, 1139, 1140, 1141, 1138, 1148, 1149, 1150, 1156, 1147, 1161, 1162, 1163, 1160, 391, 1168, 1172, 1173, 1174, 1185, 1182, 1184, 45, 1186, 1187, 1188, 1204, 1205, 1206, 1208, 1209, 1210, 1181, 1225, 1226, 1227, 1224, 1220, 1230, 1221, 1223, 50, 1219, 1234, 1238, 1250, 415, 1247, 1249, 52, 1251, 1252, 1253, 1246, 1243, 1245, 51, 1242, 1259, 1260, 1261, 1258, 1275, 1276, 1277, 1274, 1290, 1287, 1289, 56, 1286, 1283, 1285, 55, 1282, 1299, 1298, 1295, 1297, 57, 1294, 1303, 1308, 1309, 1310, 1342, 1343, 1344, 1350, 1351, 1352, 1307, 475, 1357, 1361, 1362, 1363, 1364, 1372, 1373, 1374, 1375, 1376, 1381, 1388, 1386, 1387, 1385, 1392, 1396, 169, 174, 645, 943, 595, 940]
set_option maxRecDepth 40000 in
theorem zq_p0 : ∀ j, j < 60 → lw_tbl[zq_P.getD (0 + j) 0]? = zq_w[0 + j]? := by decide +kernel
set_option maxRecDepth 40000 in
theorem zq_p1 : ∀ j, j < 60 → lw_tbl[zq_P.getD (60 + j) 0]? = zq_w[60 + j]? := by decide +kernel
set_option maxRecDepth 40000 in
theorem zq_p2 : ∀ j, j < 60 → lw_tbl[zq_P.getD (120 + j) 0]? = zq_w[120 + j]? := by decide +kernel
set_option maxRecDepth 40000 in
theorem zq_p3 : ∀ j, j < 60 → lw_tbl[zq_P.getD (180 + j) 0]? = zq_w[180 + j]? := by decide +kernel
set_option maxRecDepth 40000 in
theorem zq_p4 : ∀ j, j < 60 → lw_tbl[zq_P.getD (240 + j) 0]? = zq_w[240 + j]? := by decide +kernel
set_option maxRecDepth 40000 in
theorem zq_p5 : ∀ j, j < 60 → lw_tbl[zq_P.getD (300 + j) 0]? = zq_w[300 + j]? := by decide +kernel
set_option maxRecDepth 40000 in
theorem zq_p6 : ∀ j, j < 60 → lw_tbl[zq_P.getD (360 + j) 0]? = zq_w[360 + j]? := by decide +kernel
set_option maxRecDepth 40000 in
theorem zq_p7 : ∀ j, j < 60 → lw_tbl[zq_P.getD (420 + j) 0]? = zq_w[420 + j]? := by decide +kernel
set_option maxRecDepth 40000 in
theorem zq_p8 : ∀ j, j < 60 → lw_tbl[zq_P.getD (480 + j) 0]? = zq_w[480 + j]? := by decide +kernel
set_option maxRecDepth 40000 in
theorem zq_p9 : ∀ j, j < 60 → lw_tbl[zq_P.getD (540 + j) 0]? = zq_w[540 + j]? := by decide +kernel
set_option maxRecDepth 40000 in
theorem zq_p10 : ∀ j, j < 60 → lw_tbl[zq_P.getD (600 + j) 0]? = zq_w[600 + j]? := by decide +kernel
set_option maxRecDepth 40000 in
theorem zq_p11 : ∀ j, j < 60 → lw_tbl[zq_P.getD (660 + j) 0]? = zq_w[660 + j]? := by decide +kernel
set_option maxRecDepth 40000 in
theorem zq_p12 : ∀ j, j < 60 → lw_tbl[zq_P.getD (720 + j) 0]? = zq_w[720 + j]? := by decide +kernel
set_option maxRecDepth 40000 in
theorem zq_p13 : ∀ j, j < 60 → lw_tbl[zq_P.getD (780 + j) 0]? = zq_w[780 + j]? := by decide +kernel
set_option maxRecDepth 40000 in
theorem zq_p14 : ∀ j, j < 57 → lw_tbl[zq_P.getD (840 + j) 0]? = zq_w[840 + j]? := by decide +kernel
theorem zq_len : zq_w.length = 897 := by decide +kernel
theorem zq_tbl0 : ∀ w ∈ zq_w, w ∈ lw_tbl := by
  intro w hw
  obtain ⟨j, hj⟩ := List.getElem?_of_mem hw
  have hl : j < 897 := by rw [← zq_len]; exact (List.getElem?_eq_some_iff.mp hj).1
  by_cases h0 : j < 60
  · have h := zq_p0 (j - 0) (by omega)
    rw [show 0 + (j - 0) = j from by omega] at h
    exact List.mem_of_getElem? (h.trans hj)
  by_cases h1 : j < 120
  · have h := zq_p1 (j - 60) (by omega)
    rw [show 60 + (j - 60) = j from by omega] at h
    exact List.mem_of_getElem? (h.trans hj)
  by_cases h2 : j < 180
  · have h := zq_p2 (j - 120) (by omega)
    rw [show 120 + (j - 120) = j from by omega] at h
    exact List.mem_of_getElem? (h.trans hj)
  by_cases h3 : j < 240
  · have h := zq_p3 (j - 180) (by omega)
    rw [show 180 + (j - 180) = j from by omega] at h
    exact List.mem_of_getElem? (h.trans hj)
  by_cases h4 : j < 300
  · have h := zq_p4 (j - 240) (by omega)
    rw [show 240 + (j - 240) = j from by omega] at h
    exact List.mem_of_getElem? (h.trans hj)
  by_cases h5 : j < 360
  · have h := zq_p5 (j - 300) (by omega)
    rw [show 300 + (j - 300) = j from by omega] at h
    exact List.mem_of_getElem? (h.trans hj)
  by_cases h6 : j < 420
  · have h := zq_p6 (j - 360) (by omega)
    rw [show 360 + (j - 360) = j from by omega] at h
    exact List.mem_of_getElem? (h.trans hj)
  by_cases h7 : j < 480
  · have h := zq_p7 (j - 420) (by omega)
    rw [show 420 + (j - 420) = j from by omega] at h
    exact List.mem_of_getElem? (h.trans hj)
  by_cases h8 : j < 540
  · have h := zq_p8 (j - 480) (by omega)
    rw [show 480 + (j - 480) = j from by omega] at h
    exact List.mem_of_getElem? (h.trans hj)
  by_cases h9 : j < 600
  · have h := zq_p9 (j - 540) (by omega)
    rw [show 540 + (j - 540) = j from by omega] at h
    exact List.mem_of_getElem? (h.trans hj)
  by_cases h10 : j < 660
  · have h := zq_p10 (j - 600) (by omega)
    rw [show 600 + (j - 600) = j from by omega] at h
    exact List.mem_of_getElem? (h.trans hj)
  by_cases h11 : j < 720
  · have h := zq_p11 (j - 660) (by omega)
    rw [show 660 + (j - 660) = j from by omega] at h
    exact List.mem_of_getElem? (h.trans hj)
  by_cases h12 : j < 780
  · have h := zq_p12 (j - 720) (by omega)
    rw [show 720 + (j - 720) = j from by omega] at h
    exact List.mem_of_getElem? (h.trans hj)
  by_cases h13 : j < 840
  · have h := zq_p13 (j - 780) (by omega)
    rw [show 780 + (j - 780) = j from by omega] at h
    exact List.mem_of_getElem? (h.trans hj)
  by_cases h14 : j < 897
  · have h := zq_p14 (j - 840) (by omega)
    rw [show 840 + (j - 840) = j from by omega] at h
    exact List.mem_of_getElem? (h.trans hj)
  omega
def zr_P : List Nat := [1545, 1406, 1402, 158, 159, 257, 1408, 1534, 1409, 1410, 1411, 1421, 1423, 1424, 1425, 1428, 1403, 1429, 1430, 1431, 429, 1433, 1434, 1435, 1436, 1438, 1439, 1442, 1443, 1444, 1445, 1446, 1447, 1448, 1404, 1405, 143, 1401, 1538, 1407, 1412, 1553, 1415, 1556, 1566, 1413, 1414, 1562, 630, 631, 145, 632, 2031, 633, 634, 635, 636, 627, 2030, 1563, 715, 716, 717, 623, 624, 625, 626, 718, 719, 146, 720, 721, 722, 723, 668, 724, 725, 148, 726, 727, 728, 147, 729, 730, 731, 732, 662, 663, 664, 733, 676, 677, 678, 679, 681, 683, 1560, 1416, 1417, 1550, 1552, 64, 1554, 1555, 1557, 1559, 65, 1564, 1565, 1549, 1579, 1418, 1419, 1575, 1572, 1574, 67, 1546, 1548, 63, 1571, 1576, 1578, 68, 1543, 1544, 1583, 1719, 1631, 1422, 1627, 1635, 1624, 1626, 80, 1628, 1630, 81, 1632, 1634, 82, 1612, 1614, 77, 1568, 1570, 66, 1636, 1638, 83, 1647, 1648, 1650, 86, 1639, 1640, 1642, 84, 1615, 1616, 1618, 78, 1619, 1620, 1622, 79, 1643, 1644, 1646, 85, 1651, 1623, 1580, 1582, 69, 1603, 1600, 1602, 74, 1599, 1596, 1598, 73, 1595, 1607, 1611, 1592, 1594, 72, 1604, 1606, 75, 1608, 1610, 76, 1591, 1587, 1420, 1584, 1586, 70, 1588, 1590, 71, 1542, 1655, 1663, 1682, 1826, 1711, 1697, 1700, 1690, 1687, 1688, 1689, 1747, 1695, 1696, 1698, 1699, 1714, 1715, 1716, 1708, 1709, 1710, 1712, 1713, 1864, 1675, 1676, 1677, 1678, 1683, 1679, 1681, 90, 1842, 1704, 1701, 1703, 93, 1705, 1707, 94, 1717, 1718, 1694, 1731, 1728, 1730, 96, 1727, 1659, 1660, 1662, 87, 1672, 1674, 89, 1684, 1686, 91, 1691, 1693, 92, 1671, 1668, 1670, 88, 1667, 1724, 1726, 95, 1723, 1739, 1796, 1751, 1744, 1746, 99, 1743, 1736, 1738, 97, 1740, 1742, 98, 1748, 1750, 100, 1735, 1755, 1756, 1765, 1761, 1762, 1764, 101, 1760, 1769, 1787, 1788, 1786, 1792, 1426, 1783, 1785, 104, 1789, 1791, 105, 1782, 1778, 1774, 1775, 1777, 102, 1779, 1781, 103, 1793, 1795, 106, 1773, 1800, 1813, 1814, 1427, 1809, 1810, 1812, 108, 1805, 1806, 1808, 107, 1804, 1838, 1432, 1845, 1835, 1837, 113, 1839, 1841, 114, 1843, 1844, 1834, 1848, 1853, 1849, 1831, 1833, 112, 1846, 1847, 1850, 1852, 115, 1830, 1822, 1823, 1825, 110, 1861, 1862, 1863, 1819, 1821, 109, 1827, 1829, 111, 1818, 1858, 1860, 116, 1857, 1869, 1868, 1873, 1877, 1881, 1885, 1893, 1889, 1890, 1892, 117, 1901, 1437, 1898, 1900, 118, 1897, 1440, 1441, 1910, 1906, 1907, 1909, 119, 1905, 1914, 1918, 1926, 1927, 1928, 1936, 1933, 1935, 122, 1932, 1923, 1925, 120, 1929, 1931, 121, 1922, 1940, 1944, 1952, 1953, 1954, 1958, 1949, 1951, 123, 1955, 1957, 124, 1948, 1966, 1963, 1965, 125, 1962, 1978, 1974, 1975, 1977, 127, 1971, 1973, 126, 1970, 1989, 1993, 1987, 1988, 1990, 1992, 129, 1986, 1996, 1994, 1995, 1983, 1985, 128, 1982, 2000, 2012, 2004, 2008, 2009, 2010, 2011, 2016, 2020, 2024, 2028]
set_option maxRecDepth 40000 in
theorem zr_p0 : ∀ j, j < 60 → lw_tbl[zr_P.getD (0 + j) 0]? = zr_w[0 + j]? := by decide +kernel
set_option maxRecDepth 40000 in
theorem zr_p1 : ∀ j, j < 60 → lw_tbl[zr_P.getD (60 + j) 0]? = zr_w[60 + j]? := by decide +kernel
set_option maxRecDepth 40000 in
theorem zr_p2 : ∀ j, j < 60 → lw_tbl[zr_P.getD (120 + j) 0]? = zr_w[120 + j]? := by decide +kernel
set_option maxRecDepth 40000 in
theorem zr_p3 : ∀ j, j < 60 → lw_tbl[zr_P.getD (180 + j) 0]? = zr_w[180 + j]? := by decide +kernel
set_option maxRecDepth 40000 in
theorem zr_p4 : ∀ j, j < 60 → lw_tbl[zr_P.getD (240 + j) 0]? = zr_w[240 + j]? := by decide +kernel
set_option maxRecDepth 40000 in
theorem zr_p5 : ∀ j, j < 60 → lw_tbl[zr_P.getD (300 + j) 0]? = zr_w[300 + j]? := by decide +kernel
set_option maxRecDepth 40000 in
theorem zr_p6 : ∀ j, j < 60 → lw_tbl[zr_P.getD (360 + j) 0]? = zr_w[360 + j]? := by decide +kernel
set_option maxRecDepth 40000 in
theorem zr_p7 : ∀ j, j < 56 → lw_tbl[zr_P.getD (420 + j) 0]? = zr_w[420 + j]? := by decide +kernel
theorem zr_len : zr_w.length = 476 := by decide +kernel
theorem zr_tbl0 : ∀ w ∈ zr_w, w ∈ lw_tbl := by
  intro w hw
  obtain ⟨j, hj⟩ := List.getElem?_of_mem hw
  have hl : j < 476 := by rw [← zr_len]; exact (List.getElem?_eq_some_iff.mp hj).1
  by_cases h0 : j < 60
  · have h := zr_p0 (j - 0) (by omega)
    rw [show 0 + (j - 0) = j from by omega] at h
    exact List.mem_of_getElem? (h.trans hj)
  by_cases h1 : j < 120
  · have h := zr_p1 (j - 60) (by omega)
    rw [show 60 + (j - 60) = j from by omega] at h
    exact List.mem_of_getElem? (h.trans hj)
  by_cases h2 : j < 180
  · have h := zr_p2 (j - 120) (by omega)
    rw [show 120 + (j - 120) = j from by omega] at h
    exact List.mem_of_getElem? (h.trans hj)
  by_cases h3 : j < 240
  · have h := zr_p3 (j - 180) (by omega)
    rw [show 180 + (j - 180) = j from by omega] at h
    exact List.mem_of_getElem? (h.trans hj)
  by_cases h4 : j < 300
  · have h := zr_p4 (j - 240) (by omega)
    rw [show 240 + (j - 240) = j from by omega] at h
    exact List.mem_of_getElem? (h.trans hj)
  by_cases h5 : j < 360
  · have h := zr_p5 (j - 300) (by omega)
    rw [show 300 + (j - 300) = j from by omega] at h
    exact List.mem_of_getElem? (h.trans hj)
  by_cases h6 : j < 420
  · have h := zr_p6 (j - 360) (by omega)
    rw [show 360 + (j - 360) = j from by omega] at h
    exact List.mem_of_getElem? (h.trans hj)
  by_cases h7 : j < 476
  · have h := zr_p7 (j - 420) (by omega)
    rw [show 420 + (j - 420) = j from by omega] at h
    exact List.mem_of_getElem? (h.trans hj)
  omega
theorem zt_inX0 : ∀ w ∈ u_ws RX0 TX0 17, w ∈ lw_tbl := by decide +kernel
theorem zt_inX1 : ∀ w ∈ u_ws RX1 TX1 6, w ∈ lw_tbl := by decide +kernel
theorem zt_inX2 : ∀ w ∈ u_ws RX2 TX2 5, w ∈ lw_tbl := by decide +kernel
theorem zt_inX3 : ∀ w ∈ u_ws RX3 TX3 5, w ∈ lw_tbl := by decide +kernel
theorem zt_inX4 : ∀ w ∈ u_ws RX4 TX4 3, w ∈ lw_tbl := by decide +kernel
theorem zt_inX5 : ∀ w ∈ u_ws RX5 TX5 10, w ∈ lw_tbl := by decide +kernel
theorem zt_inX6 : ∀ w ∈ u_ws RX6 TX6 7, w ∈ lw_tbl := by decide +kernel
theorem zt_inX7 : ∀ w ∈ u_ws RX7 TX7 3, w ∈ lw_tbl := by decide +kernel
theorem zt_inX8 : ∀ w ∈ u_ws RX8 TX8 11, w ∈ lw_tbl := by decide +kernel
theorem zt_inX9 : ∀ w ∈ u_ws RX9 TX9 4, w ∈ lw_tbl := by decide +kernel
theorem zt_inX10 : ∀ w ∈ u_ws RX10 TX10 18, w ∈ lw_tbl := by decide +kernel
theorem zt_inX11 : ∀ w ∈ u_ws RX11 TX11 42, w ∈ lw_tbl := by decide +kernel
theorem zq_tbl : ∀ w ∈ zq_T, w ∈ lw_tbl := by
  intro w hw
  rcases List.mem_append.mp hw with h | hw
  · exact zq_tbl0 w h
  rcases List.mem_append.mp hw with h | hw
  · exact zt_inX0 w h
  rcases List.mem_append.mp hw with h | hw
  · exact zt_inX1 w h
  rcases List.mem_append.mp hw with h | hw
  · exact zt_inX2 w h
  rcases List.mem_append.mp hw with h | hw
  · exact zt_inX3 w h
  rcases List.mem_append.mp hw with h | hw
  · exact zt_inX4 w h
  rcases List.mem_append.mp hw with h | hw
  · exact zt_inX5 w h
  rcases List.mem_append.mp hw with h | hw
  · exact zt_inX6 w h
  rcases List.mem_append.mp hw with h | hw
  · exact zt_inX7 w h
  rcases List.mem_append.mp hw with h | hw
  · exact zt_inX8 w h
  rcases List.mem_append.mp hw with h | hw
  · exact zt_inX9 w h
  exact zt_inX10 w hw
theorem zr_tbl : ∀ w ∈ zr_T, w ∈ lw_tbl := by
  intro w hw
  rcases List.mem_append.mp hw with h | h
  · exact zr_tbl0 w h
  · exact zt_inX11 w h
/-! THE CLAIM OUT OF ONE WALK OF THE LAW'S BODY. Your part is whole_start (and what it stands on); all else here is the same for every law, but numbers. -/
def R_law : String := "HermitLadderLaw"
def lw_P (b : Addr) (xs : List Int32) (args : Array Value) (s : State) : Prop := args = #[.ref b] ∧ s.IntsAt b xs ∧ xs.length ≤ 3072 ∧ (Jvm.Cond.and given_1 narrow_1).before args s = true
def lw_Q (_ : Array Value) (s : State) (o : Outcome) (t : State) : Prop := o = .returned (some (.int 1)) ∧ Framed s o t [] 600000 7302250
def lw_Z (below : List Frame) (a : Array Value) (s : State) : State → Prop := fun t => ∃ o, t.status = .running ∧ Ended t below o ∧ lw_Q a s o t
/-- the law's own end, with 1 on the stack, nothing written that was there before, its room as the claim has it -/
theorem lw_ret {p : Program} {l : Launch} {e : Env} {s : State} {m : MethodId} {below : List Frame} {meth : Method} {c : Code} {b : Nat} (hx : p.tables.exec = Jvm.exec) (hb : c.code = code) (hr : meth.sig.returnType = ret) (hlocks : meth.locks = false) {pc : Nat} {H : Heap} {ls : Array Slot} (hdg : decode code pc = .ok (.ireturn, 1)) : W p l e room_1 s m #[Value.ref b] below meth c H [] 600000 7302250 (lw_Z below #[Value.ref b] s) (F0 m pc ls [.int 1]) := by
  intro T hT X
  obtain ⟨fs, hret, hrun, hended, hW, hframe⟩ := X.leave (v := some (.int 1)) (hlocks := hlocks) (fun h => by rw [hr] at h; cases h)
  have hmeth' : T.vm.method? m = some meth := X.method'
  refine ⟨T.setFrames fs, ?_, .returned (some (.int 1)), hrun, hended, rfl, ⟨_, rfl⟩, hW, hframe⟩
  jvm_step X.here [X.here.top, hx, hb, hdg, hmeth', hr, ret, narrow_b1]
  (try refine ⟨rfl, ?_⟩); (try refine ⟨rfl, ?_⟩)
  first | (intro acts; rw [hret _ acts rfl rfl rfl]) | rw [hret _ _ rfl rfl rfl]
  exact Steps.refl _
/-- what holds at the law's entry: the machine, the code, the tables' words (any of lw_tbl by 'hts w (by decide +kernel)'), the script of L ints xs at the cell b, what the Statement gives of the start (any of its parts by flat_of_before) -/
def lw_At (p : Program) (s : State) (m : MethodId) (meth : Method) (c : Code) (b L : Nat) (xs : Nat → Int32) : Prop :=
  p.tables.exec = Jvm.exec ∧ c.code = code ∧ meth.sig.returnType = ret ∧ c.maxLocals = 4 ∧ s.vm.findClass R_law = some m.cls ∧ (∀ w ∈ lw_tbl, w.before #[Value.ref b] s = true) ∧ va_X b L xs s s.heap ∧ b < s.heap.size ∧ meth.locks = false ∧ (Jvm.Cond.and given_1 narrow_1).before #[Value.ref b] s = true

theorem zL_swap (u v w : va_W) : (u ++ (v ++ w)).Perm (v ++ (u ++ w)) := by
  rw [← List.append_assoc, ← List.append_assoc]
  exact List.perm_append_comm.append_right w
