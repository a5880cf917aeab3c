section
-- ===== PART A: goes FIRST, ahead of the names: the tables' words, and 'selects' of the private methods out of them =====
/-- a private method of a class that the tables say can be made, by its rows of tables_1 -/
def lw_okq (q : MethodName × Nat) : Prop := (q.1.cls ≠ "java/lang/invoke/MethodHandle" ∧ q.1.cls ≠ "java/lang/invoke/VarHandle") ∧ Cond.instantiable q.1.cls q.2 ∈ tables_1 ∧ Cond.privateMethod q.1 ∈ tables_1 ∧ Cond.instanceMethod q.1 ∈ tables_1
theorem lw_p0 : lw_okq (⟨"FlashPages", "refuse", "(I)I"⟩, 17) := ⟨⟨by decide +kernel, by decide +kernel⟩, List.mem_of_getElem? (i := 23) (by decide +kernel), List.mem_of_getElem? (i := 584) (by decide +kernel), List.mem_of_getElem? (i := 585) (by decide +kernel)⟩
theorem lw_p1 : lw_okq (⟨"FlashPages", "putNumber", "(I)V"⟩, 17) := ⟨⟨by decide +kernel, by decide +kernel⟩, List.mem_of_getElem? (i := 23) (by decide +kernel), List.mem_of_getElem? (i := 588) (by decide +kernel), List.mem_of_getElem? (i := 589) (by decide +kernel)⟩
theorem lw_p2 : lw_okq (⟨"FlashPages", "takeTape", "()I"⟩, 17) := ⟨⟨by decide +kernel, by decide +kernel⟩, List.mem_of_getElem? (i := 23) (by decide +kernel), List.mem_of_getElem? (i := 600) (by decide +kernel), List.mem_of_getElem? (i := 601) (by decide +kernel)⟩
theorem lw_p3 : lw_okq (⟨"FlashPages$Parser", "look", "()V"⟩, 13) := ⟨⟨by decide +kernel, by decide +kernel⟩, List.mem_of_getElem? (i := 423) (by decide +kernel), List.mem_of_getElem? (i := 615) (by decide +kernel), List.mem_of_getElem? (i := 616) (by decide +kernel)⟩
theorem lw_p4 : lw_okq (⟨"FlashPages$Parser", "lookAtWord", "()V"⟩, 13) := ⟨⟨by decide +kernel, by decide +kernel⟩, List.mem_of_getElem? (i := 423) (by decide +kernel), List.mem_of_getElem? (i := 625) (by decide +kernel), List.mem_of_getElem? (i := 626) (by decide +kernel)⟩
theorem lw_p5 : lw_okq (⟨"FlashPages$Parser", "lookAtNumber", "()V"⟩, 13) := ⟨⟨by decide +kernel, by decide +kernel⟩, List.mem_of_getElem? (i := 423) (by decide +kernel), List.mem_of_getElem? (i := 629) (by decide +kernel), List.mem_of_getElem? (i := 630) (by decide +kernel)⟩
theorem lw_p6 : lw_okq (⟨"FlashPages$Parser", "readField", "()Z"⟩, 13) := ⟨⟨by decide +kernel, by decide +kernel⟩, List.mem_of_getElem? (i := 423) (by decide +kernel), List.mem_of_getElem? (i := 633) (by decide +kernel), List.mem_of_getElem? (i := 634) (by decide +kernel)⟩
theorem lw_p7 : lw_okq (⟨"FlashPages$Parser", "readOwn", "(I)Z"⟩, 13) := ⟨⟨by decide +kernel, by decide +kernel⟩, List.mem_of_getElem? (i := 423) (by decide +kernel), List.mem_of_getElem? (i := 637) (by decide +kernel), List.mem_of_getElem? (i := 638) (by decide +kernel)⟩
theorem lw_p8 : lw_okq (⟨"FlashPages$Parser", "isOwn", "(I)Z"⟩, 13) := ⟨⟨by decide +kernel, by decide +kernel⟩, List.mem_of_getElem? (i := 423) (by decide +kernel), List.mem_of_getElem? (i := 641) (by decide +kernel), List.mem_of_getElem? (i := 642) (by decide +kernel)⟩
theorem lw_p9 : lw_okq (⟨"FlashPages$Parser", "failHere", "()Z"⟩, 13) := ⟨⟨by decide +kernel, by decide +kernel⟩, List.mem_of_getElem? (i := 423) (by decide +kernel), List.mem_of_getElem? (i := 645) (by decide +kernel), List.mem_of_getElem? (i := 646) (by decide +kernel)⟩
theorem lw_p10 : lw_okq (⟨"FlashPages$Parser", "failBy", "(II)Z"⟩, 13) := ⟨⟨by decide +kernel, by decide +kernel⟩, List.mem_of_getElem? (i := 423) (by decide +kernel), List.mem_of_getElem? (i := 649) (by decide +kernel), List.mem_of_getElem? (i := 650) (by decide +kernel)⟩
theorem lw_p11 : lw_okq (⟨"FlashPages$Parser", "readNumber", "(II)I"⟩, 13) := ⟨⟨by decide +kernel, by decide +kernel⟩, List.mem_of_getElem? (i := 423) (by decide +kernel), List.mem_of_getElem? (i := 653) (by decide +kernel), List.mem_of_getElem? (i := 654) (by decide +kernel)⟩
theorem lw_p12 : lw_okq (⟨"FlashPages$Code", "multiplyDivisor", "(I)V"⟩, 13) := ⟨⟨by decide +kernel, by decide +kernel⟩, List.mem_of_getElem? (i := 278) (by decide +kernel), List.mem_of_getElem? (i := 673) (by decide +kernel), List.mem_of_getElem? (i := 674) (by decide +kernel)⟩
theorem lw_p13 : lw_okq (⟨"FlashPages$Parser", "readSign", "(I)Z"⟩, 13) := ⟨⟨by decide +kernel, by decide +kernel⟩, List.mem_of_getElem? (i := 423) (by decide +kernel), List.mem_of_getElem? (i := 684) (by decide +kernel), List.mem_of_getElem? (i := 685) (by decide +kernel)⟩
theorem lw_p14 : lw_okq (⟨"FlashPages$Parser", "readStatement", "()Z"⟩, 13) := ⟨⟨by decide +kernel, by decide +kernel⟩, List.mem_of_getElem? (i := 423) (by decide +kernel), List.mem_of_getElem? (i := 688) (by decide +kernel), List.mem_of_getElem? (i := 689) (by decide +kernel)⟩
theorem lw_p15 : lw_okq (⟨"FlashPages$Parser", "readPage", "()Z"⟩, 13) := ⟨⟨by decide +kernel, by decide +kernel⟩, List.mem_of_getElem? (i := 423) (by decide +kernel), List.mem_of_getElem? (i := 692) (by decide +kernel), List.mem_of_getElem? (i := 693) (by decide +kernel)⟩
def lw_privs_1 : List (MethodName × Nat) := [(⟨"FlashPages", "refuse", "(I)I"⟩, 17), (⟨"FlashPages", "putNumber", "(I)V"⟩, 17), (⟨"FlashPages", "takeTape", "()I"⟩, 17), (⟨"FlashPages$Parser", "look", "()V"⟩, 13), (⟨"FlashPages$Parser", "lookAtWord", "()V"⟩, 13), (⟨"FlashPages$Parser", "lookAtNumber", "()V"⟩, 13), (⟨"FlashPages$Parser", "readField", "()Z"⟩, 13), (⟨"FlashPages$Parser", "readOwn", "(I)Z"⟩, 13), (⟨"FlashPages$Parser", "isOwn", "(I)Z"⟩, 13), (⟨"FlashPages$Parser", "failHere", "()Z"⟩, 13), (⟨"FlashPages$Parser", "failBy", "(II)Z"⟩, 13), (⟨"FlashPages$Parser", "readNumber", "(II)I"⟩, 13), (⟨"FlashPages$Code", "multiplyDivisor", "(I)V"⟩, 13), (⟨"FlashPages$Parser", "readSign", "(I)Z"⟩, 13), (⟨"FlashPages$Parser", "readStatement", "()Z"⟩, 13), (⟨"FlashPages$Parser", "readPage", "()Z"⟩, 13)]
theorem lw_r1 : ∀ q ∈ lw_privs_1, lw_okq q := List.forall_mem_cons.mpr ⟨lw_p0, List.forall_mem_cons.mpr ⟨lw_p1, List.forall_mem_cons.mpr ⟨lw_p2, List.forall_mem_cons.mpr ⟨lw_p3, List.forall_mem_cons.mpr ⟨lw_p4, List.forall_mem_cons.mpr ⟨lw_p5, List.forall_mem_cons.mpr ⟨lw_p6, List.forall_mem_cons.mpr ⟨lw_p7, List.forall_mem_cons.mpr ⟨lw_p8, List.forall_mem_cons.mpr ⟨lw_p9, List.forall_mem_cons.mpr ⟨lw_p10, List.forall_mem_cons.mpr ⟨lw_p11, List.forall_mem_cons.mpr ⟨lw_p12, List.forall_mem_cons.mpr ⟨lw_p13, List.forall_mem_cons.mpr ⟨lw_p14, List.forall_mem_cons.mpr ⟨lw_p15, fun _ h => absurd h List.not_mem_nil⟩⟩⟩⟩⟩⟩⟩⟩⟩⟩⟩⟩⟩⟩⟩⟩
theorem lw_p16 : lw_okq (⟨"FlashPages$Parser", "readDrifts", "()Z"⟩, 13) := ⟨⟨by decide +kernel, by decide +kernel⟩, List.mem_of_getElem? (i := 423) (by decide +kernel), List.mem_of_getElem? (i := 700) (by decide +kernel), List.mem_of_getElem? (i := 701) (by decide +kernel)⟩
theorem lw_p17 : lw_okq (⟨"FlashPages$Parser", "readSum", "(I)Z"⟩, 13) := ⟨⟨by decide +kernel, by decide +kernel⟩, List.mem_of_getElem? (i := 423) (by decide +kernel), List.mem_of_getElem? (i := 708) (by decide +kernel), List.mem_of_getElem? (i := 709) (by decide +kernel)⟩
theorem lw_p18 : lw_okq (⟨"FlashPages$Parser", "readProduct", "(I)Z"⟩, 13) := ⟨⟨by decide +kernel, by decide +kernel⟩, List.mem_of_getElem? (i := 423) (by decide +kernel), List.mem_of_getElem? (i := 712) (by decide +kernel), List.mem_of_getElem? (i := 713) (by decide +kernel)⟩
theorem lw_p19 : lw_okq (⟨"FlashPages$Parser", "readPart", "(I)Z"⟩, 13) := ⟨⟨by decide +kernel, by decide +kernel⟩, List.mem_of_getElem? (i := 423) (by decide +kernel), List.mem_of_getElem? (i := 716) (by decide +kernel), List.mem_of_getElem? (i := 717) (by decide +kernel)⟩
theorem lw_p20 : lw_okq (⟨"FlashPages$Parser", "readOpening", "(II)Z"⟩, 13) := ⟨⟨by decide +kernel, by decide +kernel⟩, List.mem_of_getElem? (i := 423) (by decide +kernel), List.mem_of_getElem? (i := 724) (by decide +kernel), List.mem_of_getElem? (i := 725) (by decide +kernel)⟩
theorem lw_p21 : lw_okq (⟨"FlashPages$Parser", "readPair", "(II)Z"⟩, 13) := ⟨⟨by decide +kernel, by decide +kernel⟩, List.mem_of_getElem? (i := 423) (by decide +kernel), List.mem_of_getElem? (i := 728) (by decide +kernel), List.mem_of_getElem? (i := 729) (by decide +kernel)⟩
theorem lw_p22 : lw_okq (⟨"FlashPages$Parser", "readChoice", "(I)Z"⟩, 13) := ⟨⟨by decide +kernel, by decide +kernel⟩, List.mem_of_getElem? (i := 423) (by decide +kernel), List.mem_of_getElem? (i := 732) (by decide +kernel), List.mem_of_getElem? (i := 733) (by decide +kernel)⟩
theorem lw_p23 : lw_okq (⟨"FlashPages$Parser", "readTest", "(I)Z"⟩, 13) := ⟨⟨by decide +kernel, by decide +kernel⟩, List.mem_of_getElem? (i := 423) (by decide +kernel), List.mem_of_getElem? (i := 736) (by decide +kernel), List.mem_of_getElem? (i := 737) (by decide +kernel)⟩
theorem lw_p24 : lw_okq (⟨"FlashPages$Parser", "readBoth", "(I)Z"⟩, 13) := ⟨⟨by decide +kernel, by decide +kernel⟩, List.mem_of_getElem? (i := 423) (by decide +kernel), List.mem_of_getElem? (i := 740) (by decide +kernel), List.mem_of_getElem? (i := 741) (by decide +kernel)⟩
theorem lw_p25 : lw_okq (⟨"FlashPages$Parser", "readFact", "(I)Z"⟩, 13) := ⟨⟨by decide +kernel, by decide +kernel⟩, List.mem_of_getElem? (i := 423) (by decide +kernel), List.mem_of_getElem? (i := 744) (by decide +kernel), List.mem_of_getElem? (i := 745) (by decide +kernel)⟩
theorem lw_p26 : lw_okq (⟨"FlashPages$Parser", "readComparison", "(I)Z"⟩, 13) := ⟨⟨by decide +kernel, by decide +kernel⟩, List.mem_of_getElem? (i := 423) (by decide +kernel), List.mem_of_getElem? (i := 748) (by decide +kernel), List.mem_of_getElem? (i := 749) (by decide +kernel)⟩
theorem lw_p27 : lw_okq (⟨"FlashPages$Parser", "isValue", "(I)Z"⟩, 13) := ⟨⟨by decide +kernel, by decide +kernel⟩, List.mem_of_getElem? (i := 423) (by decide +kernel), List.mem_of_getElem? (i := 752) (by decide +kernel), List.mem_of_getElem? (i := 753) (by decide +kernel)⟩
theorem lw_p28 : lw_okq (⟨"FlashPages$Parser", "readTries", "()Z"⟩, 13) := ⟨⟨by decide +kernel, by decide +kernel⟩, List.mem_of_getElem? (i := 423) (by decide +kernel), List.mem_of_getElem? (i := 756) (by decide +kernel), List.mem_of_getElem? (i := 757) (by decide +kernel)⟩
theorem lw_p29 : lw_okq (⟨"FlashPages$Parser", "readSetting", "()Z"⟩, 13) := ⟨⟨by decide +kernel, by decide +kernel⟩, List.mem_of_getElem? (i := 423) (by decide +kernel), List.mem_of_getElem? (i := 764) (by decide +kernel), List.mem_of_getElem? (i := 765) (by decide +kernel)⟩
theorem lw_p30 : lw_okq (⟨"FlashPages", "isPage", "(I)Z"⟩, 17) := ⟨⟨by decide +kernel, by decide +kernel⟩, List.mem_of_getElem? (i := 23) (by decide +kernel), List.mem_of_getElem? (i := 809) (by decide +kernel), List.mem_of_getElem? (i := 810) (by decide +kernel)⟩
theorem lw_p31 : lw_okq (⟨"FlashPages", "isData", "(II)Z"⟩, 17) := ⟨⟨by decide +kernel, by decide +kernel⟩, List.mem_of_getElem? (i := 23) (by decide +kernel), List.mem_of_getElem? (i := 829) (by decide +kernel), List.mem_of_getElem? (i := 830) (by decide +kernel)⟩
def lw_privs_2 : List (MethodName × Nat) := [(⟨"FlashPages$Parser", "readDrifts", "()Z"⟩, 13), (⟨"FlashPages$Parser", "readSum", "(I)Z"⟩, 13), (⟨"FlashPages$Parser", "readProduct", "(I)Z"⟩, 13), (⟨"FlashPages$Parser", "readPart", "(I)Z"⟩, 13), (⟨"FlashPages$Parser", "readOpening", "(II)Z"⟩, 13), (⟨"FlashPages$Parser", "readPair", "(II)Z"⟩, 13), (⟨"FlashPages$Parser", "readChoice", "(I)Z"⟩, 13), (⟨"FlashPages$Parser", "readTest", "(I)Z"⟩, 13), (⟨"FlashPages$Parser", "readBoth", "(I)Z"⟩, 13), (⟨"FlashPages$Parser", "readFact", "(I)Z"⟩, 13), (⟨"FlashPages$Parser", "readComparison", "(I)Z"⟩, 13), (⟨"FlashPages$Parser", "isValue", "(I)Z"⟩, 13), (⟨"FlashPages$Parser", "readTries", "()Z"⟩, 13), (⟨"FlashPages$Parser", "readSetting", "()Z"⟩, 13), (⟨"FlashPages", "isPage", "(I)Z"⟩, 17), (⟨"FlashPages", "isData", "(II)Z"⟩, 17)]
theorem lw_r2 : ∀ q ∈ lw_privs_2, lw_okq q := List.forall_mem_cons.mpr ⟨lw_p16, List.forall_mem_cons.mpr ⟨lw_p17, List.forall_mem_cons.mpr ⟨lw_p18, List.forall_mem_cons.mpr ⟨lw_p19, List.forall_mem_cons.mpr ⟨lw_p20, List.forall_mem_cons.mpr ⟨lw_p21, List.forall_mem_cons.mpr ⟨lw_p22, List.forall_mem_cons.mpr ⟨lw_p23, List.forall_mem_cons.mpr ⟨lw_p24, List.forall_mem_cons.mpr ⟨lw_p25, List.forall_mem_cons.mpr ⟨lw_p26, List.forall_mem_cons.mpr ⟨lw_p27, List.forall_mem_cons.mpr ⟨lw_p28, List.forall_mem_cons.mpr ⟨lw_p29, List.forall_mem_cons.mpr ⟨lw_p30, List.forall_mem_cons.mpr ⟨lw_p31, fun _ h => absurd h List.not_mem_nil⟩⟩⟩⟩⟩⟩⟩⟩⟩⟩⟩⟩⟩⟩⟩⟩
theorem lw_p32 : lw_okq (⟨"FlashPages$Code", "markMendable", "()V"⟩, 13) := ⟨⟨by decide +kernel, by decide +kernel⟩, List.mem_of_getElem? (i := 278) (by decide +kernel), List.mem_of_getElem? (i := 868) (by decide +kernel), List.mem_of_getElem? (i := 869) (by decide +kernel)⟩
theorem lw_p33 : lw_okq (⟨"FlashPages$Code", "mark", "(II)V"⟩, 13) := ⟨⟨by decide +kernel, by decide +kernel⟩, List.mem_of_getElem? (i := 278) (by decide +kernel), List.mem_of_getElem? (i := 875) (by decide +kernel), List.mem_of_getElem? (i := 876) (by decide +kernel)⟩
theorem lw_p34 : lw_okq (⟨"FlashPages$Code", "thirdOf", "(I)I"⟩, 13) := ⟨⟨by decide +kernel, by decide +kernel⟩, List.mem_of_getElem? (i := 278) (by decide +kernel), List.mem_of_getElem? (i := 879) (by decide +kernel), List.mem_of_getElem? (i := 880) (by decide +kernel)⟩
theorem lw_p35 : lw_okq (⟨"FlashPages$Code", "countMendable", "(I)I"⟩, 13) := ⟨⟨by decide +kernel, by decide +kernel⟩, List.mem_of_getElem? (i := 278) (by decide +kernel), List.mem_of_getElem? (i := 883) (by decide +kernel), List.mem_of_getElem? (i := 884) (by decide +kernel)⟩
theorem lw_p36 : lw_okq (⟨"FlashPages$Code", "marked", "(II)I"⟩, 13) := ⟨⟨by decide +kernel, by decide +kernel⟩, List.mem_of_getElem? (i := 278) (by decide +kernel), List.mem_of_getElem? (i := 887) (by decide +kernel), List.mem_of_getElem? (i := 888) (by decide +kernel)⟩
theorem lw_p37 : lw_okq (⟨"FlashPages", "isWritten", "(I)Z"⟩, 17) := ⟨⟨by decide +kernel, by decide +kernel⟩, List.mem_of_getElem? (i := 23) (by decide +kernel), List.mem_of_getElem? (i := 900) (by decide +kernel), List.mem_of_getElem? (i := 901) (by decide +kernel)⟩
theorem lw_p38 : lw_okq (⟨"FlashPages", "isCell", "(I)Z"⟩, 17) := ⟨⟨by decide +kernel, by decide +kernel⟩, List.mem_of_getElem? (i := 23) (by decide +kernel), List.mem_of_getElem? (i := 904) (by decide +kernel), List.mem_of_getElem? (i := 905) (by decide +kernel)⟩
theorem lw_p39 : lw_okq (⟨"FlashPages", "daysFit", "(I)Z"⟩, 17) := ⟨⟨by decide +kernel, by decide +kernel⟩, List.mem_of_getElem? (i := 23) (by decide +kernel), List.mem_of_getElem? (i := 908) (by decide +kernel), List.mem_of_getElem? (i := 909) (by decide +kernel)⟩
theorem lw_p40 : lw_okq (⟨"FlashPages$Terms", "run", "(LFlashPages$Chip;II)I"⟩, 3) := ⟨⟨by decide +kernel, by decide +kernel⟩, List.mem_of_getElem? (i := 31) (by decide +kernel), List.mem_of_getElem? (i := 926) (by decide +kernel), List.mem_of_getElem? (i := 927) (by decide +kernel)⟩
theorem lw_p41 : lw_okq (⟨"FlashPages$Terms", "push", "(I)V"⟩, 3) := ⟨⟨by decide +kernel, by decide +kernel⟩, List.mem_of_getElem? (i := 31) (by decide +kernel), List.mem_of_getElem? (i := 930) (by decide +kernel), List.mem_of_getElem? (i := 931) (by decide +kernel)⟩
theorem lw_p42 : lw_okq (⟨"FlashPages$Terms", "valueOf", "(I)I"⟩, 3) := ⟨⟨by decide +kernel, by decide +kernel⟩, List.mem_of_getElem? (i := 31) (by decide +kernel), List.mem_of_getElem? (i := 934) (by decide +kernel), List.mem_of_getElem? (i := 935) (by decide +kernel)⟩
theorem lw_p43 : lw_okq (⟨"FlashPages$Terms", "pop", "()I"⟩, 3) := ⟨⟨by decide +kernel, by decide +kernel⟩, List.mem_of_getElem? (i := 31) (by decide +kernel), List.mem_of_getElem? (i := 938) (by decide +kernel), List.mem_of_getElem? (i := 939) (by decide +kernel)⟩
theorem lw_p44 : lw_okq (⟨"FlashPages", "isRead", "(II)Z"⟩, 17) := ⟨⟨by decide +kernel, by decide +kernel⟩, List.mem_of_getElem? (i := 23) (by decide +kernel), List.mem_of_getElem? (i := 970) (by decide +kernel), List.mem_of_getElem? (i := 971) (by decide +kernel)⟩
theorem lw_p45 : lw_okq (⟨"FlashPages", "decode", "(II)V"⟩, 17) := ⟨⟨by decide +kernel, by decide +kernel⟩, List.mem_of_getElem? (i := 23) (by decide +kernel), List.mem_of_getElem? (i := 982) (by decide +kernel), List.mem_of_getElem? (i := 983) (by decide +kernel)⟩
theorem lw_p46 : lw_okq (⟨"FlashPages$Decoder", "findFactors", "(LFlashPages$Code;)V"⟩, 10) := ⟨⟨by decide +kernel, by decide +kernel⟩, List.mem_of_getElem? (i := 48) (by decide +kernel), List.mem_of_getElem? (i := 995) (by decide +kernel), List.mem_of_getElem? (i := 996) (by decide +kernel)⟩
theorem lw_p47 : lw_okq (⟨"FlashPages$Decoder", "gapAt", "(LFlashPages$Code;I)I"⟩, 10) := ⟨⟨by decide +kernel, by decide +kernel⟩, List.mem_of_getElem? (i := 48) (by decide +kernel), List.mem_of_getElem? (i := 1000) (by decide +kernel), List.mem_of_getElem? (i := 1001) (by decide +kernel)⟩
def lw_privs_3 : List (MethodName × Nat) := [(⟨"FlashPages$Code", "markMendable", "()V"⟩, 13), (⟨"FlashPages$Code", "mark", "(II)V"⟩, 13), (⟨"FlashPages$Code", "thirdOf", "(I)I"⟩, 13), (⟨"FlashPages$Code", "countMendable", "(I)I"⟩, 13), (⟨"FlashPages$Code", "marked", "(II)I"⟩, 13), (⟨"FlashPages", "isWritten", "(I)Z"⟩, 17), (⟨"FlashPages", "isCell", "(I)Z"⟩, 17), (⟨"FlashPages", "daysFit", "(I)Z"⟩, 17), (⟨"FlashPages$Terms", "run", "(LFlashPages$Chip;II)I"⟩, 3), (⟨"FlashPages$Terms", "push", "(I)V"⟩, 3), (⟨"FlashPages$Terms", "valueOf", "(I)I"⟩, 3), (⟨"FlashPages$Terms", "pop", "()I"⟩, 3), (⟨"FlashPages", "isRead", "(II)Z"⟩, 17), (⟨"FlashPages", "decode", "(II)V"⟩, 17), (⟨"FlashPages$Decoder", "findFactors", "(LFlashPages$Code;)V"⟩, 10), (⟨"FlashPages$Decoder", "gapAt", "(LFlashPages$Code;I)I"⟩, 10)]
theorem lw_r3 : ∀ q ∈ lw_privs_3, lw_okq q := List.forall_mem_cons.mpr ⟨lw_p32, List.forall_mem_cons.mpr ⟨lw_p33, List.forall_mem_cons.mpr ⟨lw_p34, List.forall_mem_cons.mpr ⟨lw_p35, List.forall_mem_cons.mpr ⟨lw_p36, List.forall_mem_cons.mpr ⟨lw_p37, List.forall_mem_cons.mpr ⟨lw_p38, List.forall_mem_cons.mpr ⟨lw_p39, List.forall_mem_cons.mpr ⟨lw_p40, List.forall_mem_cons.mpr ⟨lw_p41, List.forall_mem_cons.mpr ⟨lw_p42, List.forall_mem_cons.mpr ⟨lw_p43, List.forall_mem_cons.mpr ⟨lw_p44, List.forall_mem_cons.mpr ⟨lw_p45, List.forall_mem_cons.mpr ⟨lw_p46, List.forall_mem_cons.mpr ⟨lw_p47, fun _ h => absurd h List.not_mem_nil⟩⟩⟩⟩⟩⟩⟩⟩⟩⟩⟩⟩⟩⟩⟩⟩
theorem lw_p48 : lw_okq (⟨"FlashPages$Decoder", "correct", "(LFlashPages$Code;II)V"⟩, 10) := ⟨⟨by decide +kernel, by decide +kernel⟩, List.mem_of_getElem? (i := 48) (by decide +kernel), List.mem_of_getElem? (i := 1011) (by decide +kernel), List.mem_of_getElem? (i := 1012) (by decide +kernel)⟩
theorem lw_p49 : lw_okq (⟨"FlashPages$Decoder", "findRoots", "(LFlashPages$Code;)I"⟩, 10) := ⟨⟨by decide +kernel, by decide +kernel⟩, List.mem_of_getElem? (i := 48) (by decide +kernel), List.mem_of_getElem? (i := 1015) (by decide +kernel), List.mem_of_getElem? (i := 1016) (by decide +kernel)⟩
theorem lw_p50 : lw_okq (⟨"FlashPages$Decoder", "isRoot", "(LFlashPages$Code;I)Z"⟩, 10) := ⟨⟨by decide +kernel, by decide +kernel⟩, List.mem_of_getElem? (i := 48) (by decide +kernel), List.mem_of_getElem? (i := 1019) (by decide +kernel), List.mem_of_getElem? (i := 1020) (by decide +kernel)⟩
theorem lw_p51 : lw_okq (⟨"FlashPages$Getter", "mend", "(LFlashPages$Chip;LFlashPages$Row;J)V"⟩, 8) := ⟨⟨by decide +kernel, by decide +kernel⟩, List.mem_of_getElem? (i := 93) (by decide +kernel), List.mem_of_getElem? (i := 1045) (by decide +kernel), List.mem_of_getElem? (i := 1046) (by decide +kernel)⟩
theorem lw_p52 : lw_okq (⟨"FlashPages$Getter", "nextThreshold", "(LFlashPages$Chip;I)I"⟩, 8) := ⟨⟨by decide +kernel, by decide +kernel⟩, List.mem_of_getElem? (i := 93) (by decide +kernel), List.mem_of_getElem? (i := 1055) (by decide +kernel), List.mem_of_getElem? (i := 1056) (by decide +kernel)⟩
theorem lw_p53 : lw_okq (⟨"FlashPages$Shifts", "isLeft", "(I)Z"⟩, 9) := ⟨⟨by decide +kernel, by decide +kernel⟩, List.mem_of_getElem? (i := 218) (by decide +kernel), List.mem_of_getElem? (i := 1115) (by decide +kernel), List.mem_of_getElem? (i := 1116) (by decide +kernel)⟩
theorem lw_p54 : lw_okq (⟨"FlashPages$Shifts", "onesBy", "(II)I"⟩, 9) := ⟨⟨by decide +kernel, by decide +kernel⟩, List.mem_of_getElem? (i := 218) (by decide +kernel), List.mem_of_getElem? (i := 1119) (by decide +kernel), List.mem_of_getElem? (i := 1120) (by decide +kernel)⟩
theorem lw_p55 : lw_okq (⟨"FlashPages$Shifts", "mostLeft", "(I)I"⟩, 9) := ⟨⟨by decide +kernel, by decide +kernel⟩, List.mem_of_getElem? (i := 218) (by decide +kernel), List.mem_of_getElem? (i := 1131) (by decide +kernel), List.mem_of_getElem? (i := 1132) (by decide +kernel)⟩
theorem lw_p56 : lw_okq (⟨"FlashPages", "passDay", "()V"⟩, 17) := ⟨⟨by decide +kernel, by decide +kernel⟩, List.mem_of_getElem? (i := 23) (by decide +kernel), List.mem_of_getElem? (i := 1176) (by decide +kernel), List.mem_of_getElem? (i := 1177) (by decide +kernel)⟩
theorem lw_p57 : lw_okq (⟨"FlashPages", "addNoise", "()I"⟩, 17) := ⟨⟨by decide +kernel, by decide +kernel⟩, List.mem_of_getElem? (i := 23) (by decide +kernel), List.mem_of_getElem? (i := 1184) (by decide +kernel), List.mem_of_getElem? (i := 1185) (by decide +kernel)⟩
theorem lw_p58 : lw_okq (⟨"FlashPages", "draw", "(I)I"⟩, 17) := ⟨⟨by decide +kernel, by decide +kernel⟩, List.mem_of_getElem? (i := 23) (by decide +kernel), List.mem_of_getElem? (i := 1188) (by decide +kernel), List.mem_of_getElem? (i := 1189) (by decide +kernel)⟩
theorem lw_p59 : lw_okq (⟨"FlashPages$Image", "put", "(I)V"⟩, 2) := ⟨⟨by decide +kernel, by decide +kernel⟩, List.mem_of_getElem? (i := 257) (by decide +kernel), List.mem_of_getElem? (i := 1224) (by decide +kernel), List.mem_of_getElem? (i := 1225) (by decide +kernel)⟩
theorem lw_p60 : lw_okq (⟨"FlashPages$Image", "putRow", "(LFlashPages$Row;I)V"⟩, 2) := ⟨⟨by decide +kernel, by decide +kernel⟩, List.mem_of_getElem? (i := 257) (by decide +kernel), List.mem_of_getElem? (i := 1228) (by decide +kernel), List.mem_of_getElem? (i := 1229) (by decide +kernel)⟩
theorem lw_p61 : lw_okq (⟨"FlashPages$Pages", "takesRow", "(LFlashPages$Row;[IILFlashPages$Chip;)Z"⟩, 2) := ⟨⟨by decide +kernel, by decide +kernel⟩, List.mem_of_getElem? (i := 130) (by decide +kernel), List.mem_of_getElem? (i := 1250) (by decide +kernel), List.mem_of_getElem? (i := 1251) (by decide +kernel)⟩
theorem lw_p62 : lw_okq (⟨"FlashPagesModel", "refuses", "(I)I"⟩, 76) := ⟨⟨by decide +kernel, by decide +kernel⟩, List.mem_of_getElem? (i := 1263) (by decide +kernel), List.mem_of_getElem? (i := 1503) (by decide +kernel), List.mem_of_getElem? (i := 1504) (by decide +kernel)⟩
theorem lw_p63 : lw_okq (⟨"FlashPagesModel", "put", "(I)V"⟩, 76) := ⟨⟨by decide +kernel, by decide +kernel⟩, List.mem_of_getElem? (i := 1263) (by decide +kernel), List.mem_of_getElem? (i := 1507) (by decide +kernel), List.mem_of_getElem? (i := 1508) (by decide +kernel)⟩
def lw_privs_4 : List (MethodName × Nat) := [(⟨"FlashPages$Decoder", "correct", "(LFlashPages$Code;II)V"⟩, 10), (⟨"FlashPages$Decoder", "findRoots", "(LFlashPages$Code;)I"⟩, 10), (⟨"FlashPages$Decoder", "isRoot", "(LFlashPages$Code;I)Z"⟩, 10), (⟨"FlashPages$Getter", "mend", "(LFlashPages$Chip;LFlashPages$Row;J)V"⟩, 8), (⟨"FlashPages$Getter", "nextThreshold", "(LFlashPages$Chip;I)I"⟩, 8), (⟨"FlashPages$Shifts", "isLeft", "(I)Z"⟩, 9), (⟨"FlashPages$Shifts", "onesBy", "(II)I"⟩, 9), (⟨"FlashPages$Shifts", "mostLeft", "(I)I"⟩, 9), (⟨"FlashPages", "passDay", "()V"⟩, 17), (⟨"FlashPages", "addNoise", "()I"⟩, 17), (⟨"FlashPages", "draw", "(I)I"⟩, 17), (⟨"FlashPages$Image", "put", "(I)V"⟩, 2), (⟨"FlashPages$Image", "putRow", "(LFlashPages$Row;I)V"⟩, 2), (⟨"FlashPages$Pages", "takesRow", "(LFlashPages$Row;[IILFlashPages$Chip;)Z"⟩, 2), (⟨"FlashPagesModel", "refuses", "(I)I"⟩, 76), (⟨"FlashPagesModel", "put", "(I)V"⟩, 76)]
theorem lw_r4 : ∀ q ∈ lw_privs_4, lw_okq q := List.forall_mem_cons.mpr ⟨lw_p48, List.forall_mem_cons.mpr ⟨lw_p49, List.forall_mem_cons.mpr ⟨lw_p50, List.forall_mem_cons.mpr ⟨lw_p51, List.forall_mem_cons.mpr ⟨lw_p52, List.forall_mem_cons.mpr ⟨lw_p53, List.forall_mem_cons.mpr ⟨lw_p54, List.forall_mem_cons.mpr ⟨lw_p55, List.forall_mem_cons.mpr ⟨lw_p56, List.forall_mem_cons.mpr ⟨lw_p57, List.forall_mem_cons.mpr ⟨lw_p58, List.forall_mem_cons.mpr ⟨lw_p59, List.forall_mem_cons.mpr ⟨lw_p60, List.forall_mem_cons.mpr ⟨lw_p61, List.forall_mem_cons.mpr ⟨lw_p62, List.forall_mem_cons.mpr ⟨lw_p63, fun _ h => absurd h List.not_mem_nil⟩⟩⟩⟩⟩⟩⟩⟩⟩⟩⟩⟩⟩⟩⟩⟩
theorem lw_p64 : lw_okq (⟨"FlashPagesModel", "tellsAt", "(II)V"⟩, 76) := ⟨⟨by decide +kernel, by decide +kernel⟩, List.mem_of_getElem? (i := 1263) (by decide +kernel), List.mem_of_getElem? (i := 1519) (by decide +kernel), List.mem_of_getElem? (i := 1520) (by decide +kernel)⟩
theorem lw_p65 : lw_okq (⟨"FlashPagesModel", "ahead", "()V"⟩, 76) := ⟨⟨by decide +kernel, by decide +kernel⟩, List.mem_of_getElem? (i := 1263) (by decide +kernel), List.mem_of_getElem? (i := 1523) (by decide +kernel), List.mem_of_getElem? (i := 1524) (by decide +kernel)⟩
theorem lw_p66 : lw_okq (⟨"FlashPagesModel", "chipIs", "()V"⟩, 76) := ⟨⟨by decide +kernel, by decide +kernel⟩, List.mem_of_getElem? (i := 1263) (by decide +kernel), List.mem_of_getElem? (i := 1533) (by decide +kernel), List.mem_of_getElem? (i := 1534) (by decide +kernel)⟩
theorem lw_p67 : lw_okq (⟨"FlashPagesModel", "mustWord", "(J)V"⟩, 76) := ⟨⟨by decide +kernel, by decide +kernel⟩, List.mem_of_getElem? (i := 1263) (by decide +kernel), List.mem_of_getElem? (i := 1538) (by decide +kernel), List.mem_of_getElem? (i := 1539) (by decide +kernel)⟩
theorem lw_p68 : lw_okq (⟨"FlashPagesModel", "lex", "()V"⟩, 76) := ⟨⟨by decide +kernel, by decide +kernel⟩, List.mem_of_getElem? (i := 1263) (by decide +kernel), List.mem_of_getElem? (i := 1542) (by decide +kernel), List.mem_of_getElem? (i := 1543) (by decide +kernel)⟩
theorem lw_p69 : lw_okq (⟨"FlashPagesModel", "blame", "(II)V"⟩, 76) := ⟨⟨by decide +kernel, by decide +kernel⟩, List.mem_of_getElem? (i := 1263) (by decide +kernel), List.mem_of_getElem? (i := 1546) (by decide +kernel), List.mem_of_getElem? (i := 1547) (by decide +kernel)⟩
theorem lw_p70 : lw_okq (⟨"FlashPagesModel", "isWord", "(J)Z"⟩, 76) := ⟨⟨by decide +kernel, by decide +kernel⟩, List.mem_of_getElem? (i := 1263) (by decide +kernel), List.mem_of_getElem? (i := 1550) (by decide +kernel), List.mem_of_getElem? (i := 1551) (by decide +kernel)⟩
theorem lw_p71 : lw_okq (⟨"FlashPagesModel", "number", "(II)I"⟩, 76) := ⟨⟨by decide +kernel, by decide +kernel⟩, List.mem_of_getElem? (i := 1263) (by decide +kernel), List.mem_of_getElem? (i := 1554) (by decide +kernel), List.mem_of_getElem? (i := 1555) (by decide +kernel)⟩
theorem lw_p72 : lw_okq (⟨"FlashPagesModel", "rootsFor", "(II)I"⟩, 76) := ⟨⟨by decide +kernel, by decide +kernel⟩, List.mem_of_getElem? (i := 1263) (by decide +kernel), List.mem_of_getElem? (i := 1569) (by decide +kernel), List.mem_of_getElem? (i := 1570) (by decide +kernel)⟩
theorem lw_p73 : lw_okq (⟨"FlashPagesModel", "finishes", "(I)V"⟩, 76) := ⟨⟨by decide +kernel, by decide +kernel⟩, List.mem_of_getElem? (i := 1263) (by decide +kernel), List.mem_of_getElem? (i := 1574) (by decide +kernel), List.mem_of_getElem? (i := 1575) (by decide +kernel)⟩
theorem lw_p74 : lw_okq (⟨"FlashPagesModel", "isSign", "(I)Z"⟩, 76) := ⟨⟨by decide +kernel, by decide +kernel⟩, List.mem_of_getElem? (i := 1263) (by decide +kernel), List.mem_of_getElem? (i := 1578) (by decide +kernel), List.mem_of_getElem? (i := 1579) (by decide +kernel)⟩
theorem lw_p75 : lw_okq (⟨"FlashPagesModel", "must", "(I)V"⟩, 76) := ⟨⟨by decide +kernel, by decide +kernel⟩, List.mem_of_getElem? (i := 1263) (by decide +kernel), List.mem_of_getElem? (i := 1582) (by decide +kernel), List.mem_of_getElem? (i := 1583) (by decide +kernel)⟩
theorem lw_p76 : lw_okq (⟨"FlashPagesModel", "statement", "()V"⟩, 76) := ⟨⟨by decide +kernel, by decide +kernel⟩, List.mem_of_getElem? (i := 1263) (by decide +kernel), List.mem_of_getElem? (i := 1586) (by decide +kernel), List.mem_of_getElem? (i := 1587) (by decide +kernel)⟩
theorem lw_p77 : lw_okq (⟨"FlashPagesModel", "pageIs", "()V"⟩, 76) := ⟨⟨by decide +kernel, by decide +kernel⟩, List.mem_of_getElem? (i := 1263) (by decide +kernel), List.mem_of_getElem? (i := 1591) (by decide +kernel), List.mem_of_getElem? (i := 1592) (by decide +kernel)⟩
theorem lw_p78 : lw_okq (⟨"FlashPagesModel", "isCounted", "(Z)Z"⟩, 76) := ⟨⟨by decide +kernel, by decide +kernel⟩, List.mem_of_getElem? (i := 1263) (by decide +kernel), List.mem_of_getElem? (i := 1595) (by decide +kernel), List.mem_of_getElem? (i := 1596) (by decide +kernel)⟩
theorem lw_p79 : lw_okq (⟨"FlashPagesModel", "isOwn", "(J)Z"⟩, 76) := ⟨⟨by decide +kernel, by decide +kernel⟩, List.mem_of_getElem? (i := 1263) (by decide +kernel), List.mem_of_getElem? (i := 1599) (by decide +kernel), List.mem_of_getElem? (i := 1600) (by decide +kernel)⟩
def lw_privs_5 : List (MethodName × Nat) := [(⟨"FlashPagesModel", "tellsAt", "(II)V"⟩, 76), (⟨"FlashPagesModel", "ahead", "()V"⟩, 76), (⟨"FlashPagesModel", "chipIs", "()V"⟩, 76), (⟨"FlashPagesModel", "mustWord", "(J)V"⟩, 76), (⟨"FlashPagesModel", "lex", "()V"⟩, 76), (⟨"FlashPagesModel", "blame", "(II)V"⟩, 76), (⟨"FlashPagesModel", "isWord", "(J)Z"⟩, 76), (⟨"FlashPagesModel", "number", "(II)I"⟩, 76), (⟨"FlashPagesModel", "rootsFor", "(II)I"⟩, 76), (⟨"FlashPagesModel", "finishes", "(I)V"⟩, 76), (⟨"FlashPagesModel", "isSign", "(I)Z"⟩, 76), (⟨"FlashPagesModel", "must", "(I)V"⟩, 76), (⟨"FlashPagesModel", "statement", "()V"⟩, 76), (⟨"FlashPagesModel", "pageIs", "()V"⟩, 76), (⟨"FlashPagesModel", "isCounted", "(Z)Z"⟩, 76), (⟨"FlashPagesModel", "isOwn", "(J)Z"⟩, 76)]
theorem lw_r5 : ∀ q ∈ lw_privs_5, lw_okq q := List.forall_mem_cons.mpr ⟨lw_p64, List.forall_mem_cons.mpr ⟨lw_p65, List.forall_mem_cons.mpr ⟨lw_p66, List.forall_mem_cons.mpr ⟨lw_p67, List.forall_mem_cons.mpr ⟨lw_p68, List.forall_mem_cons.mpr ⟨lw_p69, List.forall_mem_cons.mpr ⟨lw_p70, List.forall_mem_cons.mpr ⟨lw_p71, List.forall_mem_cons.mpr ⟨lw_p72, List.forall_mem_cons.mpr ⟨lw_p73, List.forall_mem_cons.mpr ⟨lw_p74, List.forall_mem_cons.mpr ⟨lw_p75, List.forall_mem_cons.mpr ⟨lw_p76, List.forall_mem_cons.mpr ⟨lw_p77, List.forall_mem_cons.mpr ⟨lw_p78, List.forall_mem_cons.mpr ⟨lw_p79, fun _ h => absurd h List.not_mem_nil⟩⟩⟩⟩⟩⟩⟩⟩⟩⟩⟩⟩⟩⟩⟩⟩
theorem lw_p80 : lw_okq (⟨"FlashPagesModel", "pageNamed", "(J)I"⟩, 76) := ⟨⟨by decide +kernel, by decide +kernel⟩, List.mem_of_getElem? (i := 1263) (by decide +kernel), List.mem_of_getElem? (i := 1625) (by decide +kernel), List.mem_of_getElem? (i := 1626) (by decide +kernel)⟩
theorem lw_p81 : lw_okq (⟨"FlashPagesModel", "telling", "(III)V"⟩, 76) := ⟨⟨by decide +kernel, by decide +kernel⟩, List.mem_of_getElem? (i := 1263) (by decide +kernel), List.mem_of_getElem? (i := 1629) (by decide +kernel), List.mem_of_getElem? (i := 1630) (by decide +kernel)⟩
theorem lw_p82 : lw_okq (⟨"FlashPagesModel", "reading", "(I)V"⟩, 76) := ⟨⟨by decide +kernel, by decide +kernel⟩, List.mem_of_getElem? (i := 1263) (by decide +kernel), List.mem_of_getElem? (i := 1633) (by decide +kernel), List.mem_of_getElem? (i := 1634) (by decide +kernel)⟩
theorem lw_p83 : lw_okq (⟨"FlashPagesModel", "reads", "(Z)V"⟩, 76) := ⟨⟨by decide +kernel, by decide +kernel⟩, List.mem_of_getElem? (i := 1263) (by decide +kernel), List.mem_of_getElem? (i := 1637) (by decide +kernel), List.mem_of_getElem? (i := 1638) (by decide +kernel)⟩
theorem lw_p84 : lw_okq (⟨"FlashPagesModel", "pushes", "(I)V"⟩, 76) := ⟨⟨by decide +kernel, by decide +kernel⟩, List.mem_of_getElem? (i := 1263) (by decide +kernel), List.mem_of_getElem? (i := 1641) (by decide +kernel), List.mem_of_getElem? (i := 1642) (by decide +kernel)⟩
theorem lw_p85 : lw_okq (⟨"FlashPagesModel", "operand", "()Z"⟩, 76) := ⟨⟨by decide +kernel, by decide +kernel⟩, List.mem_of_getElem? (i := 1263) (by decide +kernel), List.mem_of_getElem? (i := 1645) (by decide +kernel), List.mem_of_getElem? (i := 1646) (by decide +kernel)⟩
theorem lw_p86 : lw_okq (⟨"FlashPagesModel", "holdsBack", "(I)V"⟩, 76) := ⟨⟨by decide +kernel, by decide +kernel⟩, List.mem_of_getElem? (i := 1263) (by decide +kernel), List.mem_of_getElem? (i := 1652) (by decide +kernel), List.mem_of_getElem? (i := 1653) (by decide +kernel)⟩
theorem lw_p87 : lw_okq (⟨"FlashPagesModel", "opens", "(I)V"⟩, 76) := ⟨⟨by decide +kernel, by decide +kernel⟩, List.mem_of_getElem? (i := 1263) (by decide +kernel), List.mem_of_getElem? (i := 1656) (by decide +kernel), List.mem_of_getElem? (i := 1657) (by decide +kernel)⟩
theorem lw_p88 : lw_okq (⟨"FlashPagesModel", "add", "(II)V"⟩, 76) := ⟨⟨by decide +kernel, by decide +kernel⟩, List.mem_of_getElem? (i := 1263) (by decide +kernel), List.mem_of_getElem? (i := 1660) (by decide +kernel), List.mem_of_getElem? (i := 1661) (by decide +kernel)⟩
theorem lw_p89 : lw_okq (⟨"FlashPagesModel", "goesOn", "()Z"⟩, 76) := ⟨⟨by decide +kernel, by decide +kernel⟩, List.mem_of_getElem? (i := 1263) (by decide +kernel), List.mem_of_getElem? (i := 1664) (by decide +kernel), List.mem_of_getElem? (i := 1665) (by decide +kernel)⟩
theorem lw_p90 : lw_okq (⟨"FlashPagesModel", "joins", "(I)V"⟩, 76) := ⟨⟨by decide +kernel, by decide +kernel⟩, List.mem_of_getElem? (i := 1263) (by decide +kernel), List.mem_of_getElem? (i := 1668) (by decide +kernel), List.mem_of_getElem? (i := 1669) (by decide +kernel)⟩
theorem lw_p91 : lw_okq (⟨"FlashPagesModel", "lays", "()V"⟩, 76) := ⟨⟨by decide +kernel, by decide +kernel⟩, List.mem_of_getElem? (i := 1263) (by decide +kernel), List.mem_of_getElem? (i := 1675) (by decide +kernel), List.mem_of_getElem? (i := 1676) (by decide +kernel)⟩
theorem lw_p92 : lw_okq (⟨"FlashPagesModel", "by", "(I)I"⟩, 76) := ⟨⟨by decide +kernel, by decide +kernel⟩, List.mem_of_getElem? (i := 1263) (by decide +kernel), List.mem_of_getElem? (i := 1679) (by decide +kernel), List.mem_of_getElem? (i := 1680) (by decide +kernel)⟩
theorem lw_p93 : lw_okq (⟨"FlashPagesModel", "multiplies", "(II)V"⟩, 76) := ⟨⟨by decide +kernel, by decide +kernel⟩, List.mem_of_getElem? (i := 1263) (by decide +kernel), List.mem_of_getElem? (i := 1683) (by decide +kernel), List.mem_of_getElem? (i := 1684) (by decide +kernel)⟩
theorem lw_p94 : lw_okq (⟨"FlashPagesModel", "times", "(II)I"⟩, 76) := ⟨⟨by decide +kernel, by decide +kernel⟩, List.mem_of_getElem? (i := 1263) (by decide +kernel), List.mem_of_getElem? (i := 1687) (by decide +kernel), List.mem_of_getElem? (i := 1688) (by decide +kernel)⟩
theorem lw_p95 : lw_okq (⟨"FlashPagesModel", "twoElements", "(I)J"⟩, 76) := ⟨⟨by decide +kernel, by decide +kernel⟩, List.mem_of_getElem? (i := 1263) (by decide +kernel), List.mem_of_getElem? (i := 1691) (by decide +kernel), List.mem_of_getElem? (i := 1692) (by decide +kernel)⟩
def lw_privs_6 : List (MethodName × Nat) := [(⟨"FlashPagesModel", "pageNamed", "(J)I"⟩, 76), (⟨"FlashPagesModel", "telling", "(III)V"⟩, 76), (⟨"FlashPagesModel", "reading", "(I)V"⟩, 76), (⟨"FlashPagesModel", "reads", "(Z)V"⟩, 76), (⟨"FlashPagesModel", "pushes", "(I)V"⟩, 76), (⟨"FlashPagesModel", "operand", "()Z"⟩, 76), (⟨"FlashPagesModel", "holdsBack", "(I)V"⟩, 76), (⟨"FlashPagesModel", "opens", "(I)V"⟩, 76), (⟨"FlashPagesModel", "add", "(II)V"⟩, 76), (⟨"FlashPagesModel", "goesOn", "()Z"⟩, 76), (⟨"FlashPagesModel", "joins", "(I)V"⟩, 76), (⟨"FlashPagesModel", "lays", "()V"⟩, 76), (⟨"FlashPagesModel", "by", "(I)I"⟩, 76), (⟨"FlashPagesModel", "multiplies", "(II)V"⟩, 76), (⟨"FlashPagesModel", "times", "(II)I"⟩, 76), (⟨"FlashPagesModel", "twoElements", "(I)J"⟩, 76)]
theorem lw_r6 : ∀ q ∈ lw_privs_6, lw_okq q := List.forall_mem_cons.mpr ⟨lw_p80, List.forall_mem_cons.mpr ⟨lw_p81, List.forall_mem_cons.mpr ⟨lw_p82, List.forall_mem_cons.mpr ⟨lw_p83, List.forall_mem_cons.mpr ⟨lw_p84, List.forall_mem_cons.mpr ⟨lw_p85, List.forall_mem_cons.mpr ⟨lw_p86, List.forall_mem_cons.mpr ⟨lw_p87, List.forall_mem_cons.mpr ⟨lw_p88, List.forall_mem_cons.mpr ⟨lw_p89, List.forall_mem_cons.mpr ⟨lw_p90, List.forall_mem_cons.mpr ⟨lw_p91, List.forall_mem_cons.mpr ⟨lw_p92, List.forall_mem_cons.mpr ⟨lw_p93, List.forall_mem_cons.mpr ⟨lw_p94, List.forall_mem_cons.mpr ⟨lw_p95, fun _ h => absurd h List.not_mem_nil⟩⟩⟩⟩⟩⟩⟩⟩⟩⟩⟩⟩⟩⟩⟩⟩
theorem lw_p96 : lw_okq (⟨"FlashPagesModel", "begin", "()V"⟩, 76) := ⟨⟨by decide +kernel, by decide +kernel⟩, List.mem_of_getElem? (i := 1263) (by decide +kernel), List.mem_of_getElem? (i := 1695) (by decide +kernel), List.mem_of_getElem? (i := 1696) (by decide +kernel)⟩
theorem lw_p97 : lw_okq (⟨"FlashPagesModel", "minimal", "(I)I"⟩, 76) := ⟨⟨by decide +kernel, by decide +kernel⟩, List.mem_of_getElem? (i := 1263) (by decide +kernel), List.mem_of_getElem? (i := 1711) (by decide +kernel), List.mem_of_getElem? (i := 1712) (by decide +kernel)⟩
theorem lw_p98 : lw_okq (⟨"FlashPagesModel", "isData", "(II)Z"⟩, 76) := ⟨⟨by decide +kernel, by decide +kernel⟩, List.mem_of_getElem? (i := 1263) (by decide +kernel), List.mem_of_getElem? (i := 1723) (by decide +kernel), List.mem_of_getElem? (i := 1724) (by decide +kernel)⟩
theorem lw_p99 : lw_okq (⟨"FlashPagesModel", "wordOf", "(J)J"⟩, 76) := ⟨⟨by decide +kernel, by decide +kernel⟩, List.mem_of_getElem? (i := 1263) (by decide +kernel), List.mem_of_getElem? (i := 1728) (by decide +kernel), List.mem_of_getElem? (i := 1729) (by decide +kernel)⟩
theorem lw_p100 : lw_okq (⟨"FlashPagesModel", "left", "(J)J"⟩, 76) := ⟨⟨by decide +kernel, by decide +kernel⟩, List.mem_of_getElem? (i := 1263) (by decide +kernel), List.mem_of_getElem? (i := 1732) (by decide +kernel), List.mem_of_getElem? (i := 1733) (by decide +kernel)⟩
theorem lw_p101 : lw_okq (⟨"FlashPagesModel", "counts", "(J)V"⟩, 76) := ⟨⟨by decide +kernel, by decide +kernel⟩, List.mem_of_getElem? (i := 1263) (by decide +kernel), List.mem_of_getElem? (i := 1747) (by decide +kernel), List.mem_of_getElem? (i := 1748) (by decide +kernel)⟩
theorem lw_p102 : lw_okq (⟨"FlashPagesModel", "readsBits", "(J)I"⟩, 76) := ⟨⟨by decide +kernel, by decide +kernel⟩, List.mem_of_getElem? (i := 1263) (by decide +kernel), List.mem_of_getElem? (i := 1751) (by decide +kernel), List.mem_of_getElem? (i := 1752) (by decide +kernel)⟩
theorem lw_p103 : lw_okq (⟨"FlashPagesModel", "syndromesOf", "(J)V"⟩, 76) := ⟨⟨by decide +kernel, by decide +kernel⟩, List.mem_of_getElem? (i := 1263) (by decide +kernel), List.mem_of_getElem? (i := 1755) (by decide +kernel), List.mem_of_getElem? (i := 1756) (by decide +kernel)⟩
theorem lw_p104 : lw_okq (⟨"FlashPagesModel", "locates", "()V"⟩, 76) := ⟨⟨by decide +kernel, by decide +kernel⟩, List.mem_of_getElem? (i := 1263) (by decide +kernel), List.mem_of_getElem? (i := 1759) (by decide +kernel), List.mem_of_getElem? (i := 1760) (by decide +kernel)⟩
theorem lw_p105 : lw_okq (⟨"FlashPagesModel", "missing", "(I)I"⟩, 76) := ⟨⟨by decide +kernel, by decide +kernel⟩, List.mem_of_getElem? (i := 1263) (by decide +kernel), List.mem_of_getElem? (i := 1763) (by decide +kernel), List.mem_of_getElem? (i := 1764) (by decide +kernel)⟩
theorem lw_p106 : lw_okq (⟨"FlashPagesModel", "inverse", "(I)I"⟩, 76) := ⟨⟨by decide +kernel, by decide +kernel⟩, List.mem_of_getElem? (i := 1263) (by decide +kernel), List.mem_of_getElem? (i := 1767) (by decide +kernel), List.mem_of_getElem? (i := 1768) (by decide +kernel)⟩
theorem lw_p107 : lw_okq (⟨"FlashPagesModel", "isRootAt", "(I)Z"⟩, 76) := ⟨⟨by decide +kernel, by decide +kernel⟩, List.mem_of_getElem? (i := 1263) (by decide +kernel), List.mem_of_getElem? (i := 1771) (by decide +kernel), List.mem_of_getElem? (i := 1772) (by decide +kernel)⟩
theorem lw_p108 : lw_okq (⟨"FlashPagesModel", "slot", "(I)I"⟩, 76) := ⟨⟨by decide +kernel, by decide +kernel⟩, List.mem_of_getElem? (i := 1263) (by decide +kernel), List.mem_of_getElem? (i := 1779) (by decide +kernel), List.mem_of_getElem? (i := 1780) (by decide +kernel)⟩
theorem lw_p109 : lw_okq (⟨"FlashPagesModel", "copies", "(II)V"⟩, 76) := ⟨⟨by decide +kernel, by decide +kernel⟩, List.mem_of_getElem? (i := 1263) (by decide +kernel), List.mem_of_getElem? (i := 1783) (by decide +kernel), List.mem_of_getElem? (i := 1784) (by decide +kernel)⟩
theorem lw_p110 : lw_okq (⟨"FlashPagesModel", "isPage", "(I)Z"⟩, 76) := ⟨⟨by decide +kernel, by decide +kernel⟩, List.mem_of_getElem? (i := 1263) (by decide +kernel), List.mem_of_getElem? (i := 1795) (by decide +kernel), List.mem_of_getElem? (i := 1796) (by decide +kernel)⟩
theorem lw_p111 : lw_okq (⟨"FlashPagesModel", "wantedOf", "(II)I"⟩, 76) := ⟨⟨by decide +kernel, by decide +kernel⟩, List.mem_of_getElem? (i := 1263) (by decide +kernel), List.mem_of_getElem? (i := 1804) (by decide +kernel), List.mem_of_getElem? (i := 1805) (by decide +kernel)⟩
def lw_privs_7 : List (MethodName × Nat) := [(⟨"FlashPagesModel", "begin", "()V"⟩, 76), (⟨"FlashPagesModel", "minimal", "(I)I"⟩, 76), (⟨"FlashPagesModel", "isData", "(II)Z"⟩, 76), (⟨"FlashPagesModel", "wordOf", "(J)J"⟩, 76), (⟨"FlashPagesModel", "left", "(J)J"⟩, 76), (⟨"FlashPagesModel", "counts", "(J)V"⟩, 76), (⟨"FlashPagesModel", "readsBits", "(J)I"⟩, 76), (⟨"FlashPagesModel", "syndromesOf", "(J)V"⟩, 76), (⟨"FlashPagesModel", "locates", "()V"⟩, 76), (⟨"FlashPagesModel", "missing", "(I)I"⟩, 76), (⟨"FlashPagesModel", "inverse", "(I)I"⟩, 76), (⟨"FlashPagesModel", "isRootAt", "(I)Z"⟩, 76), (⟨"FlashPagesModel", "slot", "(I)I"⟩, 76), (⟨"FlashPagesModel", "copies", "(II)V"⟩, 76), (⟨"FlashPagesModel", "isPage", "(I)Z"⟩, 76), (⟨"FlashPagesModel", "wantedOf", "(II)I"⟩, 76)]
theorem lw_r7 : ∀ q ∈ lw_privs_7, lw_okq q := List.forall_mem_cons.mpr ⟨lw_p96, List.forall_mem_cons.mpr ⟨lw_p97, List.forall_mem_cons.mpr ⟨lw_p98, List.forall_mem_cons.mpr ⟨lw_p99, List.forall_mem_cons.mpr ⟨lw_p100, List.forall_mem_cons.mpr ⟨lw_p101, List.forall_mem_cons.mpr ⟨lw_p102, List.forall_mem_cons.mpr ⟨lw_p103, List.forall_mem_cons.mpr ⟨lw_p104, List.forall_mem_cons.mpr ⟨lw_p105, List.forall_mem_cons.mpr ⟨lw_p106, List.forall_mem_cons.mpr ⟨lw_p107, List.forall_mem_cons.mpr ⟨lw_p108, List.forall_mem_cons.mpr ⟨lw_p109, List.forall_mem_cons.mpr ⟨lw_p110, List.forall_mem_cons.mpr ⟨lw_p111, fun _ h => absurd h List.not_mem_nil⟩⟩⟩⟩⟩⟩⟩⟩⟩⟩⟩⟩⟩⟩⟩⟩
theorem lw_p112 : lw_okq (⟨"FlashPagesModel", "isThere", "(I)Z"⟩, 76) := ⟨⟨by decide +kernel, by decide +kernel⟩, List.mem_of_getElem? (i := 1263) (by decide +kernel), List.mem_of_getElem? (i := 1812) (by decide +kernel), List.mem_of_getElem? (i := 1813) (by decide +kernel)⟩
theorem lw_p113 : lw_okq (⟨"FlashPagesModel", "isAhead", "(III)Z"⟩, 76) := ⟨⟨by decide +kernel, by decide +kernel⟩, List.mem_of_getElem? (i := 1263) (by decide +kernel), List.mem_of_getElem? (i := 1816) (by decide +kernel), List.mem_of_getElem? (i := 1817) (by decide +kernel)⟩
theorem lw_p114 : lw_okq (⟨"FlashPagesModel", "passes", "(I)V"⟩, 76) := ⟨⟨by decide +kernel, by decide +kernel⟩, List.mem_of_getElem? (i := 1263) (by decide +kernel), List.mem_of_getElem? (i := 1820) (by decide +kernel), List.mem_of_getElem? (i := 1821) (by decide +kernel)⟩
theorem lw_p115 : lw_okq (⟨"FlashPagesModel", "drifts", "(II)V"⟩, 76) := ⟨⟨by decide +kernel, by decide +kernel⟩, List.mem_of_getElem? (i := 1263) (by decide +kernel), List.mem_of_getElem? (i := 1824) (by decide +kernel), List.mem_of_getElem? (i := 1825) (by decide +kernel)⟩
theorem lw_p116 : lw_okq (⟨"FlashPagesModel", "isTold", "(I)Z"⟩, 76) := ⟨⟨by decide +kernel, by decide +kernel⟩, List.mem_of_getElem? (i := 1263) (by decide +kernel), List.mem_of_getElem? (i := 1828) (by decide +kernel), List.mem_of_getElem? (i := 1829) (by decide +kernel)⟩
theorem lw_p117 : lw_okq (⟨"FlashPagesModel", "levelAt", "(III)I"⟩, 76) := ⟨⟨by decide +kernel, by decide +kernel⟩, List.mem_of_getElem? (i := 1263) (by decide +kernel), List.mem_of_getElem? (i := 1832) (by decide +kernel), List.mem_of_getElem? (i := 1833) (by decide +kernel)⟩
theorem lw_p118 : lw_okq (⟨"FlashPagesModel", "reckons", "(I)J"⟩, 76) := ⟨⟨by decide +kernel, by decide +kernel⟩, List.mem_of_getElem? (i := 1263) (by decide +kernel), List.mem_of_getElem? (i := 1836) (by decide +kernel), List.mem_of_getElem? (i := 1837) (by decide +kernel)⟩
theorem lw_p119 : lw_okq (⟨"FlashPagesModel", "puts", "(IIII)V"⟩, 76) := ⟨⟨by decide +kernel, by decide +kernel⟩, List.mem_of_getElem? (i := 1263) (by decide +kernel), List.mem_of_getElem? (i := 1852) (by decide +kernel), List.mem_of_getElem? (i := 1853) (by decide +kernel)⟩
theorem lw_p120 : lw_okq (⟨"FlashPagesModel", "isRead", "(II)Z"⟩, 76) := ⟨⟨by decide +kernel, by decide +kernel⟩, List.mem_of_getElem? (i := 1263) (by decide +kernel), List.mem_of_getElem? (i := 1860) (by decide +kernel), List.mem_of_getElem? (i := 1861) (by decide +kernel)⟩
theorem lw_p121 : lw_okq (⟨"FlashPagesModel", "bitsBy", "(IIII)J"⟩, 76) := ⟨⟨by decide +kernel, by decide +kernel⟩, List.mem_of_getElem? (i := 1263) (by decide +kernel), List.mem_of_getElem? (i := 1864) (by decide +kernel), List.mem_of_getElem? (i := 1865) (by decide +kernel)⟩
theorem lw_p122 : lw_okq (⟨"FlashPagesModel", "gets", "(II)I"⟩, 76) := ⟨⟨by decide +kernel, by decide +kernel⟩, List.mem_of_getElem? (i := 1263) (by decide +kernel), List.mem_of_getElem? (i := 1888) (by decide +kernel), List.mem_of_getElem? (i := 1889) (by decide +kernel)⟩
theorem lw_p123 : lw_okq (⟨"FlashPagesModel", "isTriedAgain", "(III)Z"⟩, 76) := ⟨⟨by decide +kernel, by decide +kernel⟩, List.mem_of_getElem? (i := 1263) (by decide +kernel), List.mem_of_getElem? (i := 1892) (by decide +kernel), List.mem_of_getElem? (i := 1893) (by decide +kernel)⟩
theorem lw_p124 : lw_okq (⟨"FlashPagesModel", "isTrue", "(II)Z"⟩, 76) := ⟨⟨by decide +kernel, by decide +kernel⟩, List.mem_of_getElem? (i := 1263) (by decide +kernel), List.mem_of_getElem? (i := 1905) (by decide +kernel), List.mem_of_getElem? (i := 1906) (by decide +kernel)⟩
theorem lw_p125 : lw_okq (⟨"FlashPagesModel", "leaves", "(I)I"⟩, 76) := ⟨⟨by decide +kernel, by decide +kernel⟩, List.mem_of_getElem? (i := 1263) (by decide +kernel), List.mem_of_getElem? (i := 1921) (by decide +kernel), List.mem_of_getElem? (i := 1922) (by decide +kernel)⟩
theorem lw_p126 : lw_okq (⟨"FlashPagesModel", "mostBy", "(II)I"⟩, 76) := ⟨⟨by decide +kernel, by decide +kernel⟩, List.mem_of_getElem? (i := 1263) (by decide +kernel), List.mem_of_getElem? (i := 1930) (by decide +kernel), List.mem_of_getElem? (i := 1931) (by decide +kernel)⟩
theorem lw_p127 : lw_okq (⟨"FlashPagesModel", "keeps", "()V"⟩, 76) := ⟨⟨by decide +kernel, by decide +kernel⟩, List.mem_of_getElem? (i := 1263) (by decide +kernel), List.mem_of_getElem? (i := 1938) (by decide +kernel), List.mem_of_getElem? (i := 1939) (by decide +kernel)⟩
def lw_privs_8 : List (MethodName × Nat) := [(⟨"FlashPagesModel", "isThere", "(I)Z"⟩, 76), (⟨"FlashPagesModel", "isAhead", "(III)Z"⟩, 76), (⟨"FlashPagesModel", "passes", "(I)V"⟩, 76), (⟨"FlashPagesModel", "drifts", "(II)V"⟩, 76), (⟨"FlashPagesModel", "isTold", "(I)Z"⟩, 76), (⟨"FlashPagesModel", "levelAt", "(III)I"⟩, 76), (⟨"FlashPagesModel", "reckons", "(I)J"⟩, 76), (⟨"FlashPagesModel", "puts", "(IIII)V"⟩, 76), (⟨"FlashPagesModel", "isRead", "(II)Z"⟩, 76), (⟨"FlashPagesModel", "bitsBy", "(IIII)J"⟩, 76), (⟨"FlashPagesModel", "gets", "(II)I"⟩, 76), (⟨"FlashPagesModel", "isTriedAgain", "(III)Z"⟩, 76), (⟨"FlashPagesModel", "isTrue", "(II)Z"⟩, 76), (⟨"FlashPagesModel", "leaves", "(I)I"⟩, 76), (⟨"FlashPagesModel", "mostBy", "(II)I"⟩, 76), (⟨"FlashPagesModel", "keeps", "()V"⟩, 76)]
theorem lw_r8 : ∀ q ∈ lw_privs_8, lw_okq q := List.forall_mem_cons.mpr ⟨lw_p112, List.forall_mem_cons.mpr ⟨lw_p113, List.forall_mem_cons.mpr ⟨lw_p114, List.forall_mem_cons.mpr ⟨lw_p115, List.forall_mem_cons.mpr ⟨lw_p116, List.forall_mem_cons.mpr ⟨lw_p117, List.forall_mem_cons.mpr ⟨lw_p118, List.forall_mem_cons.mpr ⟨lw_p119, List.forall_mem_cons.mpr ⟨lw_p120, List.forall_mem_cons.mpr ⟨lw_p121, List.forall_mem_cons.mpr ⟨lw_p122, List.forall_mem_cons.mpr ⟨lw_p123, List.forall_mem_cons.mpr ⟨lw_p124, List.forall_mem_cons.mpr ⟨lw_p125, List.forall_mem_cons.mpr ⟨lw_p126, List.forall_mem_cons.mpr ⟨lw_p127, fun _ h => absurd h List.not_mem_nil⟩⟩⟩⟩⟩⟩⟩⟩⟩⟩⟩⟩⟩⟩⟩⟩
theorem lw_p128 : lw_okq (⟨"FlashPagesModel", "writesWord", "(IJ)V"⟩, 76) := ⟨⟨by decide +kernel, by decide +kernel⟩, List.mem_of_getElem? (i := 1263) (by decide +kernel), List.mem_of_getElem? (i := 1942) (by decide +kernel), List.mem_of_getElem? (i := 1943) (by decide +kernel)⟩
theorem lw_p129 : lw_okq (⟨"FlashPagesModel", "writesDown", "(II)V"⟩, 76) := ⟨⟨by decide +kernel, by decide +kernel⟩, List.mem_of_getElem? (i := 1263) (by decide +kernel), List.mem_of_getElem? (i := 1946) (by decide +kernel), List.mem_of_getElem? (i := 1947) (by decide +kernel)⟩
theorem lw_p130 : lw_okq (⟨"FlashPagesModel", "trueOnes", "()I"⟩, 76) := ⟨⟨by decide +kernel, by decide +kernel⟩, List.mem_of_getElem? (i := 1263) (by decide +kernel), List.mem_of_getElem? (i := 1966) (by decide +kernel), List.mem_of_getElem? (i := 1967) (by decide +kernel)⟩
theorem lw_p131 : lw_okq (⟨"FlashPagesModel", "draw", "(I)I"⟩, 76) := ⟨⟨by decide +kernel, by decide +kernel⟩, List.mem_of_getElem? (i := 1263) (by decide +kernel), List.mem_of_getElem? (i := 1974) (by decide +kernel), List.mem_of_getElem? (i := 1975) (by decide +kernel)⟩
theorem lw_p132 : lw_okq (⟨"FlashPagesModel", "writes", "(I)V"⟩, 76) := ⟨⟨by decide +kernel, by decide +kernel⟩, List.mem_of_getElem? (i := 1263) (by decide +kernel), List.mem_of_getElem? (i := 1994) (by decide +kernel), List.mem_of_getElem? (i := 1995) (by decide +kernel)⟩
theorem lw_p133 : lw_okq (⟨"FlashPagesModel", "comesOn", "(I)Z"⟩, 76) := ⟨⟨by decide +kernel, by decide +kernel⟩, List.mem_of_getElem? (i := 1263) (by decide +kernel), List.mem_of_getElem? (i := 2006) (by decide +kernel), List.mem_of_getElem? (i := 2007) (by decide +kernel)⟩
theorem lw_p134 : lw_okq (⟨"FlashPagesModel", "pageOn", "(III)I"⟩, 76) := ⟨⟨by decide +kernel, by decide +kernel⟩, List.mem_of_getElem? (i := 1263) (by decide +kernel), List.mem_of_getElem? (i := 2010) (by decide +kernel), List.mem_of_getElem? (i := 2011) (by decide +kernel)⟩
def lw_privs_9 : List (MethodName × Nat) := [(⟨"FlashPagesModel", "writesWord", "(IJ)V"⟩, 76), (⟨"FlashPagesModel", "writesDown", "(II)V"⟩, 76), (⟨"FlashPagesModel", "trueOnes", "()I"⟩, 76), (⟨"FlashPagesModel", "draw", "(I)I"⟩, 76), (⟨"FlashPagesModel", "writes", "(I)V"⟩, 76), (⟨"FlashPagesModel", "comesOn", "(I)Z"⟩, 76), (⟨"FlashPagesModel", "pageOn", "(III)I"⟩, 76)]
theorem lw_r9 : ∀ q ∈ lw_privs_9, lw_okq q := List.forall_mem_cons.mpr ⟨lw_p128, List.forall_mem_cons.mpr ⟨lw_p129, List.forall_mem_cons.mpr ⟨lw_p130, List.forall_mem_cons.mpr ⟨lw_p131, List.forall_mem_cons.mpr ⟨lw_p132, List.forall_mem_cons.mpr ⟨lw_p133, List.forall_mem_cons.mpr ⟨lw_p134, fun _ h => absurd h List.not_mem_nil⟩⟩⟩⟩⟩⟩⟩
def lw_privs : List (MethodName × Nat) := lw_privs_1 ++ (lw_privs_2 ++ (lw_privs_3 ++ (lw_privs_4 ++ (lw_privs_5 ++ (lw_privs_6 ++ (lw_privs_7 ++ (lw_privs_8 ++ (lw_privs_9))))))))
def lw_tbl : List Cond := k2_sels lw_privs ++ tables_1
theorem lw_privs_ok : ∀ q ∈ lw_privs, lw_okq q := by
  show ∀ q ∈ lw_privs_1 ++ (lw_privs_2 ++ (lw_privs_3 ++ (lw_privs_4 ++ (lw_privs_5 ++ (lw_privs_6 ++ (lw_privs_7 ++ (lw_privs_8 ++ (lw_privs_9)))))))), lw_okq q
  exact List.forall_mem_append.mpr ⟨lw_r1, List.forall_mem_append.mpr ⟨lw_r2, List.forall_mem_append.mpr ⟨lw_r3, List.forall_mem_append.mpr ⟨lw_r4, List.forall_mem_append.mpr ⟨lw_r5, List.forall_mem_append.mpr ⟨lw_r6, List.forall_mem_append.mpr ⟨lw_r7, List.forall_mem_append.mpr ⟨lw_r8, lw_r9⟩⟩⟩⟩⟩⟩⟩⟩
end
section
def RX0 : String := "FlashPages$Chip"
def TX0 : u_T := fun k => match k with
  | 0 => ("FlashPages$Chip", "code", "LFlashPages$Code;", true)
  | 1 => ("FlashPages$Chip", "names", "[I", true)
  | 2 => ("FlashPages$Chip", "program", "[I", true)
  | 3 => ("FlashPages$Chip", "programSize", "I", false)
  | 4 => ("FlashPages$Chip", "driftsFrom", "I", false)
  | 5 => ("FlashPages$Chip", "driftsTo", "I", false)
  | 6 => ("FlashPages$Chip", "triesFrom", "I", false)
  | 7 => ("FlashPages$Chip", "triesTo", "I", false)
  | 8 => ("FlashPages$Chip", "statements", "I", false)
  | 9 => ("FlashPages$Chip", "pages", "I", false)
  | 10 => ("FlashPages$Chip", "high", "I", false)
  | 11 => ("FlashPages$Chip", "low", "I", false)
  | 12 => ("FlashPages$Chip", "mid", "I", false)
  | 13 => ("FlashPages$Chip", "step", "I", false)
  | _ => ("FlashPages$Chip", "noise", "I", false)
def tyX0 : Nat → FieldType := fun k => match k with
  | 0 => .object "FlashPages$Code"
  | 1 => .array .int
  | 2 => .array .int
  | 3 => .int
  | 4 => .int
  | 5 => .int
  | 6 => .int
  | 7 => .int
  | 8 => .int
  | 9 => .int
  | 10 => .int
  | 11 => .int
  | 12 => .int
  | 13 => .int
  | _ => .int
theorem nmX0 : ∀ a, a < 15 → ∀ b, b < 15 → a ≠ b → (TX0 a).2.1 ≠ (TX0 b).2.1 := by decide +kernel
theorem tyX0_ok : ∀ k, k < 15 → parseFieldDescriptor (TX0 k).2.2.1 = some (tyX0 k) := by decide +kernel
def RX1 : String := "FlashPages$Code"
def TX1 : u_T := fun k => match k with
  | 0 => ("FlashPages$Code", "powers", "[I", true)
  | 1 => ("FlashPages$Code", "exponents", "[I", true)
  | 2 => ("FlashPages$Code", "weights", "[I", true)
  | 3 => ("FlashPages$Code", "mendable", "[J", true)
  | 4 => ("FlashPages$Code", "missed", "[I", true)
  | 5 => ("FlashPages$Code", "isWeighed", "Z", false)
  | 6 => ("FlashPages$Code", "degree", "I", false)
  | 7 => ("FlashPages$Code", "size", "I", false)
  | 8 => ("FlashPages$Code", "mends", "I", false)
  | 9 => ("FlashPages$Code", "checks", "I", false)
  | 10 => ("FlashPages$Code", "cells", "I", false)
  | 11 => ("FlashPages$Code", "bits", "I", false)
  | _ => ("FlashPages$Code", "divisor", "J", false)
def tyX1 : Nat → FieldType := fun k => match k with
  | 0 => .array .int
  | 1 => .array .int
  | 2 => .array .int
  | 3 => .array .long
  | 4 => .array .int
  | 5 => .boolean
  | 6 => .int
  | 7 => .int
  | 8 => .int
  | 9 => .int
  | 10 => .int
  | 11 => .int
  | _ => .long
theorem nmX1 : ∀ a, a < 13 → ∀ b, b < 13 → a ≠ b → (TX1 a).2.1 ≠ (TX1 b).2.1 := by decide +kernel
theorem tyX1_ok : ∀ k, k < 13 → parseFieldDescriptor (TX1 k).2.2.1 = some (tyX1 k) := by decide +kernel
def RX2 : String := "FlashPages$Decoder"
def TX2 : u_T := fun k => match k with
  | 0 => ("FlashPages$Decoder", "syndromes", "[I", true)
  | 1 => ("FlashPages$Decoder", "factors", "[I", true)
  | 2 => ("FlashPages$Decoder", "former", "[I", true)
  | 3 => ("FlashPages$Decoder", "saved", "[I", true)
  | 4 => ("FlashPages$Decoder", "roots", "[I", true)
  | 5 => ("FlashPages$Decoder", "isFresh", "Z", false)
  | 6 => ("FlashPages$Decoder", "read", "J", false)
  | 7 => ("FlashPages$Decoder", "result", "J", false)
  | 8 => ("FlashPages$Decoder", "length", "I", false)
  | _ => ("FlashPages$Decoder", "cause", "I", false)
def tyX2 : Nat → FieldType := fun k => match k with
  | 0 => .array .int
  | 1 => .array .int
  | 2 => .array .int
  | 3 => .array .int
  | 4 => .array .int
  | 5 => .boolean
  | 6 => .long
  | 7 => .long
  | 8 => .int
  | _ => .int
theorem nmX2 : ∀ a, a < 10 → ∀ b, b < 10 → a ≠ b → (TX2 a).2.1 ≠ (TX2 b).2.1 := by decide +kernel
theorem tyX2_ok : ∀ k, k < 10 → parseFieldDescriptor (TX2 k).2.2.1 = some (tyX2 k) := by decide +kernel
def RX3 : String := "FlashPages$Getter"
def TX3 : u_T := fun k => match k with
  | 0 => ("FlashPages$Getter", "decoder", "LFlashPages$Decoder;", true)
  | 1 => ("FlashPages$Getter", "terms", "LFlashPages$Terms;", true)
  | 2 => ("FlashPages$Getter", "reads", "I", false)
  | 3 => ("FlashPages$Getter", "threshold", "I", false)
  | 4 => ("FlashPages$Getter", "cause", "I", false)
  | 5 => ("FlashPages$Getter", "mended", "I", false)
  | 6 => ("FlashPages$Getter", "result", "J", false)
  | _ => ("FlashPages$Getter", "isTrue", "Z", false)
def tyX3 : Nat → FieldType := fun k => match k with
  | 0 => .object "FlashPages$Decoder"
  | 1 => .object "FlashPages$Terms"
  | 2 => .int
  | 3 => .int
  | 4 => .int
  | 5 => .int
  | 6 => .long
  | _ => .boolean
theorem nmX3 : ∀ a, a < 8 → ∀ b, b < 8 → a ≠ b → (TX3 a).2.1 ≠ (TX3 b).2.1 := by decide +kernel
theorem tyX3_ok : ∀ k, k < 8 → parseFieldDescriptor (TX3 k).2.2.1 = some (tyX3 k) := by decide +kernel
def RX4 : String := "FlashPages$Image"
def TX4 : u_T := fun k => match k with
  | 0 => ("FlashPages$Image", "bytes", "[I", true)
  | _ => ("FlashPages$Image", "size", "I", false)
def tyX4 : Nat → FieldType := fun k => match k with
  | 0 => .array .int
  | _ => .int
theorem nmX4 : ∀ a, a < 2 → ∀ b, b < 2 → a ≠ b → (TX4 a).2.1 ≠ (TX4 b).2.1 := by decide +kernel
theorem tyX4_ok : ∀ k, k < 2 → parseFieldDescriptor (TX4 k).2.2.1 = some (tyX4 k) := by decide +kernel
def RX5 : String := "FlashPages$Pages"
def TX5 : u_T := fun k => match k with
  | 0 => ("FlashPages$Pages", "rows", "[LFlashPages$Row;", true)
  | _ => ("FlashPages$Pages", "day", "I", false)
def tyX5 : Nat → FieldType := fun k => match k with
  | 0 => .array (.object "FlashPages$Row")
  | _ => .int
theorem nmX5 : ∀ a, a < 2 → ∀ b, b < 2 → a ≠ b → (TX5 a).2.1 ≠ (TX5 b).2.1 := by decide +kernel
theorem tyX5_ok : ∀ k, k < 2 → parseFieldDescriptor (TX5 k).2.2.1 = some (tyX5 k) := by decide +kernel
def RX6 : String := "FlashPages$Parser"
def TX6 : u_T := fun k => match k with
  | 0 => ("FlashPages$Parser", "ownWords", "[I", true)
  | 1 => ("FlashPages$Parser", "text", "[I", true)
  | 2 => ("FlashPages$Parser", "chip", "LFlashPages$Chip;", false)
  | 3 => ("FlashPages$Parser", "size", "I", false)
  | 4 => ("FlashPages$Parser", "fault", "I", false)
  | 5 => ("FlashPages$Parser", "place", "I", false)
  | 6 => ("FlashPages$Parser", "kind", "I", false)
  | 7 => ("FlashPages$Parser", "start", "I", false)
  | 8 => ("FlashPages$Parser", "badPlace", "I", false)
  | 9 => ("FlashPages$Parser", "after", "I", false)
  | 10 => ("FlashPages$Parser", "value", "I", false)
  | 11 => ("FlashPages$Parser", "own", "I", false)
  | _ => ("FlashPages$Parser", "inDrifts", "Z", false)
def tyX6 : Nat → FieldType := fun k => match k with
  | 0 => .array .int
  | 1 => .array .int
  | 2 => .object "FlashPages$Chip"
  | 3 => .int
  | 4 => .int
  | 5 => .int
  | 6 => .int
  | 7 => .int
  | 8 => .int
  | 9 => .int
  | 10 => .int
  | 11 => .int
  | _ => .boolean
theorem nmX6 : ∀ a, a < 13 → ∀ b, b < 13 → a ≠ b → (TX6 a).2.1 ≠ (TX6 b).2.1 := by decide +kernel
theorem tyX6_ok : ∀ k, k < 13 → parseFieldDescriptor (TX6 k).2.2.1 = some (tyX6 k) := by decide +kernel
def RX7 : String := "FlashPages$Past"
def TX7 : u_T := fun k => match k with
  | 0 => ("FlashPages$Past", "before", "[LFlashPages$Pages;", true)
  | 1 => ("FlashPages$Past", "totals", "[I", true)
  | 2 => ("FlashPages$Past", "entries", "[I", true)
  | 3 => ("FlashPages$Past", "count", "I", false)
  | 4 => ("FlashPages$Past", "last", "I", false)
  | _ => ("FlashPages$Past", "total", "I", false)
def tyX7 : Nat → FieldType := fun k => match k with
  | 0 => .array (.object "FlashPages$Pages")
  | 1 => .array .int
  | 2 => .array .int
  | 3 => .int
  | 4 => .int
  | _ => .int
theorem nmX7 : ∀ a, a < 6 → ∀ b, b < 6 → a ≠ b → (TX7 a).2.1 ≠ (TX7 b).2.1 := by decide +kernel
theorem tyX7_ok : ∀ k, k < 6 → parseFieldDescriptor (TX7 k).2.2.1 = some (tyX7 k) := by decide +kernel
def RX8 : String := "FlashPages$Row"
def TX8 : u_T := fun k => match k with
  | 0 => ("FlashPages$Row", "levels", "[I", true)
  | 1 => ("FlashPages$Row", "number", "I", false)
  | 2 => ("FlashPages$Row", "written", "Z", false)
  | 3 => ("FlashPages$Row", "age", "I", false)
  | _ => ("FlashPages$Row", "word", "J", false)
def tyX8 : Nat → FieldType := fun k => match k with
  | 0 => .array .int
  | 1 => .int
  | 2 => .boolean
  | 3 => .int
  | _ => .long
theorem nmX8 : ∀ a, a < 5 → ∀ b, b < 5 → a ≠ b → (TX8 a).2.1 ≠ (TX8 b).2.1 := by decide +kernel
theorem tyX8_ok : ∀ k, k < 5 → parseFieldDescriptor (TX8 k).2.2.1 = some (tyX8 k) := by decide +kernel
def RX9 : String := "FlashPages$Shifts"
def TX9 : u_T := fun k => match k with
  | 0 => ("FlashPages$Shifts", "thresholds", "[I", true)
  | 1 => ("FlashPages$Shifts", "seen", "[I", true)
  | 2 => ("FlashPages$Shifts", "fits", "[I", true)
  | 3 => ("FlashPages$Shifts", "atLeast", "[I", true)
  | 4 => ("FlashPages$Shifts", "groups", "[I", true)
  | 5 => ("FlashPages$Shifts", "rows", "I", false)
  | 6 => ("FlashPages$Shifts", "fitCount", "I", false)
  | 7 => ("FlashPages$Shifts", "telling", "I", false)
  | _ => ("FlashPages$Shifts", "leftAtMost", "I", false)
def tyX9 : Nat → FieldType := fun k => match k with
  | 0 => .array .int
  | 1 => .array .int
  | 2 => .array .int
  | 3 => .array .int
  | 4 => .array .int
  | 5 => .int
  | 6 => .int
  | 7 => .int
  | _ => .int
theorem nmX9 : ∀ a, a < 9 → ∀ b, b < 9 → a ≠ b → (TX9 a).2.1 ≠ (TX9 b).2.1 := by decide +kernel
theorem tyX9_ok : ∀ k, k < 9 → parseFieldDescriptor (TX9 k).2.2.1 = some (tyX9 k) := by decide +kernel
def RX10 : String := "FlashPages$Terms"
def TX10 : u_T := fun k => match k with
  | 0 => ("FlashPages$Terms", "values", "[I", true)
  | 1 => ("FlashPages$Terms", "stack", "[I", true)
  | _ => ("FlashPages$Terms", "top", "I", false)
def tyX10 : Nat → FieldType := fun k => match k with
  | 0 => .array .int
  | 1 => .array .int
  | _ => .int
theorem nmX10 : ∀ a, a < 3 → ∀ b, b < 3 → a ≠ b → (TX10 a).2.1 ≠ (TX10 b).2.1 := by decide +kernel
theorem tyX10_ok : ∀ k, k < 3 → parseFieldDescriptor (TX10 k).2.2.1 = some (tyX10 k) := by decide +kernel
def RX11 : String := "FlashPages"
def TX11 : u_T := fun k => match k with
  | 0 => ("FlashPages", "tape", "[I", true)
  | 1 => ("FlashPages", "refused", "[I", true)
  | 2 => ("FlashPages", "terms", "LFlashPages$Terms;", true)
  | 3 => ("FlashPages", "decoder", "LFlashPages$Decoder;", true)
  | 4 => ("FlashPages", "getter", "LFlashPages$Getter;", true)
  | 5 => ("FlashPages", "pages", "LFlashPages$Pages;", true)
  | 6 => ("FlashPages", "draft", "LFlashPages$Pages;", true)
  | 7 => ("FlashPages", "scratch", "LFlashPages$Row;", true)
  | 8 => ("FlashPages", "past", "LFlashPages$Past;", true)
  | 9 => ("FlashPages", "met", "LFlashPages$Shifts;", true)
  | 10 => ("FlashPages", "image", "LFlashPages$Image;", true)
  | 11 => ("FlashPages", "current", "LFlashPages$Chip;", false)
  | 12 => ("FlashPages", "spare", "LFlashPages$Chip;", false)
  | 13 => ("FlashPages", "parser", "LFlashPages$Parser;", true)
  | 14 => ("FlashPages", "loaded", "Z", false)
  | 15 => ("FlashPages", "tapeSize", "I", false)
  | _ => ("FlashPages", "drawn", "I", false)
def tyX11 : Nat → FieldType := fun k => match k with
  | 0 => .array .int
  | 1 => .array .int
  | 2 => .object "FlashPages$Terms"
  | 3 => .object "FlashPages$Decoder"
  | 4 => .object "FlashPages$Getter"
  | 5 => .object "FlashPages$Pages"
  | 6 => .object "FlashPages$Pages"
  | 7 => .object "FlashPages$Row"
  | 8 => .object "FlashPages$Past"
  | 9 => .object "FlashPages$Shifts"
  | 10 => .object "FlashPages$Image"
  | 11 => .object "FlashPages$Chip"
  | 12 => .object "FlashPages$Chip"
  | 13 => .object "FlashPages$Parser"
  | 14 => .boolean
  | 15 => .int
  | _ => .int
theorem nmX11 : ∀ a, a < 17 → ∀ b, b < 17 → a ≠ b → (TX11 a).2.1 ≠ (TX11 b).2.1 := by decide +kernel
theorem tyX11_ok : ∀ k, k < 17 → parseFieldDescriptor (TX11 k).2.2.1 = some (tyX11 k) := by decide +kernel
def RX12 : String := "FlashPagesModel"
def TX12 : u_T := fun k => match k with
  | 0 => ("FlashPagesModel", "tape", "[I", true)
  | 1 => ("FlashPagesModel", "taped", "I", false)
  | 2 => ("FlashPagesModel", "size", "I", false)
  | 3 => ("FlashPagesModel", "sign", "I", false)
  | 4 => ("FlashPagesModel", "signAt", "I", false)
  | 5 => ("FlashPagesModel", "signEnd", "I", false)
  | 6 => ("FlashPagesModel", "value", "I", false)
  | 7 => ("FlashPagesModel", "word", "J", false)
  | 8 => ("FlashPagesModel", "faultKind", "I", false)
  | 9 => ("FlashPagesModel", "faultPlace", "I", false)
  | 10 => ("FlashPagesModel", "toldKind", "I", false)
  | 11 => ("FlashPagesModel", "toldPlace", "I", false)
  | 12 => ("FlashPagesModel", "lexAt", "I", false)
  | 13 => ("FlashPagesModel", "bank", "I", false)
  | 14 => ("FlashPagesModel", "told", "[I", true)
  | 15 => ("FlashPagesModel", "pages", "[I", true)
  | 16 => ("FlashPagesModel", "sumFrom", "[I", true)
  | 17 => ("FlashPagesModel", "sumBehind", "[I", true)
  | 18 => ("FlashPagesModel", "codeSort", "[I", true)
  | 19 => ("FlashPagesModel", "codeValue", "[I", true)
  | 20 => ("FlashPagesModel", "pageName", "[J", true)
  | 21 => ("FlashPagesModel", "codes", "I", false)
  | 22 => ("FlashPagesModel", "in", "I", false)
  | 23 => ("FlashPagesModel", "law", "I", false)
  | 24 => ("FlashPagesModel", "frame", "[I", true)
  | 25 => ("FlashPagesModel", "phase", "[I", true)
  | 26 => ("FlashPagesModel", "begins", "[Z", true)
  | 27 => ("FlashPagesModel", "pair", "[I", true)
  | 28 => ("FlashPagesModel", "base", "[I", true)
  | 29 => ("FlashPagesModel", "deep", "I", false)
  | 30 => ("FlashPagesModel", "open", "I", false)
  | 31 => ("FlashPagesModel", "ops", "[I", true)
  | 32 => ("FlashPagesModel", "opMany", "I", false)
  | 33 => ("FlashPagesModel", "operand", "Z", false)
  | 34 => ("FlashPagesModel", "isRoot", "[I", true)
  | 35 => ("FlashPagesModel", "isChip", "Z", false)
  | 36 => ("FlashPagesModel", "refused", "[I", true)
  | 37 => ("FlashPagesModel", "whole", "I", false)
  | 38 => ("FlashPagesModel", "checks", "I", false)
  | 39 => ("FlashPagesModel", "cells", "I", false)
  | 40 => ("FlashPagesModel", "bits", "I", false)
  | 41 => ("FlashPagesModel", "generated", "J", false)
  | 42 => ("FlashPagesModel", "power", "[I", true)
  | 43 => ("FlashPagesModel", "log", "[I", true)
  | 44 => ("FlashPagesModel", "coefficient", "[I", true)
  | 45 => ("FlashPagesModel", "syndromes", "[I", true)
  | 46 => ("FlashPagesModel", "located", "[I", true)
  | 47 => ("FlashPagesModel", "earlier", "[I", true)
  | 48 => ("FlashPagesModel", "taken", "[I", true)
  | 49 => ("FlashPagesModel", "length", "I", false)
  | 50 => ("FlashPagesModel", "cause", "I", false)
  | 51 => ("FlashPagesModel", "wrongAt", "[I", true)
  | 52 => ("FlashPagesModel", "wrongMany", "I", false)
  | 53 => ("FlashPagesModel", "mended", "J", false)
  | 54 => ("FlashPagesModel", "counted", "[I", true)
  | 55 => ("FlashPagesModel", "dayOf", "[I", true)
  | 56 => ("FlashPagesModel", "isWritten", "[I", true)
  | 57 => ("FlashPagesModel", "ageOf", "[I", true)
  | 58 => ("FlashPagesModel", "wordIn", "[J", true)
  | 59 => ("FlashPagesModel", "levelOf", "[I", true)
  | 60 => ("FlashPagesModel", "keptMany", "[I", true)
  | 61 => ("FlashPagesModel", "keptRow", "[I", true)
  | 62 => ("FlashPagesModel", "undoFirst", "I", false)
  | 63 => ("FlashPagesModel", "undos", "I", false)
  | 64 => ("FlashPagesModel", "seeds", "J", false)
  | 65 => ("FlashPagesModel", "stack", "[J", true)
  | 66 => ("FlashPagesModel", "asked", "[I", true)
  | 67 => ("FlashPagesModel", "readMany", "I", false)
  | 68 => ("FlashPagesModel", "lastAt", "I", false)
  | 69 => ("FlashPagesModel", "metMany", "I", false)
  | 70 => ("FlashPagesModel", "metAt", "[I", true)
  | 71 => ("FlashPagesModel", "metOnes", "[I", true)
  | 72 => ("FlashPagesModel", "isLeft", "[I", true)
  | 73 => ("FlashPagesModel", "many", "[I", true)
  | 74 => ("FlashPagesModel", "out", "[I", true)
  | _ => ("FlashPagesModel", "outs", "I", false)
def tyX12 : Nat → FieldType := fun k => match k with
  | 0 => .array .int
  | 1 => .int
  | 2 => .int
  | 3 => .int
  | 4 => .int
  | 5 => .int
  | 6 => .int
  | 7 => .long
  | 8 => .int
  | 9 => .int
  | 10 => .int
  | 11 => .int
  | 12 => .int
  | 13 => .int
  | 14 => .array .int
  | 15 => .array .int
  | 16 => .array .int
  | 17 => .array .int
  | 18 => .array .int
  | 19 => .array .int
  | 20 => .array .long
  | 21 => .int
  | 22 => .int
  | 23 => .int
  | 24 => .array .int
  | 25 => .array .int
  | 26 => .array .boolean
  | 27 => .array .int
  | 28 => .array .int
  | 29 => .int
  | 30 => .int
  | 31 => .array .int
  | 32 => .int
  | 33 => .boolean
  | 34 => .array .int
  | 35 => .boolean
  | 36 => .array .int
  | 37 => .int
  | 38 => .int
  | 39 => .int
  | 40 => .int
  | 41 => .long
  | 42 => .array .int
  | 43 => .array .int
  | 44 => .array .int
  | 45 => .array .int
  | 46 => .array .int
  | 47 => .array .int
  | 48 => .array .int
  | 49 => .int
  | 50 => .int
  | 51 => .array .int
  | 52 => .int
  | 53 => .long
  | 54 => .array .int
  | 55 => .array .int
  | 56 => .array .int
  | 57 => .array .int
  | 58 => .array .long
  | 59 => .array .int
  | 60 => .array .int
  | 61 => .array .int
  | 62 => .int
  | 63 => .int
  | 64 => .long
  | 65 => .array .long
  | 66 => .array .int
  | 67 => .int
  | 68 => .int
  | 69 => .int
  | 70 => .array .int
  | 71 => .array .int
  | 72 => .array .int
  | 73 => .array .int
  | 74 => .array .int
  | _ => .int
theorem nmX12 : ∀ a, a < 76 → ∀ b, b < 76 → a ≠ b → (TX12 a).2.1 ≠ (TX12 b).2.1 := by decide +kernel
theorem tyX12_ok : ∀ k, k < 76 → parseFieldDescriptor (TX12 k).2.2.1 = some (tyX12 k) := by decide +kernel
def RJ13 : String := "java/lang/Long"
def RJ9 : String := "java/lang/Math"
def RJ0 : String := "java/lang/String"
def RJ1 : String := "java/lang/StringLatin1"
def RJ2 : String := "java/lang/StringUTF16"
def RJ10 : String := "java/lang/System"
def RJ7 : String := "java/util/Arrays"
def RJ3 : String := "jdk/internal/util/Preconditions"
def RL : String := "FlashPagesLaw"
abbrev cX0_init : ByteArray := prog_2_method_1_code
def yX0_init : MethodName := ⟨RX0, "<init>", "()V"⟩
abbrev cX0_clear : ByteArray := prog_2_method_2_code
def yX0_clear : MethodName := ⟨RX0, "clear", "()V"⟩
abbrev cX0_hasDrifts : ByteArray := prog_2_method_3_code
def yX0_hasDrifts : MethodName := ⟨RX0, "hasDrifts", "()Z"⟩
abbrev cX0_hasTries : ByteArray := prog_2_method_4_code
def yX0_hasTries : MethodName := ⟨RX0, "hasTries", "()Z"⟩
abbrev cX0_hasName : ByteArray := prog_2_method_5_code
def yX0_hasName : MethodName := ⟨RX0, "hasName", "(I)Z"⟩
abbrev cX0_addStep : ByteArray := prog_2_method_6_code
def yX0_addStep : MethodName := ⟨RX0, "addStep", "(I)V"⟩
abbrev cX1_init : ByteArray := prog_3_method_1_code
def yX1_init : MethodName := ⟨RX1, "<init>", "()V"⟩
abbrev cX1_takesPoly : ByteArray := prog_3_method_2_code
def yX1_takesPoly : MethodName := ⟨RX1, "takesPoly", "(II)Z"⟩
abbrev cX1_takesMends : ByteArray := prog_3_method_3_code
def yX1_takesMends : MethodName := ⟨RX1, "takesMends", "(I)Z"⟩
abbrev cX1_takesShort : ByteArray := prog_3_method_4_code
def yX1_takesShort : MethodName := ⟨RX1, "takesShort", "(I)Z"⟩
abbrev cX1_multiplyDivisor : ByteArray := prog_3_method_5_code
def yX1_multiplyDivisor : MethodName := ⟨RX1, "multiplyDivisor", "(I)V"⟩
abbrev cX1_product : ByteArray := prog_3_method_6_code
def yX1_product : MethodName := ⟨RX1, "product", "(II)I"⟩
abbrev cX1_inverse : ByteArray := prog_3_method_7_code
def yX1_inverse : MethodName := ⟨RX1, "inverse", "(I)I"⟩
abbrev cX1_valueAt : ByteArray := prog_3_method_8_code
def yX1_valueAt : MethodName := ⟨RX1, "valueAt", "(JI)I"⟩
abbrev cX1_leastPolynomial : ByteArray := prog_3_method_9_code
def yX1_leastPolynomial : MethodName := ⟨RX1, "leastPolynomial", "(I)I"⟩
abbrev cX1_encode : ByteArray := prog_3_method_10_code
def yX1_encode : MethodName := ⟨RX1, "encode", "(J)J"⟩
abbrev cX1_isCodeWord : ByteArray := prog_3_method_11_code
def yX1_isCodeWord : MethodName := ⟨RX1, "isCodeWord", "(J)Z"⟩
abbrev cX1_wordsOfWeight : ByteArray := prog_3_method_12_code
def yX1_wordsOfWeight : MethodName := ⟨RX1, "wordsOfWeight", "(I)I"⟩
abbrev cX1_patternCount : ByteArray := prog_3_method_13_code
def yX1_patternCount : MethodName := ⟨RX1, "patternCount", "(I)I"⟩
abbrev cX1_missedCount : ByteArray := prog_3_method_14_code
def yX1_missedCount : MethodName := ⟨RX1, "missedCount", "(I)I"⟩
abbrev cX1_markMendable : ByteArray := prog_3_method_15_code
def yX1_markMendable : MethodName := ⟨RX1, "markMendable", "()V"⟩
abbrev cX1_countMendable : ByteArray := prog_3_method_16_code
def yX1_countMendable : MethodName := ⟨RX1, "countMendable", "(I)I"⟩
abbrev cX1_thirdOf : ByteArray := prog_3_method_17_code
def yX1_thirdOf : MethodName := ⟨RX1, "thirdOf", "(I)I"⟩
abbrev cX1_mark : ByteArray := prog_3_method_18_code
def yX1_mark : MethodName := ⟨RX1, "mark", "(II)V"⟩
abbrev cX1_marked : ByteArray := prog_3_method_19_code
def yX1_marked : MethodName := ⟨RX1, "marked", "(II)I"⟩
abbrev cX2_init : ByteArray := prog_4_method_1_code
def yX2_init : MethodName := ⟨RX2, "<init>", "()V"⟩
abbrev cX2_forget : ByteArray := prog_4_method_2_code
def yX2_forget : MethodName := ⟨RX2, "forget", "()V"⟩
abbrev cX2_decode : ByteArray := prog_4_method_3_code
def yX2_decode : MethodName := ⟨RX2, "decode", "(LFlashPages$Code;J)V"⟩
abbrev cX2_findFactors : ByteArray := prog_4_method_4_code
def yX2_findFactors : MethodName := ⟨RX2, "findFactors", "(LFlashPages$Code;)V"⟩
abbrev cX2_gapAt : ByteArray := prog_4_method_5_code
def yX2_gapAt : MethodName := ⟨RX2, "gapAt", "(LFlashPages$Code;I)I"⟩
abbrev cX2_correct : ByteArray := prog_4_method_6_code
def yX2_correct : MethodName := ⟨RX2, "correct", "(LFlashPages$Code;II)V"⟩
abbrev cX2_findRoots : ByteArray := prog_4_method_7_code
def yX2_findRoots : MethodName := ⟨RX2, "findRoots", "(LFlashPages$Code;)I"⟩
abbrev cX2_isRoot : ByteArray := prog_4_method_8_code
def yX2_isRoot : MethodName := ⟨RX2, "isRoot", "(LFlashPages$Code;I)Z"⟩
abbrev cX3_init : ByteArray := prog_5_method_1_code
def yX3_init : MethodName := ⟨RX3, "<init>", "(LFlashPages$Decoder;LFlashPages$Terms;)V"⟩
abbrev cX3_get : ByteArray := prog_5_method_2_code
def yX3_get : MethodName := ⟨RX3, "get", "(LFlashPages$Chip;LFlashPages$Row;)V"⟩
abbrev cX3_mend : ByteArray := prog_5_method_3_code
def yX3_mend : MethodName := ⟨RX3, "mend", "(LFlashPages$Chip;LFlashPages$Row;J)V"⟩
abbrev cX3_nextThreshold : ByteArray := prog_5_method_4_code
def yX3_nextThreshold : MethodName := ⟨RX3, "nextThreshold", "(LFlashPages$Chip;I)I"⟩
abbrev cX4_init : ByteArray := prog_6_method_1_code
def yX4_init : MethodName := ⟨RX4, "<init>", "()V"⟩
abbrev cX4_build : ByteArray := prog_6_method_2_code
def yX4_build : MethodName := ⟨RX4, "build", "(LFlashPages$Pages;LFlashPages$Chip;I)V"⟩
abbrev cX4_putRow : ByteArray := prog_6_method_3_code
def yX4_putRow : MethodName := ⟨RX4, "putRow", "(LFlashPages$Row;I)V"⟩
abbrev cX4_put : ByteArray := prog_6_method_4_code
def yX4_put : MethodName := ⟨RX4, "put", "(I)V"⟩
abbrev cX4_sumOf : ByteArray := prog_6_method_5_code
def yX4_sumOf : MethodName := ⟨RX4, "sumOf", "([II)I"⟩
abbrev cX5_init : ByteArray := prog_7_method_1_code
def yX5_init : MethodName := ⟨RX5, "<init>", "()V"⟩
abbrev cX5_clear : ByteArray := prog_7_method_2_code
def yX5_clear : MethodName := ⟨RX5, "clear", "()V"⟩
abbrev cX5_copy : ByteArray := prog_7_method_3_code
def yX5_copy : MethodName := ⟨RX5, "copy", "(LFlashPages$Pages;)V"⟩
abbrev cX5_writtenCount : ByteArray := prog_7_method_4_code
def yX5_writtenCount : MethodName := ⟨RX5, "writtenCount", "()I"⟩
abbrev cX5_takes : ByteArray := prog_7_method_5_code
def yX5_takes : MethodName := ⟨RX5, "takes", "([IILFlashPages$Chip;)Z"⟩
abbrev cX5_takesRow : ByteArray := prog_7_method_6_code
def yX5_takesRow : MethodName := ⟨RX5, "takesRow", "(LFlashPages$Row;[IILFlashPages$Chip;)Z"⟩
abbrev cX6_init : ByteArray := prog_8_method_1_code
def yX6_init : MethodName := ⟨RX6, "<init>", "([ILFlashPages$Chip;)V"⟩
abbrev cX6_listWords : ByteArray := prog_8_method_2_code
def yX6_listWords : MethodName := ⟨RX6, "listWords", "(Ljava/lang/String;I[I)I"⟩
abbrev cX6_reads : ByteArray := prog_8_method_3_code
def yX6_reads : MethodName := ⟨RX6, "reads", "(ILFlashPages$Chip;)Z"⟩
abbrev cX6_look : ByteArray := prog_8_method_4_code
def yX6_look : MethodName := ⟨RX6, "look", "()V"⟩
abbrev cX6_lookAtWord : ByteArray := prog_8_method_5_code
def yX6_lookAtWord : MethodName := ⟨RX6, "lookAtWord", "()V"⟩
abbrev cX6_lookAtNumber : ByteArray := prog_8_method_6_code
def yX6_lookAtNumber : MethodName := ⟨RX6, "lookAtNumber", "()V"⟩
abbrev cX6_isLetter : ByteArray := prog_8_method_7_code
def yX6_isLetter : MethodName := ⟨RX6, "isLetter", "(I)Z"⟩
abbrev cX6_isDigit : ByteArray := prog_8_method_8_code
def yX6_isDigit : MethodName := ⟨RX6, "isDigit", "(I)Z"⟩
abbrev cX6_packed : ByteArray := prog_8_method_9_code
def yX6_packed : MethodName := ⟨RX6, "packed", "(II)I"⟩
abbrev cX6_failBy : ByteArray := prog_8_method_10_code
def yX6_failBy : MethodName := ⟨RX6, "failBy", "(II)Z"⟩
abbrev cX6_failHere : ByteArray := prog_8_method_11_code
def yX6_failHere : MethodName := ⟨RX6, "failHere", "()Z"⟩
abbrev cX6_isOwn : ByteArray := prog_8_method_12_code
def yX6_isOwn : MethodName := ⟨RX6, "isOwn", "(I)Z"⟩
abbrev cX6_readOwn : ByteArray := prog_8_method_13_code
def yX6_readOwn : MethodName := ⟨RX6, "readOwn", "(I)Z"⟩
abbrev cX6_readSign : ByteArray := prog_8_method_14_code
def yX6_readSign : MethodName := ⟨RX6, "readSign", "(I)Z"⟩
abbrev cX6_readNumber : ByteArray := prog_8_method_15_code
def yX6_readNumber : MethodName := ⟨RX6, "readNumber", "(II)I"⟩
abbrev cX6_readField : ByteArray := prog_8_method_16_code
def yX6_readField : MethodName := ⟨RX6, "readField", "()Z"⟩
abbrev cX6_readStatement : ByteArray := prog_8_method_17_code
def yX6_readStatement : MethodName := ⟨RX6, "readStatement", "()Z"⟩
abbrev cX6_readSetting : ByteArray := prog_8_method_18_code
def yX6_readSetting : MethodName := ⟨RX6, "readSetting", "()Z"⟩
abbrev cX6_readPage : ByteArray := prog_8_method_19_code
def yX6_readPage : MethodName := ⟨RX6, "readPage", "()Z"⟩
abbrev cX6_readDrifts : ByteArray := prog_8_method_20_code
def yX6_readDrifts : MethodName := ⟨RX6, "readDrifts", "()Z"⟩
abbrev cX6_readTries : ByteArray := prog_8_method_21_code
def yX6_readTries : MethodName := ⟨RX6, "readTries", "()Z"⟩
abbrev cX6_readOpening : ByteArray := prog_8_method_22_code
def yX6_readOpening : MethodName := ⟨RX6, "readOpening", "(II)Z"⟩
abbrev cX6_readSum : ByteArray := prog_8_method_23_code
def yX6_readSum : MethodName := ⟨RX6, "readSum", "(I)Z"⟩
abbrev cX6_readProduct : ByteArray := prog_8_method_24_code
def yX6_readProduct : MethodName := ⟨RX6, "readProduct", "(I)Z"⟩
abbrev cX6_readPart : ByteArray := prog_8_method_25_code
def yX6_readPart : MethodName := ⟨RX6, "readPart", "(I)Z"⟩
abbrev cX6_isValue : ByteArray := prog_8_method_26_code
def yX6_isValue : MethodName := ⟨RX6, "isValue", "(I)Z"⟩
abbrev cX6_readPair : ByteArray := prog_8_method_27_code
def yX6_readPair : MethodName := ⟨RX6, "readPair", "(II)Z"⟩
abbrev cX6_readChoice : ByteArray := prog_8_method_28_code
def yX6_readChoice : MethodName := ⟨RX6, "readChoice", "(I)Z"⟩
abbrev cX6_readTest : ByteArray := prog_8_method_29_code
def yX6_readTest : MethodName := ⟨RX6, "readTest", "(I)Z"⟩
abbrev cX6_readBoth : ByteArray := prog_8_method_30_code
def yX6_readBoth : MethodName := ⟨RX6, "readBoth", "(I)Z"⟩
abbrev cX6_readFact : ByteArray := prog_8_method_31_code
def yX6_readFact : MethodName := ⟨RX6, "readFact", "(I)Z"⟩
abbrev cX6_readComparison : ByteArray := prog_8_method_32_code
def yX6_readComparison : MethodName := ⟨RX6, "readComparison", "(I)Z"⟩
abbrev cX7_init : ByteArray := prog_9_method_1_code
def yX7_init : MethodName := ⟨RX7, "<init>", "()V"⟩
abbrev cX7_clear : ByteArray := prog_9_method_2_code
def yX7_clear : MethodName := ⟨RX7, "clear", "()V"⟩
abbrev cX7_save : ByteArray := prog_9_method_3_code
def yX7_save : MethodName := ⟨RX7, "save", "(LFlashPages$Pages;)V"⟩
abbrev cX7_restore : ByteArray := prog_9_method_4_code
def yX7_restore : MethodName := ⟨RX7, "restore", "(LFlashPages$Pages;)V"⟩
abbrev cX7_told : ByteArray := prog_9_method_5_code
def yX7_told : MethodName := ⟨RX7, "told", "()I"⟩
abbrev cX7_add : ByteArray := prog_9_method_6_code
def yX7_add : MethodName := ⟨RX7, "add", "(III)V"⟩
abbrev cX7_entry : ByteArray := prog_9_method_7_code
def yX7_entry : MethodName := ⟨RX7, "entry", "(II)I"⟩
abbrev cX8_init : ByteArray := prog_10_method_1_code
def yX8_init : MethodName := ⟨RX8, "<init>", "(I)V"⟩
abbrev cX8_clear : ByteArray := prog_10_method_2_code
def yX8_clear : MethodName := ⟨RX8, "clear", "()V"⟩
abbrev cX8_copy : ByteArray := prog_10_method_3_code
def yX8_copy : MethodName := ⟨RX8, "copy", "(LFlashPages$Row;)V"⟩
abbrev cX8_fill : ByteArray := prog_10_method_4_code
def yX8_fill : MethodName := ⟨RX8, "fill", "(LFlashPages$Chip;J)V"⟩
abbrev cX8_turn : ByteArray := prog_10_method_5_code
def yX8_turn : MethodName := ⟨RX8, "turn", "(I)V"⟩
abbrev cX8_readBy : ByteArray := prog_10_method_6_code
def yX8_readBy : MethodName := ⟨RX8, "readBy", "(II)J"⟩
abbrev cX8_isTrueRead : ByteArray := prog_10_method_7_code
def yX8_isTrueRead : MethodName := ⟨RX8, "isTrueRead", "(JI)Z"⟩
abbrev cX9_init : ByteArray := prog_11_method_1_code
def yX9_init : MethodName := ⟨RX9, "<init>", "()V"⟩
abbrev cX9_clear : ByteArray := prog_11_method_2_code
def yX9_clear : MethodName := ⟨RX9, "clear", "()V"⟩
abbrev cX9_takes : ByteArray := prog_11_method_3_code
def yX9_takes : MethodName := ⟨RX9, "takes", "([II)Z"⟩
abbrev cX9_find : ByteArray := prog_11_method_4_code
def yX9_find : MethodName := ⟨RX9, "find", "(LFlashPages$Row;I)V"⟩
abbrev cX9_isLeft : ByteArray := prog_11_method_5_code
def yX9_isLeft : MethodName := ⟨RX9, "isLeft", "(I)Z"⟩
abbrev cX9_onesBy : ByteArray := prog_11_method_6_code
def yX9_onesBy : MethodName := ⟨RX9, "onesBy", "(II)I"⟩
abbrev cX9_findTelling : ByteArray := prog_11_method_7_code
def yX9_findTelling : MethodName := ⟨RX9, "findTelling", "()V"⟩
abbrev cX9_mostLeft : ByteArray := prog_11_method_8_code
def yX9_mostLeft : MethodName := ⟨RX9, "mostLeft", "(I)I"⟩
abbrev cX10_init : ByteArray := prog_12_method_1_code
def yX10_init : MethodName := ⟨RX10, "<init>", "()V"⟩
abbrev cX10_setDay : ByteArray := prog_12_method_2_code
def yX10_setDay : MethodName := ⟨RX10, "setDay", "(LFlashPages$Row;II)V"⟩
abbrev cX10_drifted : ByteArray := prog_12_method_3_code
def yX10_drifted : MethodName := ⟨RX10, "drifted", "(LFlashPages$Chip;JII)I"⟩
abbrev cX10_passDay : ByteArray := prog_12_method_4_code
def yX10_passDay : MethodName := ⟨RX10, "passDay", "(LFlashPages$Chip;LFlashPages$Row;I)V"⟩
abbrev cX10_triesAgain : ByteArray := prog_12_method_5_code
def yX10_triesAgain : MethodName := ⟨RX10, "triesAgain", "(LFlashPages$Chip;III)Z"⟩
abbrev cX10_run : ByteArray := prog_12_method_6_code
def yX10_run : MethodName := ⟨RX10, "run", "(LFlashPages$Chip;II)I"⟩
abbrev cX10_valueOf : ByteArray := prog_12_method_7_code
def yX10_valueOf : MethodName := ⟨RX10, "valueOf", "(I)I"⟩
abbrev cX10_push : ByteArray := prog_12_method_8_code
def yX10_push : MethodName := ⟨RX10, "push", "(I)V"⟩
abbrev cX10_pop : ByteArray := prog_12_method_9_code
def yX10_pop : MethodName := ⟨RX10, "pop", "()I"⟩
abbrev cX10_joined : ByteArray := prog_12_method_10_code
def yX10_joined : MethodName := ⟨RX10, "joined", "(III)I"⟩
abbrev cX10_bounded : ByteArray := prog_12_method_11_code
def yX10_bounded : MethodName := ⟨RX10, "bounded", "(J)I"⟩
abbrev cX11_init : ByteArray := prog_1_method_1_code
def yX11_init : MethodName := ⟨RX11, "<init>", "()V"⟩
abbrev cX11_feed : ByteArray := prog_1_method_2_code
def yX11_feed : MethodName := ⟨RX11, "feed", "(IIIII)I"⟩
abbrev cX11_end : ByteArray := prog_1_method_3_code
def yX11_end : MethodName := ⟨RX11, "end", "(I)Z"⟩
abbrev cX11_chip : ByteArray := prog_1_method_4_code
def yX11_chip : MethodName := ⟨RX11, "chip", "()I"⟩
abbrev cX11_fault : ByteArray := prog_1_method_5_code
def yX11_fault : MethodName := ⟨RX11, "fault", "(I)I"⟩
abbrev cX11_has : ByteArray := prog_1_method_6_code
def yX11_has : MethodName := ⟨RX11, "has", "(I)I"⟩
abbrev cX11_letter : ByteArray := prog_1_method_7_code
def yX11_letter : MethodName := ⟨RX11, "letter", "(II)I"⟩
abbrev cX11_field : ByteArray := prog_1_method_8_code
def yX11_field : MethodName := ⟨RX11, "field", "(II)I"⟩
abbrev cX11_generator : ByteArray := prog_1_method_9_code
def yX11_generator : MethodName := ⟨RX11, "generator", "(I)I"⟩
abbrev cX11_word : ByteArray := prog_1_method_10_code
def yX11_word : MethodName := ⟨RX11, "word", "(III)I"⟩
abbrev cX11_weight : ByteArray := prog_1_method_11_code
def yX11_weight : MethodName := ⟨RX11, "weight", "(I)I"⟩
abbrev cX11_patterns : ByteArray := prog_1_method_12_code
def yX11_patterns : MethodName := ⟨RX11, "patterns", "(II)I"⟩
abbrev cX11_page : ByteArray := prog_1_method_13_code
def yX11_page : MethodName := ⟨RX11, "page", "(II)I"⟩
abbrev cX11_level : ByteArray := prog_1_method_14_code
def yX11_level : MethodName := ⟨RX11, "level", "(III)I"⟩
abbrev cX11_ones : ByteArray := prog_1_method_15_code
def yX11_ones : MethodName := ⟨RX11, "ones", "(II)I"⟩
abbrev cX11_syndrome : ByteArray := prog_1_method_16_code
def yX11_syndrome : MethodName := ⟨RX11, "syndrome", "(III)I"⟩
abbrev cX11_locator : ByteArray := prog_1_method_17_code
def yX11_locator : MethodName := ⟨RX11, "locator", "(III)I"⟩
abbrev cX11_wrong : ByteArray := prog_1_method_18_code
def yX11_wrong : MethodName := ⟨RX11, "wrong", "(III)I"⟩
abbrev cX11_why : ByteArray := prog_1_method_19_code
def yX11_why : MethodName := ⟨RX11, "why", "(II)I"⟩
abbrev cX11_got : ByteArray := prog_1_method_20_code
def yX11_got : MethodName := ⟨RX11, "got", "(II)I"⟩
abbrev cX11_span : ByteArray := prog_1_method_21_code
def yX11_span : MethodName := ⟨RX11, "span", "(II)I"⟩
abbrev cX11_lost : ByteArray := prog_1_method_22_code
def yX11_lost : MethodName := ⟨RX11, "lost", "(I)I"⟩
abbrev cX11_odds : ByteArray := prog_1_method_23_code
def yX11_odds : MethodName := ⟨RX11, "odds", "(I)I"⟩
abbrev cX11_meet : ByteArray := prog_1_method_24_code
def yX11_meet : MethodName := ⟨RX11, "meet", "()I"⟩
abbrev cX11_shifts : ByteArray := prog_1_method_25_code
def yX11_shifts : MethodName := ⟨RX11, "shifts", "(II)I"⟩
abbrev cX11_tells : ByteArray := prog_1_method_26_code
def yX11_tells : MethodName := ⟨RX11, "tells", "(II)I"⟩
abbrev cX11_write : ByteArray := prog_1_method_27_code
def yX11_write : MethodName := ⟨RX11, "write", "(III)Z"⟩
abbrev cX11_erase : ByteArray := prog_1_method_28_code
def yX11_erase : MethodName := ⟨RX11, "erase", "(I)Z"⟩
abbrev cX11_flip : ByteArray := prog_1_method_29_code
def yX11_flip : MethodName := ⟨RX11, "flip", "(II)Z"⟩
abbrev cX11_refresh : ByteArray := prog_1_method_30_code
def yX11_refresh : MethodName := ⟨RX11, "refresh", "(I)I"⟩
abbrev cX11_days : ByteArray := prog_1_method_31_code
def yX11_days : MethodName := ⟨RX11, "days", "(I)I"⟩
abbrev cX11_chance : ByteArray := prog_1_method_32_code
def yX11_chance : MethodName := ⟨RX11, "chance", "(I)I"⟩
abbrev cX11_undo : ByteArray := prog_1_method_33_code
def yX11_undo : MethodName := ⟨RX11, "undo", "()Z"⟩
abbrev cX11_seed : ByteArray := prog_1_method_34_code
def yX11_seed : MethodName := ⟨RX11, "seed", "(I)Z"⟩
abbrev cX11_kept : ByteArray := prog_1_method_35_code
def yX11_kept : MethodName := ⟨RX11, "kept", "(II)I"⟩
abbrev cX11_image : ByteArray := prog_1_method_36_code
def yX11_image : MethodName := ⟨RX11, "image", "()I"⟩
abbrev cX11_octet : ByteArray := prog_1_method_37_code
def yX11_octet : MethodName := ⟨RX11, "octet", "(I)I"⟩
abbrev cX11_on : ByteArray := prog_1_method_38_code
def yX11_on : MethodName := ⟨RX11, "on", "()Z"⟩
abbrev cX11_status : ByteArray := prog_1_method_39_code
def yX11_status : MethodName := ⟨RX11, "status", "(I)I"⟩
abbrev cX11_refuse : ByteArray := prog_1_method_40_code
def yX11_refuse : MethodName := ⟨RX11, "refuse", "(I)I"⟩
abbrev cX11_putNumber : ByteArray := prog_1_method_41_code
def yX11_putNumber : MethodName := ⟨RX11, "putNumber", "(I)V"⟩
abbrev cX11_takeTape : ByteArray := prog_1_method_42_code
def yX11_takeTape : MethodName := ⟨RX11, "takeTape", "()I"⟩
abbrev cX11_isPage : ByteArray := prog_1_method_43_code
def yX11_isPage : MethodName := ⟨RX11, "isPage", "(I)Z"⟩
abbrev cX11_isWritten : ByteArray := prog_1_method_44_code
def yX11_isWritten : MethodName := ⟨RX11, "isWritten", "(I)Z"⟩
abbrev cX11_isCell : ByteArray := prog_1_method_45_code
def yX11_isCell : MethodName := ⟨RX11, "isCell", "(I)Z"⟩
abbrev cX11_isRead : ByteArray := prog_1_method_46_code
def yX11_isRead : MethodName := ⟨RX11, "isRead", "(II)Z"⟩
abbrev cX11_isData : ByteArray := prog_1_method_47_code
def yX11_isData : MethodName := ⟨RX11, "isData", "(II)Z"⟩
abbrev cX11_daysFit : ByteArray := prog_1_method_48_code
def yX11_daysFit : MethodName := ⟨RX11, "daysFit", "(I)Z"⟩
abbrev cX11_decode : ByteArray := prog_1_method_49_code
def yX11_decode : MethodName := ⟨RX11, "decode", "(II)V"⟩
abbrev cX11_passDay : ByteArray := prog_1_method_50_code
def yX11_passDay : MethodName := ⟨RX11, "passDay", "()V"⟩
abbrev cX11_addNoise : ByteArray := prog_1_method_51_code
def yX11_addNoise : MethodName := ⟨RX11, "addNoise", "()I"⟩
abbrev cX11_draw : ByteArray := prog_1_method_52_code
def yX11_draw : MethodName := ⟨RX11, "draw", "(I)I"⟩
abbrev cX11_dataOf : ByteArray := prog_1_method_53_code
def yX11_dataOf : MethodName := ⟨RX11, "dataOf", "(II)J"⟩
abbrev cX11_bitOf : ByteArray := prog_1_method_54_code
def yX11_bitOf : MethodName := ⟨RX11, "bitOf", "(JI)I"⟩
abbrev cX11_older : ByteArray := prog_1_method_55_code
def yX11_older : MethodName := ⟨RX11, "older", "(II)I"⟩
abbrev cX12_init : ByteArray := prog_14_method_1_code
def yX12_init : MethodName := ⟨RX12, "<init>", "()V"⟩
abbrev cX12_is : ByteArray := prog_14_method_2_code
def yX12_is : MethodName := ⟨RX12, "is", "(III)Z"⟩
abbrev cX12_put : ByteArray := prog_14_method_3_code
def yX12_put : MethodName := ⟨RX12, "put", "(I)V"⟩
abbrev cX12_feed : ByteArray := prog_14_method_4_code
def yX12_feed : MethodName := ⟨RX12, "feed", "(IIIII)I"⟩
abbrev cX12_end : ByteArray := prog_14_method_5_code
def yX12_end : MethodName := ⟨RX12, "end", "(I)Z"⟩
abbrev cX12_blame : ByteArray := prog_14_method_6_code
def yX12_blame : MethodName := ⟨RX12, "blame", "(II)V"⟩
abbrev cX12_isLetter : ByteArray := prog_14_method_7_code
def yX12_isLetter : MethodName := ⟨RX12, "isLetter", "(I)Z"⟩
abbrev cX12_isDigit : ByteArray := prog_14_method_8_code
def yX12_isDigit : MethodName := ⟨RX12, "isDigit", "(I)Z"⟩
abbrev cX12_lex : ByteArray := prog_14_method_9_code
def yX12_lex : MethodName := ⟨RX12, "lex", "()V"⟩
abbrev cX12_ahead : ByteArray := prog_14_method_10_code
def yX12_ahead : MethodName := ⟨RX12, "ahead", "()V"⟩
abbrev cX12_isSign : ByteArray := prog_14_method_11_code
def yX12_isSign : MethodName := ⟨RX12, "isSign", "(I)Z"⟩
abbrev cX12_isWord : ByteArray := prog_14_method_12_code
def yX12_isWord : MethodName := ⟨RX12, "isWord", "(J)Z"⟩
abbrev cX12_must : ByteArray := prog_14_method_13_code
def yX12_must : MethodName := ⟨RX12, "must", "(I)V"⟩
abbrev cX12_isOwn : ByteArray := prog_14_method_14_code
def yX12_isOwn : MethodName := ⟨RX12, "isOwn", "(J)Z"⟩
abbrev cX12_pageNamed : ByteArray := prog_14_method_15_code
def yX12_pageNamed : MethodName := ⟨RX12, "pageNamed", "(J)I"⟩
abbrev cX12_number : ByteArray := prog_14_method_16_code
def yX12_number : MethodName := ⟨RX12, "number", "(II)I"⟩
abbrev cX12_add : ByteArray := prog_14_method_17_code
def yX12_add : MethodName := ⟨RX12, "add", "(II)V"⟩
abbrev cX12_rank : ByteArray := prog_14_method_18_code
def yX12_rank : MethodName := ⟨RX12, "rank", "(I)I"⟩
abbrev cX12_joins : ByteArray := prog_14_method_19_code
def yX12_joins : MethodName := ⟨RX12, "joins", "(I)V"⟩
abbrev cX12_holdsBack : ByteArray := prog_14_method_20_code
def yX12_holdsBack : MethodName := ⟨RX12, "holdsBack", "(I)V"⟩
abbrev cX12_pushes : ByteArray := prog_14_method_21_code
def yX12_pushes : MethodName := ⟨RX12, "pushes", "(I)V"⟩
abbrev cX12_opens : ByteArray := prog_14_method_22_code
def yX12_opens : MethodName := ⟨RX12, "opens", "(I)V"⟩
abbrev cX12_isTest : ByteArray := prog_14_method_23_code
def yX12_isTest : MethodName := ⟨RX12, "isTest", "(I)Z"⟩
abbrev cX12_operand : ByteArray := prog_14_method_24_code
def yX12_operand : MethodName := ⟨RX12, "operand", "()Z"⟩
abbrev cX12_goesOn : ByteArray := prog_14_method_25_code
def yX12_goesOn : MethodName := ⟨RX12, "goesOn", "()Z"⟩
abbrev cX12_reads : ByteArray := prog_14_method_26_code
def yX12_reads : MethodName := ⟨RX12, "reads", "(Z)V"⟩
abbrev cX12_isCounted : ByteArray := prog_14_method_27_code
def yX12_isCounted : MethodName := ⟨RX12, "isCounted", "(Z)Z"⟩
abbrev cX12_mustWord : ByteArray := prog_14_method_28_code
def yX12_mustWord : MethodName := ⟨RX12, "mustWord", "(J)V"⟩
abbrev cX12_tellsAt : ByteArray := prog_14_method_29_code
def yX12_tellsAt : MethodName := ⟨RX12, "tellsAt", "(II)V"⟩
abbrev cX12_timesA : ByteArray := prog_14_method_30_code
def yX12_timesA : MethodName := ⟨RX12, "timesA", "(III)I"⟩
abbrev cX12_isPrimitive : ByteArray := prog_14_method_31_code
def yX12_isPrimitive : MethodName := ⟨RX12, "isPrimitive", "(II)Z"⟩
abbrev cX12_rootsFor : ByteArray := prog_14_method_32_code
def yX12_rootsFor : MethodName := ⟨RX12, "rootsFor", "(II)I"⟩
abbrev cX12_chipIs : ByteArray := prog_14_method_33_code
def yX12_chipIs : MethodName := ⟨RX12, "chipIs", "()V"⟩
abbrev cX12_pageIs : ByteArray := prog_14_method_34_code
def yX12_pageIs : MethodName := ⟨RX12, "pageIs", "()V"⟩
abbrev cX12_telling : ByteArray := prog_14_method_35_code
def yX12_telling : MethodName := ⟨RX12, "telling", "(III)V"⟩
abbrev cX12_reading : ByteArray := prog_14_method_36_code
def yX12_reading : MethodName := ⟨RX12, "reading", "(I)V"⟩
abbrev cX12_statement : ByteArray := prog_14_method_37_code
def yX12_statement : MethodName := ⟨RX12, "statement", "()V"⟩
abbrev cX12_finishes : ByteArray := prog_14_method_38_code
def yX12_finishes : MethodName := ⟨RX12, "finishes", "(I)V"⟩
abbrev cX12_chip : ByteArray := prog_14_method_39_code
def yX12_chip : MethodName := ⟨RX12, "chip", "()I"⟩
abbrev cX12_by : ByteArray := prog_14_method_40_code
def yX12_by : MethodName := ⟨RX12, "by", "(I)I"⟩
abbrev cX12_fault : ByteArray := prog_14_method_41_code
def yX12_fault : MethodName := ⟨RX12, "fault", "(I)I"⟩
abbrev cX12_refuses : ByteArray := prog_14_method_42_code
def yX12_refuses : MethodName := ⟨RX12, "refuses", "(I)I"⟩
abbrev cX12_status : ByteArray := prog_14_method_43_code
def yX12_status : MethodName := ⟨RX12, "status", "(I)I"⟩
abbrev cX12_times : ByteArray := prog_14_method_44_code
def yX12_times : MethodName := ⟨RX12, "times", "(II)I"⟩
abbrev cX12_inverse : ByteArray := prog_14_method_45_code
def yX12_inverse : MethodName := ⟨RX12, "inverse", "(I)I"⟩
abbrev cX12_multiplies : ByteArray := prog_14_method_46_code
def yX12_multiplies : MethodName := ⟨RX12, "multiplies", "(II)V"⟩
abbrev cX12_twoElements : ByteArray := prog_14_method_47_code
def yX12_twoElements : MethodName := ⟨RX12, "twoElements", "(I)J"⟩
abbrev cX12_lays : ByteArray := prog_14_method_48_code
def yX12_lays : MethodName := ⟨RX12, "lays", "()V"⟩
abbrev cX12_minimal : ByteArray := prog_14_method_49_code
def yX12_minimal : MethodName := ⟨RX12, "minimal", "(I)I"⟩
abbrev cX12_field : ByteArray := prog_14_method_50_code
def yX12_field : MethodName := ⟨RX12, "field", "(II)I"⟩
abbrev cX12_generator : ByteArray := prog_14_method_51_code
def yX12_generator : MethodName := ⟨RX12, "generator", "(I)I"⟩
abbrev cX12_left : ByteArray := prog_14_method_52_code
def yX12_left : MethodName := ⟨RX12, "left", "(J)J"⟩
abbrev cX12_wordOf : ByteArray := prog_14_method_53_code
def yX12_wordOf : MethodName := ⟨RX12, "wordOf", "(J)J"⟩
abbrev cX12_isData : ByteArray := prog_14_method_54_code
def yX12_isData : MethodName := ⟨RX12, "isData", "(II)Z"⟩
abbrev cX12_word : ByteArray := prog_14_method_55_code
def yX12_word : MethodName := ⟨RX12, "word", "(III)I"⟩
abbrev cX12_onesOf : ByteArray := prog_14_method_56_code
def yX12_onesOf : MethodName := ⟨RX12, "onesOf", "(J)I"⟩
abbrev cX12_weight : ByteArray := prog_14_method_57_code
def yX12_weight : MethodName := ⟨RX12, "weight", "(I)I"⟩
abbrev cX12_syndromesOf : ByteArray := prog_14_method_58_code
def yX12_syndromesOf : MethodName := ⟨RX12, "syndromesOf", "(J)V"⟩
abbrev cX12_missing : ByteArray := prog_14_method_59_code
def yX12_missing : MethodName := ⟨RX12, "missing", "(I)I"⟩
abbrev cX12_locates : ByteArray := prog_14_method_60_code
def yX12_locates : MethodName := ⟨RX12, "locates", "()V"⟩
abbrev cX12_isRootAt : ByteArray := prog_14_method_61_code
def yX12_isRootAt : MethodName := ⟨RX12, "isRootAt", "(I)Z"⟩
abbrev cX12_readsBits : ByteArray := prog_14_method_62_code
def yX12_readsBits : MethodName := ⟨RX12, "readsBits", "(J)I"⟩
abbrev cX12_counts : ByteArray := prog_14_method_63_code
def yX12_counts : MethodName := ⟨RX12, "counts", "(J)V"⟩
abbrev cX12_patterns : ByteArray := prog_14_method_64_code
def yX12_patterns : MethodName := ⟨RX12, "patterns", "(II)I"⟩
abbrev cX12_copies : ByteArray := prog_14_method_65_code
def yX12_copies : MethodName := ⟨RX12, "copies", "(II)V"⟩
abbrev cX12_begin : ByteArray := prog_14_method_66_code
def yX12_begin : MethodName := ⟨RX12, "begin", "()V"⟩
abbrev cX12_slot : ByteArray := prog_14_method_67_code
def yX12_slot : MethodName := ⟨RX12, "slot", "(I)I"⟩
abbrev cX12_keeps : ByteArray := prog_14_method_68_code
def yX12_keeps : MethodName := ⟨RX12, "keeps", "()V"⟩
abbrev cX12_undo : ByteArray := prog_14_method_69_code
def yX12_undo : MethodName := ⟨RX12, "undo", "()Z"⟩
abbrev cX12_within : ByteArray := prog_14_method_70_code
def yX12_within : MethodName := ⟨RX12, "within", "(J)J"⟩
abbrev cX12_floor : ByteArray := prog_14_method_71_code
def yX12_floor : MethodName := ⟨RX12, "floor", "(JJ)J"⟩
abbrev cX12_two : ByteArray := prog_14_method_72_code
def yX12_two : MethodName := ⟨RX12, "two", "(IJJ)J"⟩
abbrev cX12_reckons : ByteArray := prog_14_method_73_code
def yX12_reckons : MethodName := ⟨RX12, "reckons", "(I)J"⟩
abbrev cX12_isTold : ByteArray := prog_14_method_74_code
def yX12_isTold : MethodName := ⟨RX12, "isTold", "(I)Z"⟩
abbrev cX12_isPage : ByteArray := prog_14_method_75_code
def yX12_isPage : MethodName := ⟨RX12, "isPage", "(I)Z"⟩
abbrev cX12_isThere : ByteArray := prog_14_method_76_code
def yX12_isThere : MethodName := ⟨RX12, "isThere", "(I)Z"⟩
abbrev cX12_levelAt : ByteArray := prog_14_method_77_code
def yX12_levelAt : MethodName := ⟨RX12, "levelAt", "(III)I"⟩
abbrev cX12_puts : ByteArray := prog_14_method_78_code
def yX12_puts : MethodName := ⟨RX12, "puts", "(IIII)V"⟩
abbrev cX12_bitsBy : ByteArray := prog_14_method_79_code
def yX12_bitsBy : MethodName := ⟨RX12, "bitsBy", "(IIII)J"⟩
abbrev cX12_wantedOf : ByteArray := prog_14_method_80_code
def yX12_wantedOf : MethodName := ⟨RX12, "wantedOf", "(II)I"⟩
abbrev cX12_isTriedAgain : ByteArray := prog_14_method_81_code
def yX12_isTriedAgain : MethodName := ⟨RX12, "isTriedAgain", "(III)Z"⟩
abbrev cX12_gets : ByteArray := prog_14_method_82_code
def yX12_gets : MethodName := ⟨RX12, "gets", "(II)I"⟩
abbrev cX12_isTrue : ByteArray := prog_14_method_83_code
def yX12_isTrue : MethodName := ⟨RX12, "isTrue", "(II)Z"⟩
abbrev cX12_writesDown : ByteArray := prog_14_method_84_code
def yX12_writesDown : MethodName := ⟨RX12, "writesDown", "(II)V"⟩
abbrev cX12_writesWord : ByteArray := prog_14_method_85_code
def yX12_writesWord : MethodName := ⟨RX12, "writesWord", "(IJ)V"⟩
abbrev cX12_drifts : ByteArray := prog_14_method_86_code
def yX12_drifts : MethodName := ⟨RX12, "drifts", "(II)V"⟩
abbrev cX12_passes : ByteArray := prog_14_method_87_code
def yX12_passes : MethodName := ⟨RX12, "passes", "(I)V"⟩
abbrev cX12_trueOnes : ByteArray := prog_14_method_88_code
def yX12_trueOnes : MethodName := ⟨RX12, "trueOnes", "()I"⟩
abbrev cX12_has : ByteArray := prog_14_method_89_code
def yX12_has : MethodName := ⟨RX12, "has", "(I)I"⟩
abbrev cX12_letter : ByteArray := prog_14_method_90_code
def yX12_letter : MethodName := ⟨RX12, "letter", "(II)I"⟩
abbrev cX12_page : ByteArray := prog_14_method_91_code
def yX12_page : MethodName := ⟨RX12, "page", "(II)I"⟩
abbrev cX12_isAhead : ByteArray := prog_14_method_92_code
def yX12_isAhead : MethodName := ⟨RX12, "isAhead", "(III)Z"⟩
abbrev cX12_level : ByteArray := prog_14_method_93_code
def yX12_level : MethodName := ⟨RX12, "level", "(III)I"⟩
abbrev cX12_isRead : ByteArray := prog_14_method_94_code
def yX12_isRead : MethodName := ⟨RX12, "isRead", "(II)Z"⟩
abbrev cX12_ones : ByteArray := prog_14_method_95_code
def yX12_ones : MethodName := ⟨RX12, "ones", "(II)I"⟩
abbrev cX12_syndrome : ByteArray := prog_14_method_96_code
def yX12_syndrome : MethodName := ⟨RX12, "syndrome", "(III)I"⟩
abbrev cX12_locator : ByteArray := prog_14_method_97_code
def yX12_locator : MethodName := ⟨RX12, "locator", "(III)I"⟩
abbrev cX12_wrong : ByteArray := prog_14_method_98_code
def yX12_wrong : MethodName := ⟨RX12, "wrong", "(III)I"⟩
abbrev cX12_why : ByteArray := prog_14_method_99_code
def yX12_why : MethodName := ⟨RX12, "why", "(II)I"⟩
abbrev cX12_got : ByteArray := prog_14_method_100_code
def yX12_got : MethodName := ⟨RX12, "got", "(II)I"⟩
abbrev cX12_span : ByteArray := prog_14_method_101_code
def yX12_span : MethodName := ⟨RX12, "span", "(II)I"⟩
abbrev cX12_lost : ByteArray := prog_14_method_102_code
def yX12_lost : MethodName := ⟨RX12, "lost", "(I)I"⟩
abbrev cX12_odds : ByteArray := prog_14_method_103_code
def yX12_odds : MethodName := ⟨RX12, "odds", "(I)I"⟩
abbrev cX12_meet : ByteArray := prog_14_method_104_code
def yX12_meet : MethodName := ⟨RX12, "meet", "()I"⟩
abbrev cX12_leaves : ByteArray := prog_14_method_105_code
def yX12_leaves : MethodName := ⟨RX12, "leaves", "(I)I"⟩
abbrev cX12_shifts : ByteArray := prog_14_method_106_code
def yX12_shifts : MethodName := ⟨RX12, "shifts", "(II)I"⟩
abbrev cX12_mostBy : ByteArray := prog_14_method_107_code
def yX12_mostBy : MethodName := ⟨RX12, "mostBy", "(II)I"⟩
abbrev cX12_tells : ByteArray := prog_14_method_108_code
def yX12_tells : MethodName := ⟨RX12, "tells", "(II)I"⟩
abbrev cX12_write : ByteArray := prog_14_method_109_code
def yX12_write : MethodName := ⟨RX12, "write", "(III)Z"⟩
abbrev cX12_erase : ByteArray := prog_14_method_110_code
def yX12_erase : MethodName := ⟨RX12, "erase", "(I)Z"⟩
abbrev cX12_flip : ByteArray := prog_14_method_111_code
def yX12_flip : MethodName := ⟨RX12, "flip", "(II)Z"⟩
abbrev cX12_refresh : ByteArray := prog_14_method_112_code
def yX12_refresh : MethodName := ⟨RX12, "refresh", "(I)I"⟩
abbrev cX12_days : ByteArray := prog_14_method_113_code
def yX12_days : MethodName := ⟨RX12, "days", "(I)I"⟩
abbrev cX12_draw : ByteArray := prog_14_method_114_code
def yX12_draw : MethodName := ⟨RX12, "draw", "(I)I"⟩
abbrev cX12_chance : ByteArray := prog_14_method_115_code
def yX12_chance : MethodName := ⟨RX12, "chance", "(I)I"⟩
abbrev cX12_seed : ByteArray := prog_14_method_116_code
def yX12_seed : MethodName := ⟨RX12, "seed", "(I)Z"⟩
abbrev cX12_kept : ByteArray := prog_14_method_117_code
def yX12_kept : MethodName := ⟨RX12, "kept", "(II)I"⟩
abbrev cX12_writes : ByteArray := prog_14_method_118_code
def yX12_writes : MethodName := ⟨RX12, "writes", "(I)V"⟩
abbrev cX12_image : ByteArray := prog_14_method_119_code
def yX12_image : MethodName := ⟨RX12, "image", "()I"⟩
abbrev cX12_octet : ByteArray := prog_14_method_120_code
def yX12_octet : MethodName := ⟨RX12, "octet", "(I)I"⟩
abbrev cX12_pageOn : ByteArray := prog_14_method_121_code
def yX12_pageOn : MethodName := ⟨RX12, "pageOn", "(III)I"⟩
abbrev cX12_comesOn : ByteArray := prog_14_method_122_code
def yX12_comesOn : MethodName := ⟨RX12, "comesOn", "(I)Z"⟩
abbrev cX12_on : ByteArray := prog_14_method_123_code
def yX12_on : MethodName := ⟨RX12, "on", "()Z"⟩
abbrev cJ13_bitCount_95d88 : ByteArray := prog_15_method_50_code
def yJ13_bitCount_95d88 : MethodName := ⟨RJ13, "bitCount", "(J)I"⟩
abbrev cJ9_floorDiv_f86c9 : ByteArray := prog_16_method_49_code
def yJ9_floorDiv_f86c9 : MethodName := ⟨RJ9, "floorDiv", "(JJ)J"⟩
abbrev cJ9_floorMod_f86c9 : ByteArray := prog_16_method_52_code
def yJ9_floorMod_f86c9 : MethodName := ⟨RJ9, "floorMod", "(JJ)J"⟩
abbrev cJ9_abs_0f7a4 : ByteArray := prog_16_method_59_code
def yJ9_abs_0f7a4 : MethodName := ⟨RJ9, "abs", "(I)I"⟩
abbrev cJ9_max_7cf53 : ByteArray := prog_16_method_65_code
def yJ9_max_7cf53 : MethodName := ⟨RJ9, "max", "(II)I"⟩
abbrev cJ9_max_f86c9 : ByteArray := prog_16_method_66_code
def yJ9_max_f86c9 : MethodName := ⟨RJ9, "max", "(JJ)J"⟩
abbrev cJ9_min_7cf53 : ByteArray := prog_16_method_69_code
def yJ9_min_7cf53 : MethodName := ⟨RJ9, "min", "(II)I"⟩
abbrev cJ9_min_f86c9 : ByteArray := prog_16_method_70_code
def yJ9_min_f86c9 : MethodName := ⟨RJ9, "min", "(JJ)J"⟩
abbrev cJ0_length_8abf5 : ByteArray := prog_17_method_54_code
def yJ0_length_8abf5 : MethodName := ⟨RJ0, "length", "()I"⟩
abbrev cJ0_charAt_5068e : ByteArray := prog_17_method_56_code
def yJ0_charAt_5068e : MethodName := ⟨RJ0, "charAt", "(I)C"⟩
abbrev cJ0_coder_7d493 : ByteArray := prog_17_method_152_code
def yJ0_coder_7d493 : MethodName := ⟨RJ0, "coder", "()B"⟩
abbrev cJ0_isLatin1_aae02 : ByteArray := prog_17_method_154_code
def yJ0_isLatin1_aae02 : MethodName := ⟨RJ0, "isLatin1", "()Z"⟩
abbrev cJ0_checkIndex_df160 : ByteArray := prog_17_method_155_code
def yJ0_checkIndex_df160 : MethodName := ⟨RJ0, "checkIndex", "(II)V"⟩
abbrev cJ1_charAt_3b067 : ByteArray := prog_18_method_2_code
def yJ1_charAt_3b067 : MethodName := ⟨RJ1, "charAt", "([BI)C"⟩
abbrev cJ2_getChar_3b067 : ByteArray := prog_19_method_5_code
def yJ2_getChar_3b067 : MethodName := ⟨RJ2, "getChar", "([BI)C"⟩
abbrev cJ2_length_9d52b : ByteArray := prog_19_method_6_code
def yJ2_length_9d52b : MethodName := ⟨RJ2, "length", "([B)I"⟩
abbrev cJ2_charAt_3b067 : ByteArray := prog_19_method_83_code
def yJ2_charAt_3b067 : MethodName := ⟨RJ2, "charAt", "([BI)C"⟩
abbrev cJ2_checkIndex_2214a : ByteArray := prog_19_method_91_code
def yJ2_checkIndex_2214a : MethodName := ⟨RJ2, "checkIndex", "(I[B)V"⟩
abbrev cJ7_fill_d0a16 : ByteArray := prog_21_method_101_code
def yJ7_fill_d0a16 : MethodName := ⟨RJ7, "fill", "([JJ)V"⟩
abbrev cJ7_fill_53178 : ByteArray := prog_21_method_103_code
def yJ7_fill_53178 : MethodName := ⟨RJ7, "fill", "([II)V"⟩
abbrev cJ3_checkIndex_8e157 : ByteArray := prog_22_method_11_code
def yJ3_checkIndex_8e157 : MethodName := ⟨RJ3, "checkIndex", "(IILjava/util/function/BiFunction;)I"⟩
abbrev cL_law : ByteArray := code
def yL_law : MethodName := ⟨RL, "law", "([I)Z"⟩
def zNm : Nat → String
  | 0 => RX0
  | 1 => RX1
  | 2 => RX2
  | 3 => RX3
  | 4 => RX4
  | 5 => RX5
  | 6 => RX6
  | 7 => RX7
  | 8 => RX8
  | 9 => RX9
  | 10 => RX10
  | 11 => RX11
  | 12 => RX12
  | _ => ""
def zT : Nat → u_T
  | 0 => TX0
  | 1 => TX1
  | 2 => TX2
  | 3 => TX3
  | 4 => TX4
  | 5 => TX5
  | 6 => TX6
  | 7 => TX7
  | 8 => TX8
  | 9 => TX9
  | 10 => TX10
  | 11 => TX11
  | 12 => TX12
  | _ => TX0
def zN : Nat → Nat
  | 0 => 15
  | 1 => 13
  | 2 => 10
  | 3 => 8
  | 4 => 2
  | 5 => 2
  | 6 => 13
  | 7 => 6
  | 8 => 5
  | 9 => 9
  | 10 => 3
  | 11 => 17
  | 12 => 76
  | _ => 0
def zTy : Nat → Nat → FieldType
  | 0 => tyX0
  | 1 => tyX1
  | 2 => tyX2
  | 3 => tyX3
  | 4 => tyX4
  | 5 => tyX5
  | 6 => tyX6
  | 7 => tyX7
  | 8 => tyX8
  | 9 => tyX9
  | 10 => tyX10
  | 11 => tyX11
  | 12 => tyX12
  | _ => tyX0
def zK : Nat → Nat → Nat
  | 0 => fun k => match k with | 0 => 1 | 1 => 20 | 2 => 20 | _ => 99
  | 1 => fun k => match k with | 0 => 20 | 1 => 20 | 2 => 20 | 3 => 21 | 4 => 20 | _ => 99
  | 2 => fun k => match k with | 0 => 20 | 1 => 20 | 2 => 20 | 3 => 20 | 4 => 20 | _ => 99
  | 3 => fun k => match k with | 0 => 2 | 1 => 10 | _ => 99
  | 4 => fun k => match k with | 0 => 20 | _ => 99
  | 5 => fun k => match k with | 0 => 23 | _ => 99
  | 6 => fun k => match k with | 0 => 20 | 1 => 20 | 2 => 0 | _ => 99
  | 7 => fun k => match k with | 0 => 24 | 1 => 20 | 2 => 20 | _ => 99
  | 8 => fun k => match k with | 0 => 20 | _ => 99
  | 9 => fun k => match k with | 0 => 20 | 1 => 20 | 2 => 20 | 3 => 20 | 4 => 20 | _ => 99
  | 10 => fun k => match k with | 0 => 20 | 1 => 20 | _ => 99
  | 11 => fun k => match k with | 0 => 20 | 1 => 20 | 2 => 10 | 3 => 2 | 4 => 3 | 5 => 5 | 6 => 5 | 7 => 8 | 8 => 7 | 9 => 9 | 10 => 4 | 11 => 0 | 12 => 0 | 13 => 6 | _ => 99
  | 12 => fun k => match k with | 0 => 20 | 14 => 20 | 15 => 20 | 16 => 20 | 17 => 20 | 18 => 20 | 19 => 20 | 20 => 21 | 24 => 20 | 25 => 20 | 26 => 22 | 27 => 20 | 28 => 20 | 31 => 20 | 34 => 20 | 36 => 20 | 42 => 20 | 43 => 20 | 44 => 20 | 45 => 20 | 46 => 20 | 47 => 20 | 48 => 20 | 51 => 20 | 54 => 20 | 55 => 20 | 56 => 20 | 57 => 20 | 58 => 21 | 59 => 20 | 60 => 20 | 61 => 20 | 65 => 21 | 66 => 20 | 70 => 20 | 71 => 20 | 72 => 20 | 73 => 20 | 74 => 20 | _ => 99
  | _ => fun _ => 99
abbrev zCl : List vw_C := [(RX0, TX0, 15), (RX1, TX1, 13), (RX2, TX2, 10), (RX3, TX3, 8), (RX4, TX4, 2), (RX5, TX5, 2), (RX6, TX6, 13), (RX7, TX7, 6), (RX8, TX8, 5), (RX9, TX9, 9), (RX10, TX10, 3), (RX11, TX11, 17), (RX12, TX12, 76)]
theorem zIn_of {big : List Cond} (ws : List Cond) (ps : List Nat) (hp : ws = ps.filterMap (fun i => big[i]?)) : ∀ w ∈ ws, w ∈ big := by
  intro w hw
  rw [hp] at hw
  obtain ⟨i, -, hi⟩ := List.mem_filterMap.mp hw
  exact List.mem_of_getElem? hi
def zTb : List Cond := lw_tbl.filter goodWord
theorem zTab {w : Cond} (i : Nat) (h : tables_1[i]? = some w) (hg : goodWord w = true) : w ∈ zTb := List.mem_filter.mpr ⟨List.mem_append_right _ (List.mem_of_getElem? h), hg⟩
theorem zSel {w : Cond} (i : Nat) (h : (k2_sels lw_privs)[i]? = some w) (hg : goodWord w = true) : w ∈ zTb := List.mem_filter.mpr ⟨List.mem_append_left _ (List.mem_of_getElem? h), hg⟩
theorem zGoodTb (big : List Cond) (h : ∀ w ∈ zTb, w ∈ big) : GoodIn big zTb := fun w hw => ⟨h w hw, good_of_word (List.mem_filter.mp hw).2⟩
theorem zW1 {w : Cond} (i : Nat) (h : tables_1_1[i]? = some w) (hg : goodWord w = true) : w ∈ zTb := List.mem_filter.mpr ⟨List.mem_append_right _ (show w ∈ tables_1 from List.mem_append_left _ (List.mem_of_getElem? h)), hg⟩
theorem zW2 {w : Cond} (i : Nat) (h : tables_1_2[i]? = some w) (hg : goodWord w = true) : w ∈ zTb := List.mem_filter.mpr ⟨List.mem_append_right _ (show w ∈ tables_1 from List.mem_append_right _ (List.mem_append_left _ (List.mem_of_getElem? h))), hg⟩
theorem zW3 {w : Cond} (i : Nat) (h : tables_1_3[i]? = some w) (hg : goodWord w = true) : w ∈ zTb := List.mem_filter.mpr ⟨List.mem_append_right _ (show w ∈ tables_1 from List.mem_append_right _ (List.mem_append_right _ (List.mem_append_left _ (List.mem_of_getElem? h)))), hg⟩
theorem zW4 {w : Cond} (i : Nat) (h : tables_1_4[i]? = some w) (hg : goodWord w = true) : w ∈ zTb := List.mem_filter.mpr ⟨List.mem_append_right _ (show w ∈ tables_1 from List.mem_append_right _ (List.mem_append_right _ (List.mem_append_right _ (List.mem_append_left _ (List.mem_of_getElem? h))))), hg⟩
theorem zW5 {w : Cond} (i : Nat) (h : tables_1_5[i]? = some w) (hg : goodWord w = true) : w ∈ zTb := List.mem_filter.mpr ⟨List.mem_append_right _ (show w ∈ tables_1 from List.mem_append_right _ (List.mem_append_right _ (List.mem_append_right _ (List.mem_append_right _ (List.mem_append_left _ (List.mem_of_getElem? h)))))), hg⟩
theorem zW6 {w : Cond} (i : Nat) (h : tables_1_6[i]? = some w) (hg : goodWord w = true) : w ∈ zTb := List.mem_filter.mpr ⟨List.mem_append_right _ (show w ∈ tables_1 from List.mem_append_right _ (List.mem_append_right _ (List.mem_append_right _ (List.mem_append_right _ (List.mem_append_right _ (List.mem_append_left _ (List.mem_of_getElem? h))))))), hg⟩
theorem zW7 {w : Cond} (i : Nat) (h : tables_1_7[i]? = some w) (hg : goodWord w = true) : w ∈ zTb := List.mem_filter.mpr ⟨List.mem_append_right _ (show w ∈ tables_1 from List.mem_append_right _ (List.mem_append_right _ (List.mem_append_right _ (List.mem_append_right _ (List.mem_append_right _ (List.mem_append_right _ (List.mem_append_left _ (List.mem_of_getElem? h)))))))), hg⟩
theorem zW8 {w : Cond} (i : Nat) (h : tables_1_8[i]? = some w) (hg : goodWord w = true) : w ∈ zTb := List.mem_filter.mpr ⟨List.mem_append_right _ (show w ∈ tables_1 from List.mem_append_right _ (List.mem_append_right _ (List.mem_append_right _ (List.mem_append_right _ (List.mem_append_right _ (List.mem_append_right _ (List.mem_append_right _ (List.mem_append_left _ (List.mem_of_getElem? h))))))))), hg⟩
theorem zW9 {w : Cond} (i : Nat) (h : tables_1_9[i]? = some w) (hg : goodWord w = true) : w ∈ zTb := List.mem_filter.mpr ⟨List.mem_append_right _ (show w ∈ tables_1 from List.mem_append_right _ (List.mem_append_right _ (List.mem_append_right _ (List.mem_append_right _ (List.mem_append_right _ (List.mem_append_right _ (List.mem_append_right _ (List.mem_append_right _ (List.mem_of_getElem? h))))))))), hg⟩
theorem zinX0 : ∀ w ∈ u_ws RX0 TX0 15, w ∈ zTb := fun w h => List.mem_filter.mpr ⟨List.mem_append_right _ (zIn_of (u_ws RX0 TX0 15) [391, 393, 395, 397, 399, 401, 403, 405, 407, 409, 411, 413, 415, 417, 419] (by decide +kernel) w h), List.all_eq_true.mp (show (u_ws RX0 TX0 15).all goodWord = true by decide +kernel) w h⟩
theorem zinX1 : ∀ w ∈ u_ws RX1 TX1 13, w ∈ zTb := fun w h => List.mem_filter.mpr ⟨List.mem_append_right _ (zIn_of (u_ws RX1 TX1 13) [314, 316, 318, 320, 322, 324, 326, 328, 330, 332, 334, 336, 338] (by decide +kernel) w h), List.all_eq_true.mp (show (u_ws RX1 TX1 13).all goodWord = true by decide +kernel) w h⟩
theorem zinX2 : ∀ w ∈ u_ws RX2 TX2 10, w ∈ zTb := fun w h => List.mem_filter.mpr ⟨List.mem_append_right _ (zIn_of (u_ws RX2 TX2 10) [71, 73, 75, 77, 79, 81, 83, 85, 87, 89] (by decide +kernel) w h), List.all_eq_true.mp (show (u_ws RX2 TX2 10).all goodWord = true by decide +kernel) w h⟩
theorem zinX3 : ∀ w ∈ u_ws RX3 TX3 8, w ∈ zTb := fun w h => List.mem_filter.mpr ⟨List.mem_append_right _ (zIn_of (u_ws RX3 TX3 8) [112, 114, 116, 118, 120, 122, 124, 126] (by decide +kernel) w h), List.all_eq_true.mp (show (u_ws RX3 TX3 8).all goodWord = true by decide +kernel) w h⟩
theorem zinX4 : ∀ w ∈ u_ws RX4 TX4 2, w ∈ zTb := fun w h => List.mem_filter.mpr ⟨List.mem_append_right _ (zIn_of (u_ws RX4 TX4 2) [266, 268] (by decide +kernel) w h), List.all_eq_true.mp (show (u_ws RX4 TX4 2).all goodWord = true by decide +kernel) w h⟩
theorem zinX5 : ∀ w ∈ u_ws RX5 TX5 2, w ∈ zTb := fun w h => List.mem_filter.mpr ⟨List.mem_append_right _ (zIn_of (u_ws RX5 TX5 2) [181, 183] (by decide +kernel) w h), List.all_eq_true.mp (show (u_ws RX5 TX5 2).all goodWord = true by decide +kernel) w h⟩
theorem zinX6 : ∀ w ∈ u_ws RX6 TX6 13, w ∈ zTb := fun w h => List.mem_filter.mpr ⟨List.mem_append_right _ (zIn_of (u_ws RX6 TX6 13) [499, 501, 503, 505, 507, 509, 511, 513, 515, 517, 519, 521, 523] (by decide +kernel) w h), List.all_eq_true.mp (show (u_ws RX6 TX6 13).all goodWord = true by decide +kernel) w h⟩
theorem zinX7 : ∀ w ∈ u_ws RX7 TX7 6, w ∈ zTb := fun w h => List.mem_filter.mpr ⟨List.mem_append_right _ (zIn_of (u_ws RX7 TX7 6) [204, 206, 208, 210, 212, 214] (by decide +kernel) w h), List.all_eq_true.mp (show (u_ws RX7 TX7 6).all goodWord = true by decide +kernel) w h⟩
theorem zinX8 : ∀ w ∈ u_ws RX8 TX8 5, w ∈ zTb := fun w h => List.mem_filter.mpr ⟨List.mem_append_right _ (zIn_of (u_ws RX8 TX8 5) [164, 166, 168, 170, 172] (by decide +kernel) w h), List.all_eq_true.mp (show (u_ws RX8 TX8 5).all goodWord = true by decide +kernel) w h⟩
theorem zinX9 : ∀ w ∈ u_ws RX9 TX9 9, w ∈ zTb := fun w h => List.mem_filter.mpr ⟨List.mem_append_right _ (zIn_of (u_ws RX9 TX9 9) [237, 239, 241, 243, 245, 247, 249, 251, 253] (by decide +kernel) w h), List.all_eq_true.mp (show (u_ws RX9 TX9 9).all goodWord = true by decide +kernel) w h⟩
theorem zinX10 : ∀ w ∈ u_ws RX10 TX10 3, w ∈ zTb := fun w h => List.mem_filter.mpr ⟨List.mem_append_right _ (zIn_of (u_ws RX10 TX10 3) [39, 41, 43] (by decide +kernel) w h), List.all_eq_true.mp (show (u_ws RX10 TX10 3).all goodWord = true by decide +kernel) w h⟩
theorem zinX11 : ∀ w ∈ u_ws RX11 TX11 17, w ∈ zTb := fun w h => List.mem_filter.mpr ⟨List.mem_append_right _ (zIn_of (u_ws RX11 TX11 17) [544, 546, 548, 550, 552, 554, 556, 558, 560, 562, 564, 566, 568, 570, 572, 574, 576] (by decide +kernel) w h), List.all_eq_true.mp (show (u_ws RX11 TX11 17).all goodWord = true by decide +kernel) w h⟩
theorem zinX12 : ∀ w ∈ u_ws RX12 TX12 76, w ∈ zTb := fun w h => List.mem_filter.mpr ⟨List.mem_append_right _ (zIn_of (u_ws RX12 TX12 76) [1344, 1346, 1348, 1350, 1352, 1354, 1356, 1358, 1360, 1362, 1364, 1366, 1368, 1370, 1372, 1374, 1376, 1378, 1380, 1382, 1384, 1386, 1388, 1390, 1392, 1394, 1396, 1398, 1400, 1402, 1404, 1406, 1408, 1410, 1412, 1414, 1416, 1418, 1420, 1422, 1424, 1426, 1428, 1430, 1432, 1434, 1436, 1438, 1440, 1442, 1444, 1446, 1448, 1450, 1452, 1454, 1456, 1458, 1460, 1462, 1464, 1466, 1468, 1470, 1472, 1474, 1476, 1478, 1480, 1482, 1484, 1486, 1488, 1490, 1492, 1494] (by decide +kernel) w h), List.all_eq_true.mp (show (u_ws RX12 TX12 76).all goodWord = true by decide +kernel) w h⟩
theorem zCl_at : ∀ c, c < 13 → zCl[c]? = some (zNm c, zT c, zN c)
  | 0, _ => rfl
  | 1, _ => rfl
  | 2, _ => rfl
  | 3, _ => rfl
  | 4, _ => rfl
  | 5, _ => rfl
  | 6, _ => rfl
  | 7, _ => rfl
  | 8, _ => rfl
  | 9, _ => rfl
  | 10, _ => rfl
  | 11, _ => rfl
  | 12, _ => rfl
  | n + 13, h => absurd h (by omega)
theorem zIn : ∀ c, c < 13 → ∀ w ∈ u_ws (zNm c) (zT c) (zN c), w ∈ zTb
  | 0, _ => zinX0
  | 1, _ => zinX1
  | 2, _ => zinX2
  | 3, _ => zinX3
  | 4, _ => zinX4
  | 5, _ => zinX5
  | 6, _ => zinX6
  | 7, _ => zinX7
  | 8, _ => zinX8
  | 9, _ => zinX9
  | 10, _ => zinX10
  | 11, _ => zinX11
  | 12, _ => zinX12
  | n + 13, h => absurd h (by omega)
theorem zTyOk : ∀ c, c < 13 → ∀ k, k < zN c → parseFieldDescriptor (zT c k).2.2.1 = some (zTy c k)
  | 0, _ => tyX0_ok
  | 1, _ => tyX1_ok
  | 2, _ => tyX2_ok
  | 3, _ => tyX3_ok
  | 4, _ => tyX4_ok
  | 5, _ => tyX5_ok
  | 6, _ => tyX6_ok
  | 7, _ => tyX7_ok
  | 8, _ => tyX8_ok
  | 9, _ => tyX9_ok
  | 10, _ => tyX10_ok
  | 11, _ => tyX11_ok
  | 12, _ => tyX12_ok
  | n + 13, h => absurd h (by omega)
theorem zNmOk : ∀ c, c < 13 → ∀ a, a < zN c → ∀ b, b < zN c → a ≠ b → (zT c a).2.1 ≠ (zT c b).2.1
  | 0, _ => nmX0
  | 1, _ => nmX1
  | 2, _ => nmX2
  | 3, _ => nmX3
  | 4, _ => nmX4
  | 5, _ => nmX5
  | 6, _ => nmX6
  | 7, _ => nmX7
  | 8, _ => nmX8
  | 9, _ => nmX9
  | 10, _ => nmX10
  | 11, _ => nmX11
  | 12, _ => nmX12
  | n + 13, h => absurd h (by omega)
def zNs : List Cond := [Cond.methodLinkNest "FlashPages" 18 ⟨"FlashPages$Terms", "<init>", "()V"⟩ "FlashPages", Cond.methodLinkNest "FlashPages" 25 ⟨"FlashPages$Decoder", "<init>", "()V"⟩ "FlashPages", Cond.methodLinkNest "FlashPages" 67 ⟨"FlashPages$Shifts", "<init>", "()V"⟩ "FlashPages", Cond.methodLinkNest "FlashPages" 74 ⟨"FlashPages$Image", "<init>", "()V"⟩ "FlashPages", Cond.methodLinkNest "FlashPages" 81 ⟨"FlashPages$Chip", "<init>", "()V"⟩ "FlashPages", Cond.methodLinkNest "FlashPages$Chip" 11 ⟨"FlashPages$Code", "<init>", "()V"⟩ "FlashPages", Cond.methodLinkNest "FlashPages$Terms" 30 ⟨"FlashPages", "bitOf", "(JI)I"⟩ "FlashPages", Cond.methodLinkNest "FlashPages$Terms" 80 ⟨"FlashPages", "older", "(II)I"⟩ "FlashPages", Cond.methodLinkNest "FlashPages$Row" 47 ⟨"FlashPages", "bitOf", "(JI)I"⟩ "FlashPages"]
theorem zNs_in : ∀ w ∈ zNs, w ∈ lw_tbl := fun w h => List.mem_append_right _ (zIn_of zNs [32, 49, 219, 258, 273, 279, 924, 1087, 1153] (by decide +kernel) w h)
end
section
/-! the layout: cells in the order in which they are made -/
def zSHa : List (Nat × Nat) := [(11, 17), (20, 1600), (20, 6), (10, 3), (20, 27), (20, 96), (2, 10), (20, 11), (20, 12), (20, 12), (20, 12), (20, 5), (3, 8), (5, 2), (23, 6), (8, 5), (20, 63), (8, 5), (20, 63), (8, 5), (20, 63), (8, 5), (20, 63), (8, 5), (20, 63), (8, 5), (20, 63), (5, 2), (23, 6), (8, 5), (20, 63), (8, 5), (20, 63), (8, 5), (20, 63), (8, 5), (20, 63), (8, 5), (20, 63), (8, 5), (20, 63), (8, 5), (20, 63), (7, 6), (24, 20), (20, 20), (20, 180)]
def zSHb : List (Nat × Nat) := [(9, 9), (20, 16), (20, 16), (20, 19), (20, 119), (20, 64), (4, 2), (20, 441), (0, 15), (1, 13), (20, 63), (20, 64), (20, 64), (21, 64), (20, 4), (20, 6), (20, 1600), (0, 15), (1, 13), (20, 63), (20, 64), (20, 64), (21, 64), (20, 4), (20, 6), (20, 1600), (6, 13), (20, 27), (12, 76), (20, 1800), (20, 20), (20, 2), (20, 4), (20, 4), (20, 3200), (20, 3200), (21, 12), (20, 20), (20, 20), (22, 20), (20, 20), (20, 20), (20, 500), (20, 64), (20, 6), (20, 64), (20, 64), (20, 70), (20, 12), (20, 14), (20, 14), (20, 14), (20, 64), (20, 3), (20, 22), (20, 132), (20, 132), (21, 132), (20, 8448), (20, 22), (20, 2640), (21, 500), (20, 12), (20, 16), (20, 16), (20, 19), (20, 64), (20, 500)]
def zSHp (k : Nat) : Nat × Nat := if k = 0 then (5, 2) else if k = 1 then (23, 6) else if k % 2 = 0 then (8, 5) else (20, 63)
def zSH (a : Nat) : Nat × Nat := if a < 47 then zSHa.getD a (99, 0) else if a < 327 then zSHp ((a - 47) % 14) else zSHb.getD (a - 327) (99, 0)
def zAT : Nat → FieldType
  | 20 => .int
  | 21 => .long
  | 22 => .boolean
  | 23 => .object "FlashPages$Row"
  | _ => .object "FlashPages$Pages"
def zAK : Nat → Nat
  | 23 => 8
  | 24 => 5
  | _ => 99
end
section
/-! memory: ints, longs, references (0 is null, q + 1 the cell q) of cells and slots -/
abbrev Mem : Type := (Nat → Nat → Int32) × (Nat → Nat → Int64) × (Nat → Nat → Nat)
def zup {α : Type} (f : Nat → α) (k : Nat) (v : α) : Nat → α := fun j => if j = k then v else f j
def zI (M : Mem) (a : Nat) : Nat → Int32 := M.1 a
def zL (M : Mem) (a : Nat) : Nat → Int64 := M.2.1 a
def zR (M : Mem) (a : Nat) : Nat → Nat := M.2.2 a
def zwI (M : Mem) (a : Nat) (f : Nat → Int32) : Mem := (zup M.1 a f, M.2.1, M.2.2)
def zwL (M : Mem) (a : Nat) (f : Nat → Int64) : Mem := (M.1, zup M.2.1 a f, M.2.2)
def zwR (M : Mem) (a : Nat) (f : Nat → Nat) : Mem := (M.1, M.2.1, zup M.2.2 a f)
def zsI (M : Mem) (a k : Nat) (v : Int32) : Mem := zwI M a (zup (zI M a) k v)
def zsL (M : Mem) (a k : Nat) (v : Int64) : Mem := zwL M a (zup (zL M a) k v)
def zsR (M : Mem) (a k : Nat) (v : Nat) : Mem := zwR M a (zup (zR M a) k v)
def znew (M : Mem) (a : Nat) : Mem := zwR (zwL (zwI M a (fun _ => 0)) a (fun _ => 0)) a (fun _ => 0)
def zrf (M : Mem) (a k : Nat) : Option Nat := match zR M a k with
  | 0 => none
  | q + 1 => some q
def zld (a : Nat) (i : Int32) : Option Nat := if i < 0 ∨ (zSH a).2 ≤ i.toNatClampNeg then none else some i.toNatClampNeg
def zO (n a k : Nat) : Prop := a < n ∧ (zSH a).1 = k
/-! the machine's values -/
abbrev zSg : Type := Nat × (Nat → Nat)
def zad (b : zSg) (q : Nat) : Nat := if q < 1000000 then b.1 + q else b.2 q
def zrv (b : zSg) : Value → Value
  | .ref q => .ref (zad b q)
  | v => v
def zre (b : zSg) : Nat → Value
  | 0 => .null
  | q + 1 => .ref (b.1 + q)
def zvk : FieldType → Nat
  | .long => 1
  | .object _ => 2
  | .array _ => 2
  | .boolean => 3
  | .int => 0
  | _ => 4
def zva (b : zSg) (M : Mem) (ty : FieldType) (a j : Nat) : Value := match zvk ty with
  | 1 => .long (zL M a j)
  | 2 => zre b (zR M a j)
  | _ => .int (zI M a j)
def zCell (dC : Nat → ClassId) (dI : Nat → Nat → Nat) (s : State) (b : zSg) (M : Mem) (H : Heap) (a : Nat) : Prop :=
  if (zSH a).1 < 13 then t_OB (b.1 + a) (dC (zSH a).1) (zN (zSH a).1) (dI (zSH a).1) H (fun j => zva b M (zTy (zSH a).1 j) a j)
  else ∃ cA : ClassId, ArrOfT s cA (zAT (zSH a).1) ∧ va_RA s cA (zAT (zSH a).1) ∧ H[b.1 + a]? = some (arrV cA (zSH a).2 (fun j => zva b M (zAT (zSH a).1) a j))
def zKd (k j : Nat) : Nat := if k < 13 then zK k j else zAK k
def zWT (n : Nat) (M : Mem) : Prop := ∀ a, a < n → ∀ j, zR M a j ≠ 0 → zO n (zR M a j - 1) (zKd (zSH a).1 j)
def zRL (dC : Nat → ClassId) (dI : Nat → Nat → Nat) (b : zSg) (s : State) (n : Nat) (M : Mem) (H : Heap) : Prop :=
  H.size = b.1 + n ∧ n ≤ 1000000 ∧ (∀ a, a < n → zCell dC dI s b M H a) ∧ zWT n M
/-! the running frame -/
abbrev KX : Type := Program × Launch × Env × Room × State × MethodId × Array Value × List Frame × Method × Code × (Nat → ClassId) × (Nat → Nat → Nat) × zSg × Nat × Nat × Nat
def zRm (d mc ms : Nat) : Room := { frames := d, cells := mc, slots := ms, locals := 64 * d }
def zQ (dC : Nat → ClassId) (dI : Nat → Nat → Nat) (b : zSg) (n' : Nat) (ov : Option Value) (M' : Mem) : Array Value → State → Outcome → State → Prop := fun _ st o t =>
  o = .returned (ov.map (zrv b)) ∧ zRL dC dI b t n' M' t.heap ∧ st.heap.size ≤ t.heap.size ∧ (∀ q, q < b.1 → t.heap[q]? = st.heap[q]?)
def LH (b : zSg) (ls : Array Slot) (nL : Nat) (L : List Value) : Prop := ls.size = nL ∧ lv_wf ls ∧ ∀ (i : Nat) (v : Value), L[i]? = some v → v ≠ .null → ls[i]? = some (.val (zrv b v))
def CX (κ : KX) (cc : ByteArray) (own : String) (nL : Nat) (ret : Option FieldType) (d : Nat) : Prop := match κ with
  | (p, _, _, R, s, m, args, _, meth, c, dC, dI, _, mc, ms, _) => p.tables.exec = Jvm.exec ∧ c.code = cc ∧ c.maxLocals = nL ∧ s.vm.findClass own = some m.cls ∧ (∀ w ∈ zTb, w.before args s = true) ∧ meth.sig.returnType = ret ∧ meth.locks = false ∧ va_K (dC, dI) zCl [] s ∧ R = zRm d mc ms ∧ ∀ w ∈ zNs, va_Nw w s
def zIn2 (κ : KX) (n : Nat) (M : Mem) (H : Heap) (locs : List Loc) : Prop := match κ with
  | (_, _, _, _, s, _, _, _, _, _, dC, dI, b, _, _, _) => zRL dC dI b s n M H ∧ (∀ q ∈ locs, b.1 ≤ q.base) ∧ s.heap.size ≤ H.size ∧ b.1 ≤ s.heap.size ∧ ∀ q, q < b.1 → H[q]? = s.heap[q]?
def zGo {α : Type} (κ : KX) (em : α → Option Value × Mem) (cs : Nat × Nat) (H : Heap) (locs : List Loc) (pc : Nat) (ls : Array Slot) (st : List Value) (x : α) : Prop := match κ with
  | (p, l, e, R, s, m, args, below, meth, c, dC, dI, b, mc, ms, n') => W p l e R s m args below meth c H locs cs.1 cs.2 (MQ below (zQ dC dI b n' (em x).1 (em x).2) args s mc ms (fun q => b.1 ≤ q)) (F0 m pc ls (st.map (zrv b)))
def zb (κ : KX) : zSg := match κ with
  | (_, _, _, _, _, _, _, _, _, _, _, _, b, _, _, _) => b
def X {α : Type} (κ : KX) (nL : Nat) (em : α → Option Value × Mem) (n : Nat) (cs : Nat × Nat) (pc : Nat) (L st : List Value) (M : Mem) (res : Option α) : Prop :=
  ∀ x, res = some x → ∀ (H : Heap) (locs : List Loc) (ls : Array Slot), zIn2 κ n M H locs → LH (zb κ) ls nL L → zGo κ em cs H locs pc ls st x
def emI : Int32 × Mem → Option Value × Mem := fun x => (some (.int x.1), x.2)
def emL : Int64 × Mem → Option Value × Mem := fun x => (some (.long x.1), x.2)
def emV : Mem → Option Value × Mem := fun x => (none, x)
/-! storing into locals -/
def zst1 : List Value → Nat → Value → List Value
  | [], _, _ => []
  | _ :: L, 0, v => v :: L
  | a :: L, 1, v => (if a.category = 2 then .null else a) :: zst1 L 0 v
  | a :: L, i + 2, v => a :: zst1 L (i + 1) v
def zcl0 : List Value → List Value
  | [] => []
  | _ :: L => .null :: L
def zst2 : List Value → Nat → Value → List Value
  | [], _, _ => []
  | _ :: L, 0, v => v :: zcl0 L
  | a :: L, 1, v => (if a.category = 2 then .null else a) :: zst2 L 0 v
  | a :: L, i + 2, v => a :: zst2 L (i + 1) v
theorem zst1_get (L : List Value) : ∀ (i : Nat) (x : Value) (j : Nat) (v : Value), (zst1 L i x)[j]? = some v → v ≠ .null → (j = i ∧ v = x) ∨ (j ≠ i ∧ L[j]? = some v ∧ ¬ (j + 1 = i ∧ v.category = 2)) := by
  induction L with
  | nil => intro i x j v h; simp [zst1] at h
  | cons a L ih =>
    intro i x j v h hv
    match i, j with
    | 0, 0 => simp [zst1] at h; exact Or.inl ⟨rfl, h.symm⟩
    | 0, j + 1 => simp [zst1] at h; exact Or.inr ⟨by omega, by simpa using h, by omega⟩
    | 1, 0 =>
      simp [zst1] at h
      by_cases ha : a.category = 2
      · rw [if_pos ha] at h; exact absurd h.symm hv
      · rw [if_neg ha] at h; subst h; exact Or.inr ⟨by omega, by simp, fun q => ha q.2⟩
    | 1, j + 1 =>
      have h' : (zst1 L 0 x)[j]? = some v := by simpa [zst1] using h
      rcases ih 0 x j v h' hv with ⟨h1, h2⟩ | ⟨h1, h2, h3⟩
      · exact Or.inl ⟨by omega, h2⟩
      · exact Or.inr ⟨by omega, by simpa using h2, by omega⟩
    | i + 2, 0 => simp [zst1] at h; exact Or.inr ⟨by omega, by simpa using h, by omega⟩
    | i + 2, j + 1 =>
      have h' : (zst1 L (i + 1) x)[j]? = some v := by simpa [zst1] using h
      rcases ih (i + 1) x j v h' hv with ⟨h1, h2⟩ | ⟨h1, h2, h3⟩
      · exact Or.inl ⟨by omega, h2⟩
      · exact Or.inr ⟨by omega, by simpa using h2, fun q => h3 ⟨by omega, q.2⟩⟩
theorem zst2_get (L : List Value) : ∀ (i : Nat) (x : Value) (j : Nat) (v : Value), (zst2 L i x)[j]? = some v → v ≠ .null → (j = i ∧ v = x) ∨ (j ≠ i ∧ j ≠ i + 1 ∧ L[j]? = some v ∧ ¬ (j + 1 = i ∧ v.category = 2)) := by
  induction L with
  | nil => intro i x j v h; simp [zst2] at h
  | cons a L ih =>
    intro i x j v h hv
    match i, j with
    | 0, 0 => simp [zst2] at h; exact Or.inl ⟨rfl, h.symm⟩
    | 0, 1 =>
      cases L with
      | nil => simp [zst2, zcl0] at h
      | cons c L => simp [zst2, zcl0] at h; exact absurd h.symm hv
    | 0, j + 2 =>
      cases L with
      | nil => simp [zst2, zcl0] at h
      | cons c L => simp [zst2, zcl0] at h; exact Or.inr ⟨by omega, by omega, by simpa using h, by omega⟩
    | 1, 0 =>
      simp [zst2] at h
      by_cases ha : a.category = 2
      · rw [if_pos ha] at h; exact absurd h.symm hv
      · rw [if_neg ha] at h; subst h; exact Or.inr ⟨by omega, by omega, by simp, fun q => ha q.2⟩
    | 1, j + 1 =>
      have h' : (zst2 L 0 x)[j]? = some v := by simpa [zst2] using h
      rcases ih 0 x j v h' hv with ⟨h1, h2⟩ | ⟨h1, h2, h3, h4⟩
      · exact Or.inl ⟨by omega, h2⟩
      · exact Or.inr ⟨by omega, by omega, by simpa using h3, by omega⟩
    | i + 2, 0 => simp [zst2] at h; exact Or.inr ⟨by omega, by omega, by simpa using h, by omega⟩
    | i + 2, j + 1 =>
      have h' : (zst2 L (i + 1) x)[j]? = some v := by simpa [zst2] using h
      rcases ih (i + 1) x j v h' hv with ⟨h1, h2⟩ | ⟨h1, h2, h3, h4⟩
      · exact Or.inl ⟨by omega, h2⟩
      · exact Or.inr ⟨by omega, by omega, by simpa using h3, fun q => h4 ⟨by omega, q.2⟩⟩
def zasc (b : zSg) (L : List Value) : List (Nat × Value) := (List.range L.length).filterMap (fun i => match L[i]? with
  | some v => if v = .null then none else some (i, zrv b v)
  | none => none)
theorem zasc_mem {b : zSg} {L : List Value} {i : Nat} {w : Value} : (i, w) ∈ zasc b L ↔ ∃ v, L[i]? = some v ∧ v ≠ .null ∧ w = zrv b v := by
  unfold zasc
  rw [List.mem_filterMap]
  constructor
  · rintro ⟨k, hk, h⟩
    cases hL : L[k]? with
    | none => rw [hL] at h; cases h
    | some v =>
      rw [hL] at h
      by_cases hv : v = .null
      · simp [hv] at h
      · simp [hv] at h
        obtain ⟨rfl, rfl⟩ := h
        exact ⟨v, hL, hv, rfl⟩
  · rintro ⟨v, hL, hv, rfl⟩
    exact ⟨i, List.mem_range.mpr (List.getElem?_eq_some_iff.mp hL).1, by rw [hL]; simp [hv]⟩
theorem LH.has {b : zSg} {ls : Array Slot} {nL : Nat} {L : List Value} (h : LH b ls nL L) : lv_has ls nL (zasc b L) := by
  refine ⟨h.1, h.2.1, ?_⟩
  rintro ⟨i, w⟩ hq
  obtain ⟨v, hL, hv, rfl⟩ := zasc_mem.mp hq
  exact h.2.2 i v hL hv
theorem zrv_cat (b : zSg) (v : Value) : (zrv b v).category = v.category := by cases v <;> rfl
theorem zrv_null {b : zSg} {v : Value} (h : v ≠ .null) : zrv b v ≠ .null := by cases v <;> simp_all [zrv]
theorem LH.st1 {b : zSg} {ls' : Array Slot} {nL i : Nat} {L : List Value} {x : Value} (h : lv_has ls' nL ((i, zrv b x) :: (zasc b L).filter (fun q => !(q.1 == i) && !(q.1 + 1 == i && q.2.category == 2)))) : LH b ls' nL (zst1 L i x) := by
  refine ⟨h.1, h.2.1, fun j v hj hv => ?_⟩
  rcases zst1_get L i x j v hj hv with ⟨rfl, rfl⟩ | ⟨h1, h2, h3⟩
  · exact h.2.2 (j, zrv b v) List.mem_cons_self
  · refine h.2.2 (j, zrv b v) (List.mem_cons_of_mem _ (List.mem_filter.mpr ⟨zasc_mem.mpr ⟨v, h2, hv, rfl⟩, ?_⟩))
    simp only [zrv_cat]
    simp [h1]
    by_cases h4 : j + 1 = i
    · exact Or.inr fun h5 => h3 ⟨h4, h5⟩
    · exact Or.inl h4
theorem LH.st2 {b : zSg} {ls' : Array Slot} {nL i : Nat} {L : List Value} {x : Value} (h : lv_has ls' nL ((i, zrv b x) :: (zasc b L).filter (fun q => !(q.1 == i) && (!(q.1 == i + 1) && !(q.1 + 1 == i && q.2.category == 2))))) : LH b ls' nL (zst2 L i x) := by
  refine ⟨h.1, h.2.1, fun j v hj hv => ?_⟩
  rcases zst2_get L i x j v hj hv with ⟨rfl, rfl⟩ | ⟨h1, h1', h2, h3⟩
  · exact h.2.2 (j, zrv b v) List.mem_cons_self
  · refine h.2.2 (j, zrv b v) (List.mem_cons_of_mem _ (List.mem_filter.mpr ⟨zasc_mem.mpr ⟨v, h2, hv, rfl⟩, ?_⟩))
    simp only [zrv_cat]
    simp [h1, h1']
    by_cases h4 : j + 1 = i
    · exact Or.inr fun h5 => h3 ⟨h4, h5⟩
    · exact Or.inl h4
/-! decode tables -/
theorem zdk {cc : ByteArray} {T : List (Nat × Instr × Nat)} (h : T.all (fun q => decide (decode cc q.1 = .ok q.2)) = true) (i : Nat) {pc len : Nat} {ins : Instr} (hi : T[i]? = some (pc, ins, len)) : decode cc pc = .ok (ins, len) := by
  have := List.all_eq_true.mp h _ (List.mem_of_getElem? hi)
  exact of_decide_eq_true this
end
section
/-! one row an instruction, over the memory -/
section
variable {α : Type} {κ : KX} {nL : Nat} {em : α → Option Value × Mem} {n : Nat} {cs : Nat × Nat} {pc q : Nat} {L st : List Value} {M : Mem} {res : Option α} {cc : ByteArray} {own : String} {ret : Option FieldType} {d : Nat}
def zlush (x : Int64) (y : Int32) : Int64 := (x.toUInt64 >>> (y.toInt64.toUInt64 &&& Int64.toUInt64 63)).toInt64
def zrem (x y : Int32) : Int32 := x - x / y * y
def zlrem (x y : Int64) : Int64 := x - x / y * y
theorem x_iadd {x y : Int32} (hC : CX κ cc own nL ret d) (hd : decode cc pc = .ok (.iadd, 1)) (hq : pc + 1 = q) (k : X κ nL em n cs q L (.int (x + y) :: st) M res) : X κ nL em n cs pc L (.int y :: .int x :: st) M res := by
  subst hq
  obtain ⟨p, l, e, R, s, m, args, below, meth, c, dC, dI, b, mc, ms, n'⟩ := κ
  obtain ⟨hx, hb, hml, hown, hts, hr, hlk, hK, hR, hNs⟩ := hC
  intro r hr0 H locs ls h2 hl
  exact lv_iadd hx hb hd (k r hr0 H locs ls h2 hl)
theorem x_isub {x y : Int32} (hC : CX κ cc own nL ret d) (hd : decode cc pc = .ok (.isub, 1)) (hq : pc + 1 = q) (k : X κ nL em n cs q L (.int (x - y) :: st) M res) : X κ nL em n cs pc L (.int y :: .int x :: st) M res := by
  subst hq
  obtain ⟨p, l, e, R, s, m, args, below, meth, c, dC, dI, b, mc, ms, n'⟩ := κ
  obtain ⟨hx, hb, hml, hown, hts, hr, hlk, hK, hR, hNs⟩ := hC
  intro r hr0 H locs ls h2 hl
  exact lv_isub hx hb hd (k r hr0 H locs ls h2 hl)
theorem x_imul {x y : Int32} (hC : CX κ cc own nL ret d) (hd : decode cc pc = .ok (.imul, 1)) (hq : pc + 1 = q) (k : X κ nL em n cs q L (.int (x * y) :: st) M res) : X κ nL em n cs pc L (.int y :: .int x :: st) M res := by
  subst hq
  obtain ⟨p, l, e, R, s, m, args, below, meth, c, dC, dI, b, mc, ms, n'⟩ := κ
  obtain ⟨hx, hb, hml, hown, hts, hr, hlk, hK, hR, hNs⟩ := hC
  intro r hr0 H locs ls h2 hl
  exact lv_imul hx hb hd (k r hr0 H locs ls h2 hl)
theorem x_iand {x y : Int32} (hC : CX κ cc own nL ret d) (hd : decode cc pc = .ok (.iand, 1)) (hq : pc + 1 = q) (k : X κ nL em n cs q L (.int (x &&& y) :: st) M res) : X κ nL em n cs pc L (.int y :: .int x :: st) M res := by
  subst hq
  obtain ⟨p, l, e, R, s, m, args, below, meth, c, dC, dI, b, mc, ms, n'⟩ := κ
  obtain ⟨hx, hb, hml, hown, hts, hr, hlk, hK, hR, hNs⟩ := hC
  intro r hr0 H locs ls h2 hl
  exact lv_iand hx hb hd (k r hr0 H locs ls h2 hl)
theorem x_ior {x y : Int32} (hC : CX κ cc own nL ret d) (hd : decode cc pc = .ok (.ior, 1)) (hq : pc + 1 = q) (k : X κ nL em n cs q L (.int (x ||| y) :: st) M res) : X κ nL em n cs pc L (.int y :: .int x :: st) M res := by
  subst hq
  obtain ⟨p, l, e, R, s, m, args, below, meth, c, dC, dI, b, mc, ms, n'⟩ := κ
  obtain ⟨hx, hb, hml, hown, hts, hr, hlk, hK, hR, hNs⟩ := hC
  intro r hr0 H locs ls h2 hl
  exact lv_ior hx hb hd (k r hr0 H locs ls h2 hl)
theorem x_ixor {x y : Int32} (hC : CX κ cc own nL ret d) (hd : decode cc pc = .ok (.ixor, 1)) (hq : pc + 1 = q) (k : X κ nL em n cs q L (.int (x ^^^ y) :: st) M res) : X κ nL em n cs pc L (.int y :: .int x :: st) M res := by
  subst hq
  obtain ⟨p, l, e, R, s, m, args, below, meth, c, dC, dI, b, mc, ms, n'⟩ := κ
  obtain ⟨hx, hb, hml, hown, hts, hr, hlk, hK, hR, hNs⟩ := hC
  intro r hr0 H locs ls h2 hl
  exact lv_ixor hx hb hd (k r hr0 H locs ls h2 hl)
theorem x_ishl {x y : Int32} (hC : CX κ cc own nL ret d) (hd : decode cc pc = .ok (.ishl, 1)) (hq : pc + 1 = q) (k : X κ nL em n cs q L (.int (x <<< (y &&& 31)) :: st) M res) : X κ nL em n cs pc L (.int y :: .int x :: st) M res := by
  subst hq
  obtain ⟨p, l, e, R, s, m, args, below, meth, c, dC, dI, b, mc, ms, n'⟩ := κ
  obtain ⟨hx, hb, hml, hown, hts, hr, hlk, hK, hR, hNs⟩ := hC
  intro r hr0 H locs ls h2 hl
  exact lv_ishl hx hb hd (k r hr0 H locs ls h2 hl)
theorem x_ishr {x y : Int32} (hC : CX κ cc own nL ret d) (hd : decode cc pc = .ok (.ishr, 1)) (hq : pc + 1 = q) (k : X κ nL em n cs q L (.int (x >>> (y &&& 31)) :: st) M res) : X κ nL em n cs pc L (.int y :: .int x :: st) M res := by
  subst hq
  obtain ⟨p, l, e, R, s, m, args, below, meth, c, dC, dI, b, mc, ms, n'⟩ := κ
  obtain ⟨hx, hb, hml, hown, hts, hr, hlk, hK, hR, hNs⟩ := hC
  intro r hr0 H locs ls h2 hl
  exact lv_ishr hx hb hd (k r hr0 H locs ls h2 hl)
theorem x_ladd {x y : Int64} (hC : CX κ cc own nL ret d) (hd : decode cc pc = .ok (.ladd, 1)) (hq : pc + 1 = q) (k : X κ nL em n cs q L (.long (x + y) :: st) M res) : X κ nL em n cs pc L (.long y :: .long x :: st) M res := by
  subst hq
  obtain ⟨p, l, e, R, s, m, args, below, meth, c, dC, dI, b, mc, ms, n'⟩ := κ
  obtain ⟨hx, hb, hml, hown, hts, hr, hlk, hK, hR, hNs⟩ := hC
  intro r hr0 H locs ls h2 hl
  exact lv_ladd hx hb hd (k r hr0 H locs ls h2 hl)
theorem x_lsub {x y : Int64} (hC : CX κ cc own nL ret d) (hd : decode cc pc = .ok (.lsub, 1)) (hq : pc + 1 = q) (k : X κ nL em n cs q L (.long (x - y) :: st) M res) : X κ nL em n cs pc L (.long y :: .long x :: st) M res := by
  subst hq
  obtain ⟨p, l, e, R, s, m, args, below, meth, c, dC, dI, b, mc, ms, n'⟩ := κ
  obtain ⟨hx, hb, hml, hown, hts, hr, hlk, hK, hR, hNs⟩ := hC
  intro r hr0 H locs ls h2 hl
  exact lv_lsub hx hb hd (k r hr0 H locs ls h2 hl)
theorem x_lmul {x y : Int64} (hC : CX κ cc own nL ret d) (hd : decode cc pc = .ok (.lmul, 1)) (hq : pc + 1 = q) (k : X κ nL em n cs q L (.long (x * y) :: st) M res) : X κ nL em n cs pc L (.long y :: .long x :: st) M res := by
  subst hq
  obtain ⟨p, l, e, R, s, m, args, below, meth, c, dC, dI, b, mc, ms, n'⟩ := κ
  obtain ⟨hx, hb, hml, hown, hts, hr, hlk, hK, hR, hNs⟩ := hC
  intro r hr0 H locs ls h2 hl
  exact lv_lmul hx hb hd (k r hr0 H locs ls h2 hl)
theorem x_land {x y : Int64} (hC : CX κ cc own nL ret d) (hd : decode cc pc = .ok (.land, 1)) (hq : pc + 1 = q) (k : X κ nL em n cs q L (.long (x &&& y) :: st) M res) : X κ nL em n cs pc L (.long y :: .long x :: st) M res := by
  subst hq
  obtain ⟨p, l, e, R, s, m, args, below, meth, c, dC, dI, b, mc, ms, n'⟩ := κ
  obtain ⟨hx, hb, hml, hown, hts, hr, hlk, hK, hR, hNs⟩ := hC
  intro r hr0 H locs ls h2 hl
  exact lv_land hx hb hd (k r hr0 H locs ls h2 hl)
theorem x_lor {x y : Int64} (hC : CX κ cc own nL ret d) (hd : decode cc pc = .ok (.lor, 1)) (hq : pc + 1 = q) (k : X κ nL em n cs q L (.long (x ||| y) :: st) M res) : X κ nL em n cs pc L (.long y :: .long x :: st) M res := by
  subst hq
  obtain ⟨p, l, e, R, s, m, args, below, meth, c, dC, dI, b, mc, ms, n'⟩ := κ
  obtain ⟨hx, hb, hml, hown, hts, hr, hlk, hK, hR, hNs⟩ := hC
  intro r hr0 H locs ls h2 hl
  exact lv_lor hx hb hd (k r hr0 H locs ls h2 hl)
theorem x_lxor {x y : Int64} (hC : CX κ cc own nL ret d) (hd : decode cc pc = .ok (.lxor, 1)) (hq : pc + 1 = q) (k : X κ nL em n cs q L (.long (x ^^^ y) :: st) M res) : X κ nL em n cs pc L (.long y :: .long x :: st) M res := by
  subst hq
  obtain ⟨p, l, e, R, s, m, args, below, meth, c, dC, dI, b, mc, ms, n'⟩ := κ
  obtain ⟨hx, hb, hml, hown, hts, hr, hlk, hK, hR, hNs⟩ := hC
  intro r hr0 H locs ls h2 hl
  exact lv_lxor hx hb hd (k r hr0 H locs ls h2 hl)
theorem x_lshl {x : Int64} {y : Int32} (hC : CX κ cc own nL ret d) (hd : decode cc pc = .ok (.lshl, 1)) (hq : pc + 1 = q) (k : X κ nL em n cs q L (.long (x <<< (y.toInt64 &&& 63)) :: st) M res) : X κ nL em n cs pc L (.int y :: .long x :: st) M res := by
  subst hq
  obtain ⟨p, l, e, R, s, m, args, below, meth, c, dC, dI, b, mc, ms, n'⟩ := κ
  obtain ⟨hx, hb, hml, hown, hts, hr, hlk, hK, hR, hNs⟩ := hC
  intro r hr0 H locs ls h2 hl
  exact lv_lshl hx hb hd rfl (k r hr0 H locs ls h2 hl)
theorem x_lshr {x : Int64} {y : Int32} (hC : CX κ cc own nL ret d) (hd : decode cc pc = .ok (.lshr, 1)) (hq : pc + 1 = q) (k : X κ nL em n cs q L (.long (x >>> (y.toInt64 &&& 63)) :: st) M res) : X κ nL em n cs pc L (.int y :: .long x :: st) M res := by
  subst hq
  obtain ⟨p, l, e, R, s, m, args, below, meth, c, dC, dI, b, mc, ms, n'⟩ := κ
  obtain ⟨hx, hb, hml, hown, hts, hr, hlk, hK, hR, hNs⟩ := hC
  intro r hr0 H locs ls h2 hl
  exact lv_lshr hx hb hd rfl (k r hr0 H locs ls h2 hl)
theorem x_lushr {x : Int64} {y : Int32} (hC : CX κ cc own nL ret d) (hd : decode cc pc = .ok (.lushr, 1)) (hq : pc + 1 = q) (k : X κ nL em n cs q L (.long (zlush x y) :: st) M res) : X κ nL em n cs pc L (.int y :: .long x :: st) M res := by
  subst hq
  obtain ⟨p, l, e, R, s, m, args, below, meth, c, dC, dI, b, mc, ms, n'⟩ := κ
  obtain ⟨hx, hb, hml, hown, hts, hr, hlk, hK, hR, hNs⟩ := hC
  intro r hr0 H locs ls h2 hl
  exact lv_lushr hx hb hd rfl (k r hr0 H locs ls h2 hl)
theorem x_ineg {x : Int32} (hC : CX κ cc own nL ret d) (hd : decode cc pc = .ok (.ineg, 1)) (hq : pc + 1 = q) (k : X κ nL em n cs q L (.int (-x) :: st) M res) : X κ nL em n cs pc L (.int x :: st) M res := by
  subst hq
  obtain ⟨p, l, e, R, s, m, args, below, meth, c, dC, dI, b, mc, ms, n'⟩ := κ
  obtain ⟨hx, hb, hml, hown, hts, hr, hlk, hK, hR, hNs⟩ := hC
  intro r hr0 H locs ls h2 hl
  exact lv_ineg hx hb hd (k r hr0 H locs ls h2 hl)
theorem x_i2l {x : Int32} (hC : CX κ cc own nL ret d) (hd : decode cc pc = .ok (.i2l, 1)) (hq : pc + 1 = q) (k : X κ nL em n cs q L (.long x.toInt64 :: st) M res) : X κ nL em n cs pc L (.int x :: st) M res := by
  subst hq
  obtain ⟨p, l, e, R, s, m, args, below, meth, c, dC, dI, b, mc, ms, n'⟩ := κ
  obtain ⟨hx, hb, hml, hown, hts, hr, hlk, hK, hR, hNs⟩ := hC
  intro r hr0 H locs ls h2 hl
  exact lv_i2l hx hb hd rfl (k r hr0 H locs ls h2 hl)
theorem x_l2i {x : Int64} (hC : CX κ cc own nL ret d) (hd : decode cc pc = .ok (.l2i, 1)) (hq : pc + 1 = q) (k : X κ nL em n cs q L (.int x.toInt32 :: st) M res) : X κ nL em n cs pc L (.long x :: st) M res := by
  subst hq
  obtain ⟨p, l, e, R, s, m, args, below, meth, c, dC, dI, b, mc, ms, n'⟩ := κ
  obtain ⟨hx, hb, hml, hown, hts, hr, hlk, hK, hR, hNs⟩ := hC
  intro r hr0 H locs ls h2 hl
  exact lv_l2i hx hb hd rfl (k r hr0 H locs ls h2 hl)
theorem x_lcmp {x y : Int64} (hC : CX κ cc own nL ret d) (hd : decode cc pc = .ok (.lcmp, 1)) (hq : pc + 1 = q) (k : X κ nL em n cs q L (.int (lg_cmp x y) :: st) M res) : X κ nL em n cs pc L (.long y :: .long x :: st) M res := by
  subst hq
  obtain ⟨p, l, e, R, s, m, args, below, meth, c, dC, dI, b, mc, ms, n'⟩ := κ
  obtain ⟨hx, hb, hml, hown, hts, hr, hlk, hK, hR, hNs⟩ := hC
  intro r hr0 H locs ls h2 hl
  exact W.lcmp hx hb hd (k r hr0 H locs ls h2 hl)
theorem x_idiv {x y : Int32} (hne : ¬ y = 0) (hC : CX κ cc own nL ret d) (hd : decode cc pc = .ok (.idiv, 1)) (hq : pc + 1 = q) (k : X κ nL em n cs q L (.int (x / y) :: st) M res) : X κ nL em n cs pc L (.int y :: .int x :: st) M res := by
  subst hq
  obtain ⟨p, l, e, R, s, m, args, below, meth, c, dC, dI, b, mc, ms, n'⟩ := κ
  obtain ⟨hx, hb, hml, hown, hts, hr, hlk, hK, hR, hNs⟩ := hC
  intro r hr0 H locs ls h2 hl
  exact lv_idiv hx hb hd hne (k r hr0 H locs ls h2 hl)
theorem x_idivG {x y : Int32} (hC : CX κ cc own nL ret d) (hd : decode cc pc = .ok (.idiv, 1)) (hq : pc + 1 = q) (k : X κ nL em n cs q L (.int (x / y) :: st) M res) : X κ nL em n cs pc L (.int y :: .int x :: st) M (if y = 0 then none else res) := by
  by_cases h : y = 0
  · rw [if_pos h]; intro r hr; cases hr
  · rw [if_neg h]; exact x_idiv h hC hd hq k
theorem x_irem {x y : Int32} (hne : ¬ y = 0) (hC : CX κ cc own nL ret d) (hd : decode cc pc = .ok (.irem, 1)) (hq : pc + 1 = q) (k : X κ nL em n cs q L (.int (zrem x y) :: st) M res) : X κ nL em n cs pc L (.int y :: .int x :: st) M res := by
  subst hq
  obtain ⟨p, l, e, R, s, m, args, below, meth, c, dC, dI, b, mc, ms, n'⟩ := κ
  obtain ⟨hx, hb, hml, hown, hts, hr, hlk, hK, hR, hNs⟩ := hC
  intro r hr0 H locs ls h2 hl
  exact lv_irem hx hb hd hne (k r hr0 H locs ls h2 hl)
theorem x_iremG {x y : Int32} (hC : CX κ cc own nL ret d) (hd : decode cc pc = .ok (.irem, 1)) (hq : pc + 1 = q) (k : X κ nL em n cs q L (.int (zrem x y) :: st) M res) : X κ nL em n cs pc L (.int y :: .int x :: st) M (if y = 0 then none else res) := by
  by_cases h : y = 0
  · rw [if_pos h]; intro r hr; cases hr
  · rw [if_neg h]; exact x_irem h hC hd hq k
theorem x_ldiv {x y : Int64} (hne : ¬ y = 0) (hC : CX κ cc own nL ret d) (hd : decode cc pc = .ok (.ldiv, 1)) (hq : pc + 1 = q) (k : X κ nL em n cs q L (.long (x / y) :: st) M res) : X κ nL em n cs pc L (.long y :: .long x :: st) M res := by
  subst hq
  obtain ⟨p, l, e, R, s, m, args, below, meth, c, dC, dI, b, mc, ms, n'⟩ := κ
  obtain ⟨hx, hb, hml, hown, hts, hr, hlk, hK, hR, hNs⟩ := hC
  intro r hr0 H locs ls h2 hl
  exact lv_ldiv hx hb hd hne (k r hr0 H locs ls h2 hl)
theorem x_ldivG {x y : Int64} (hC : CX κ cc own nL ret d) (hd : decode cc pc = .ok (.ldiv, 1)) (hq : pc + 1 = q) (k : X κ nL em n cs q L (.long (x / y) :: st) M res) : X κ nL em n cs pc L (.long y :: .long x :: st) M (if y = 0 then none else res) := by
  by_cases h : y = 0
  · rw [if_pos h]; intro r hr; cases hr
  · rw [if_neg h]; exact x_ldiv h hC hd hq k
theorem x_lrem {x y : Int64} (hne : ¬ y = 0) (hC : CX κ cc own nL ret d) (hd : decode cc pc = .ok (.lrem, 1)) (hq : pc + 1 = q) (k : X κ nL em n cs q L (.long (zlrem x y) :: st) M res) : X κ nL em n cs pc L (.long y :: .long x :: st) M res := by
  subst hq
  obtain ⟨p, l, e, R, s, m, args, below, meth, c, dC, dI, b, mc, ms, n'⟩ := κ
  obtain ⟨hx, hb, hml, hown, hts, hr, hlk, hK, hR, hNs⟩ := hC
  intro r hr0 H locs ls h2 hl
  exact lv_lrem hx hb hd hne (k r hr0 H locs ls h2 hl)
theorem x_lremG {x y : Int64} (hC : CX κ cc own nL ret d) (hd : decode cc pc = .ok (.lrem, 1)) (hq : pc + 1 = q) (k : X κ nL em n cs q L (.long (zlrem x y) :: st) M res) : X κ nL em n cs pc L (.long y :: .long x :: st) M (if y = 0 then none else res) := by
  by_cases h : y = 0
  · rw [if_pos h]; intro r hr; cases hr
  · rw [if_neg h]; exact x_lrem h hC hd hq k
theorem x_iconst {i : Int} {v : Int32} (hv : Int32.ofInt i = v) (hC : CX κ cc own nL ret d) (hd : decode cc pc = .ok (.iconst i, 1)) (hq : pc + 1 = q) (k : X κ nL em n cs q L (.int v :: st) M res) : X κ nL em n cs pc L st M res := by
  subst hq
  obtain ⟨p, l, e, R, s, m, args, below, meth, c, dC, dI, b, mc, ms, n'⟩ := κ
  obtain ⟨hx, hb, hml, hown, hts, hr, hlk, hK, hR, hNs⟩ := hC
  intro r hr0 H locs ls h2 hl
  exact lv_iconst hx hb hd hv (k r hr0 H locs ls h2 hl)
theorem x_bipush {i : Int} {v : Int32} (hv : (Int8.ofInt i).toInt32 = v) (hC : CX κ cc own nL ret d) (hd : decode cc pc = .ok (.bipush i, 2)) (hq : pc + 2 = q) (k : X κ nL em n cs q L (.int v :: st) M res) : X κ nL em n cs pc L st M res := by
  subst hq
  obtain ⟨p, l, e, R, s, m, args, below, meth, c, dC, dI, b, mc, ms, n'⟩ := κ
  obtain ⟨hx, hb, hml, hown, hts, hr, hlk, hK, hR, hNs⟩ := hC
  intro r hr0 H locs ls h2 hl
  exact lv_bipush hx hb hd hv (k r hr0 H locs ls h2 hl)
theorem x_sipush {i : Int} {v : Int32} (hv : (Int16.ofInt i).toInt32 = v) (hC : CX κ cc own nL ret d) (hd : decode cc pc = .ok (.sipush i, 3)) (hq : pc + 3 = q) (k : X κ nL em n cs q L (.int v :: st) M res) : X κ nL em n cs pc L st M res := by
  subst hq
  obtain ⟨p, l, e, R, s, m, args, below, meth, c, dC, dI, b, mc, ms, n'⟩ := κ
  obtain ⟨hx, hb, hml, hown, hts, hr, hlk, hK, hR, hNs⟩ := hC
  intro r hr0 H locs ls h2 hl
  exact lv_sipush hx hb hd hv (k r hr0 H locs ls h2 hl)
theorem x_lconst {i : Fin 2} {v : Int64} (hv : Int64.ofNat (i : Nat) = v) (hC : CX κ cc own nL ret d) (hd : decode cc pc = .ok (.lconst i, 1)) (hq : pc + 1 = q) (k : X κ nL em n cs q L (.long v :: st) M res) : X κ nL em n cs pc L st M res := by
  subst hq
  obtain ⟨p, l, e, R, s, m, args, below, meth, c, dC, dI, b, mc, ms, n'⟩ := κ
  obtain ⟨hx, hb, hml, hown, hts, hr, hlk, hK, hR, hNs⟩ := hC
  intro r hr0 H locs ls h2 hl
  exact lv_lconst hx hb hd hv (k r hr0 H locs ls h2 hl)
theorem x_ldc {i : Nat} {v : Int32} (hw : Cond.constant own i v ∈ zTb) (hC : CX κ cc own nL ret d) (hd : decode cc pc = .ok (.ldc i, 2)) (hq : pc + 2 = q) (k : X κ nL em n cs q L (.int v :: st) M res) : X κ nL em n cs pc L st M res := by
  subst hq
  obtain ⟨p, l, e, R, s, m, args, below, meth, c, dC, dI, b, mc, ms, n'⟩ := κ
  obtain ⟨hx, hb, hml, hown, hts, hr, hlk, hK, hR, hNs⟩ := hC
  intro r hr0 H locs ls h2 hl
  exact lv_ldc hx hb hown (hts _ hw) hd (k r hr0 H locs ls h2 hl)
theorem x_ldcw {i : Nat} {v : Int32} (hw : Cond.constant own i v ∈ zTb) (hC : CX κ cc own nL ret d) (hd : decode cc pc = .ok (.ldc_w i, 3)) (hq : pc + 3 = q) (k : X κ nL em n cs q L (.int v :: st) M res) : X κ nL em n cs pc L st M res := by
  subst hq
  obtain ⟨p, l, e, R, s, m, args, below, meth, c, dC, dI, b, mc, ms, n'⟩ := κ
  obtain ⟨hx, hb, hml, hown, hts, hr, hlk, hK, hR, hNs⟩ := hC
  intro r hr0 H locs ls h2 hl
  exact lv_ldcw hx hb hown (hts _ hw) hd (k r hr0 H locs ls h2 hl)
theorem x_ldc2 {i : Nat} {v : Int64} (hw : Cond.constantLong own i v ∈ zTb) (hC : CX κ cc own nL ret d) (hd : decode cc pc = .ok (.ldc2_w i, 3)) (hq : pc + 3 = q) (k : X κ nL em n cs q L (.long v :: st) M res) : X κ nL em n cs pc L st M res := by
  subst hq
  obtain ⟨p, l, e, R, s, m, args, below, meth, c, dC, dI, b, mc, ms, n'⟩ := κ
  obtain ⟨hx, hb, hml, hown, hts, hr, hlk, hK, hR, hNs⟩ := hC
  intro r hr0 H locs ls h2 hl
  exact lv_ldc2 hx hb hown (hts _ hw) hd (k r hr0 H locs ls h2 hl)
theorem x_iload_n {i : Fin 4} {x : Int32} (hL : L[(i : Nat)]? = some (.int x)) (hC : CX κ cc own nL ret d) (hd : decode cc pc = .ok (.iload_n i, 1)) (hq : pc + 1 = q) (k : X κ nL em n cs q L (.int x :: st) M res) : X κ nL em n cs pc L st M res := by
  subst hq
  obtain ⟨p, l, e, R, s, m, args, below, meth, c, dC, dI, b, mc, ms, n'⟩ := κ
  obtain ⟨hx, hb, hml, hown, hts, hr, hlk, hK, hR, hNs⟩ := hC
  intro r hr0 H locs ls h2 hl
  exact lv_iload_n hx hb hd rfl (hl.2.2 _ _ hL (fun h => by cases h)) (k r hr0 H locs ls h2 hl)
theorem x_iload {i : Nat} {x : Int32} (hL : L[i]? = some (.int x)) (hC : CX κ cc own nL ret d) (hd : decode cc pc = .ok (.iload i, 2)) (hq : pc + 2 = q) (k : X κ nL em n cs q L (.int x :: st) M res) : X κ nL em n cs pc L st M res := by
  subst hq
  obtain ⟨p, l, e, R, s, m, args, below, meth, c, dC, dI, b, mc, ms, n'⟩ := κ
  obtain ⟨hx, hb, hml, hown, hts, hr, hlk, hK, hR, hNs⟩ := hC
  intro r hr0 H locs ls h2 hl
  exact lv_iload hx hb hd (hl.2.2 _ _ hL (fun h => by cases h)) (k r hr0 H locs ls h2 hl)
theorem x_istore {i : Nat} {L' : List Value} {x : Int32} (hn : i < nL) (hL : zst1 L i (.int x) = L') (hC : CX κ cc own nL ret d) (hd : decode cc pc = .ok (.istore i, 2)) (hq : pc + 2 = q) (k : X κ nL em n cs q L' st M res) : X κ nL em n cs pc L (.int x :: st) M res := by
  subst hq
  obtain ⟨p, l, e, R, s, m, args, below, meth, c, dC, dI, b, mc, ms, n'⟩ := κ
  obtain ⟨hx, hb, hml, hown, hts, hr, hlk, hK, hR, hNs⟩ := hC
  intro r hr0 H locs ls h2 hl
  subst hL
  exact lv_istore hx hb hd hl.has hn rfl (fun ls2 hl2 => k r hr0 H locs ls2 h2 (LH.st1 hl2))
theorem x_istore_n {i : Fin 4} {L' : List Value} {x : Int32} (hn : (i : Nat) < nL) (hL : zst1 L (i : Nat) (.int x) = L') (hC : CX κ cc own nL ret d) (hd : decode cc pc = .ok (.istore_n i, 1)) (hq : pc + 1 = q) (k : X κ nL em n cs q L' st M res) : X κ nL em n cs pc L (.int x :: st) M res := by
  subst hq
  obtain ⟨p, l, e, R, s, m, args, below, meth, c, dC, dI, b, mc, ms, n'⟩ := κ
  obtain ⟨hx, hb, hml, hown, hts, hr, hlk, hK, hR, hNs⟩ := hC
  intro r hr0 H locs ls h2 hl
  subst hL
  exact lv_istore_n hx hb hd rfl hl.has hn rfl (fun ls2 hl2 => k r hr0 H locs ls2 h2 (LH.st1 hl2))
theorem x_lload_n {i : Fin 4} {x : Int64} (hL : L[(i : Nat)]? = some (.long x)) (hC : CX κ cc own nL ret d) (hd : decode cc pc = .ok (.lload_n i, 1)) (hq : pc + 1 = q) (k : X κ nL em n cs q L (.long x :: st) M res) : X κ nL em n cs pc L st M res := by
  subst hq
  obtain ⟨p, l, e, R, s, m, args, below, meth, c, dC, dI, b, mc, ms, n'⟩ := κ
  obtain ⟨hx, hb, hml, hown, hts, hr, hlk, hK, hR, hNs⟩ := hC
  intro r hr0 H locs ls h2 hl
  exact lv_lload_n hx hb hd rfl (hl.2.2 _ _ hL (fun h => by cases h)) (k r hr0 H locs ls h2 hl)
theorem x_lload {i : Nat} {x : Int64} (hL : L[i]? = some (.long x)) (hC : CX κ cc own nL ret d) (hd : decode cc pc = .ok (.lload i, 2)) (hq : pc + 2 = q) (k : X κ nL em n cs q L (.long x :: st) M res) : X κ nL em n cs pc L st M res := by
  subst hq
  obtain ⟨p, l, e, R, s, m, args, below, meth, c, dC, dI, b, mc, ms, n'⟩ := κ
  obtain ⟨hx, hb, hml, hown, hts, hr, hlk, hK, hR, hNs⟩ := hC
  intro r hr0 H locs ls h2 hl
  exact lv_lload hx hb hd (hl.2.2 _ _ hL (fun h => by cases h)) (k r hr0 H locs ls h2 hl)
theorem x_lstore {i : Nat} {L' : List Value} {x : Int64} (hn : i + 1 < nL) (hL : zst2 L i (.long x) = L') (hC : CX κ cc own nL ret d) (hd : decode cc pc = .ok (.lstore i, 2)) (hq : pc + 2 = q) (k : X κ nL em n cs q L' st M res) : X κ nL em n cs pc L (.long x :: st) M res := by
  subst hq
  obtain ⟨p, l, e, R, s, m, args, below, meth, c, dC, dI, b, mc, ms, n'⟩ := κ
  obtain ⟨hx, hb, hml, hown, hts, hr, hlk, hK, hR, hNs⟩ := hC
  intro r hr0 H locs ls h2 hl
  subst hL
  exact lv_lstore hx hb hd hl.has hn rfl (fun ls2 hl2 => k r hr0 H locs ls2 h2 (LH.st2 hl2))
theorem x_lstore_n {i : Fin 4} {L' : List Value} {x : Int64} (hn : (i : Nat) + 1 < nL) (hL : zst2 L (i : Nat) (.long x) = L') (hC : CX κ cc own nL ret d) (hd : decode cc pc = .ok (.lstore_n i, 1)) (hq : pc + 1 = q) (k : X κ nL em n cs q L' st M res) : X κ nL em n cs pc L (.long x :: st) M res := by
  subst hq
  obtain ⟨p, l, e, R, s, m, args, below, meth, c, dC, dI, b, mc, ms, n'⟩ := κ
  obtain ⟨hx, hb, hml, hown, hts, hr, hlk, hK, hR, hNs⟩ := hC
  intro r hr0 H locs ls h2 hl
  subst hL
  exact lv_lstore_n hx hb hd rfl hl.has hn rfl (fun ls2 hl2 => k r hr0 H locs ls2 h2 (LH.st2 hl2))
theorem x_aload_n {i : Fin 4} {x : Nat} (hL : L[(i : Nat)]? = some (.ref x)) (hC : CX κ cc own nL ret d) (hd : decode cc pc = .ok (.aload_n i, 1)) (hq : pc + 1 = q) (k : X κ nL em n cs q L (.ref x :: st) M res) : X κ nL em n cs pc L st M res := by
  subst hq
  obtain ⟨p, l, e, R, s, m, args, below, meth, c, dC, dI, b, mc, ms, n'⟩ := κ
  obtain ⟨hx, hb, hml, hown, hts, hr, hlk, hK, hR, hNs⟩ := hC
  intro r hr0 H locs ls h2 hl
  exact lv_aload_n hx hb hd rfl (hl.2.2 _ _ hL (fun h => by cases h)) (k r hr0 H locs ls h2 hl)
theorem x_aload {i : Nat} {x : Nat} (hL : L[i]? = some (.ref x)) (hC : CX κ cc own nL ret d) (hd : decode cc pc = .ok (.aload i, 2)) (hq : pc + 2 = q) (k : X κ nL em n cs q L (.ref x :: st) M res) : X κ nL em n cs pc L st M res := by
  subst hq
  obtain ⟨p, l, e, R, s, m, args, below, meth, c, dC, dI, b, mc, ms, n'⟩ := κ
  obtain ⟨hx, hb, hml, hown, hts, hr, hlk, hK, hR, hNs⟩ := hC
  intro r hr0 H locs ls h2 hl
  exact lv_aload hx hb hd (hl.2.2 _ _ hL (fun h => by cases h)) (k r hr0 H locs ls h2 hl)
theorem x_astore {i : Nat} {L' : List Value} {x : Nat} (hn : i < nL) (hL : zst1 L i (.ref x) = L') (hC : CX κ cc own nL ret d) (hd : decode cc pc = .ok (.astore i, 2)) (hq : pc + 2 = q) (k : X κ nL em n cs q L' st M res) : X κ nL em n cs pc L (.ref x :: st) M res := by
  subst hq
  obtain ⟨p, l, e, R, s, m, args, below, meth, c, dC, dI, b, mc, ms, n'⟩ := κ
  obtain ⟨hx, hb, hml, hown, hts, hr, hlk, hK, hR, hNs⟩ := hC
  intro r hr0 H locs ls h2 hl
  subst hL
  exact lv_astore hx hb hd hl.has hn rfl (fun ls2 hl2 => k r hr0 H locs ls2 h2 (LH.st1 hl2))
theorem x_astore_n {i : Fin 4} {L' : List Value} {x : Nat} (hn : (i : Nat) < nL) (hL : zst1 L (i : Nat) (.ref x) = L') (hC : CX κ cc own nL ret d) (hd : decode cc pc = .ok (.astore_n i, 1)) (hq : pc + 1 = q) (k : X κ nL em n cs q L' st M res) : X κ nL em n cs pc L (.ref x :: st) M res := by
  subst hq
  obtain ⟨p, l, e, R, s, m, args, below, meth, c, dC, dI, b, mc, ms, n'⟩ := κ
  obtain ⟨hx, hb, hml, hown, hts, hr, hlk, hK, hR, hNs⟩ := hC
  intro r hr0 H locs ls h2 hl
  subst hL
  exact lv_astore_n hx hb hd rfl hl.has hn rfl (fun ls2 hl2 => k r hr0 H locs ls2 h2 (LH.st1 hl2))
theorem x_iinc {i : Nat} {z : Int} {L' : List Value} {x v : Int32} (hv : Int32.ofInt z = v) (hi : L[i]? = some (.int x)) (hn : i < nL) (hL : zst1 L i (.int (x + v)) = L') (hC : CX κ cc own nL ret d) (hd : decode cc pc = .ok (.iinc i z, 3)) (hq : pc + 3 = q) (k : X κ nL em n cs q L' st M res) : X κ nL em n cs pc L st M res := by
  subst hq; subst hL; subst hv
  obtain ⟨p, l, e, R, s, m, args, below, meth, c, dC, dI, b, mc, ms, n'⟩ := κ
  obtain ⟨hx, hb, hml, hown, hts, hr, hlk, hK, hR, hNs⟩ := hC
  intro r hr0 H locs ls h2 hl
  obtain ⟨k0, hk0⟩ := List.getElem?_of_mem (zasc_mem (b := b).mpr ⟨_, hi, (fun h => by cases h), rfl⟩)
  exact lv_iinc hx hb hd hl.has hk0 rfl hn rfl (fun ls2 hl2 => k r hr0 H locs ls2 h2 (LH.st1 (x := .int (x + Int32.ofInt z)) hl2))
theorem x_dup {v : Value} (hv : v.category = 1) (hC : CX κ cc own nL ret d) (hd : decode cc pc = .ok (.dup, 1)) (hq : pc + 1 = q) (k : X κ nL em n cs q L (v :: v :: st) M res) : X κ nL em n cs pc L (v :: st) M res := by
  subst hq
  obtain ⟨p, l, e, R, s, m, args, below, meth, c, dC, dI, b, mc, ms, n'⟩ := κ
  obtain ⟨hx, hb, hml, hown, hts, hr, hlk, hK, hR, hNs⟩ := hC
  intro r hr0 H locs ls h2 hl
  exact lv_dup hx hb hd ((zrv_cat b v).trans hv) (k r hr0 H locs ls h2 hl)
theorem x_pop {v : Value} (hv : v.category = 1) (hC : CX κ cc own nL ret d) (hd : decode cc pc = .ok (.pop, 1)) (hq : pc + 1 = q) (k : X κ nL em n cs q L st M res) : X κ nL em n cs pc L (v :: st) M res := by
  subst hq
  obtain ⟨p, l, e, R, s, m, args, below, meth, c, dC, dI, b, mc, ms, n'⟩ := κ
  obtain ⟨hx, hb, hml, hown, hts, hr, hlk, hK, hR, hNs⟩ := hC
  intro r hr0 H locs ls h2 hl
  exact lv_pop hx hb hd ((zrv_cat b v).trans hv) (k r hr0 H locs ls h2 hl)
theorem x_dup2 {v w : Value} (hv : v.category = 1) (hw : w.category = 1) (hC : CX κ cc own nL ret d) (hd : decode cc pc = .ok (.dup2, 1)) (hq : pc + 1 = q) (k : X κ nL em n cs q L (v :: w :: v :: w :: st) M res) : X κ nL em n cs pc L (v :: w :: st) M res := by
  subst hq
  obtain ⟨p, l, e, R, s, m, args, below, meth, c, dC, dI, b, mc, ms, n'⟩ := κ
  obtain ⟨hx, hb, hml, hown, hts, hr, hlk, hK, hR, hNs⟩ := hC
  intro r hr0 H locs ls h2 hl
  exact lv_dup2_11 hx hb hd ((zrv_cat b v).trans hv) ((zrv_cat b w).trans hw) (k r hr0 H locs ls h2 hl)
theorem x_dup2L {v : Value} (hv : v.category = 2) (hC : CX κ cc own nL ret d) (hd : decode cc pc = .ok (.dup2, 1)) (hq : pc + 1 = q) (k : X κ nL em n cs q L (v :: v :: st) M res) : X κ nL em n cs pc L (v :: st) M res := by
  subst hq
  obtain ⟨p, l, e, R, s, m, args, below, meth, c, dC, dI, b, mc, ms, n'⟩ := κ
  obtain ⟨hx, hb, hml, hown, hts, hr, hlk, hK, hR, hNs⟩ := hC
  intro r hr0 H locs ls h2 hl
  exact lv_dup2_2 hx hb hd ((zrv_cat b v).trans hv) (k r hr0 H locs ls h2 hl)
theorem x_icmp_eq {x y : Int32} {off : Int} {tgt : Nat} {A B : Option α} (hC : CX κ cc own nL ret d) (hd : decode cc pc = .ok (.if_icmp .eq off, 3)) (hq : pc + 3 = q) (ht : (pc : Int) + off = (tgt : Int)) (kt : x = y → X κ nL em n cs tgt L st M A) (kf : ¬ (x = y) → X κ nL em n cs q L st M B) : X κ nL em n cs pc L (.int y :: .int x :: st) M (if x = y then A else B) := by
  subst hq
  by_cases h : x = y
  · rw [if_pos h]
    have k := kt h
    obtain ⟨p, l, e, R, s, m, args, below, meth, c, dC, dI, b, mc, ms, n'⟩ := κ
    obtain ⟨hx, hb, hml, hown, hts, hr, hlk, hK, hR, hNs⟩ := hC
    intro r hr0 H locs ls h2 hl
    exact lv_icmp_eq hx hb hd ht (fun _ => (k r hr0 H locs ls h2 hl)) (fun h3 => absurd h h3)
  · rw [if_neg h]
    have k := kf h
    obtain ⟨p, l, e, R, s, m, args, below, meth, c, dC, dI, b, mc, ms, n'⟩ := κ
    obtain ⟨hx, hb, hml, hown, hts, hr, hlk, hK, hR, hNs⟩ := hC
    intro r hr0 H locs ls h2 hl
    exact lv_icmp_eq hx hb hd ht (fun h3 => absurd h3 h) (fun _ => (k r hr0 H locs ls h2 hl))
theorem x_icmp_ne {x y : Int32} {off : Int} {tgt : Nat} {A B : Option α} (hC : CX κ cc own nL ret d) (hd : decode cc pc = .ok (.if_icmp .ne off, 3)) (hq : pc + 3 = q) (ht : (pc : Int) + off = (tgt : Int)) (kt : ¬ (x = y) → X κ nL em n cs tgt L st M B) (kf : x = y → X κ nL em n cs q L st M A) : X κ nL em n cs pc L (.int y :: .int x :: st) M (if x = y then A else B) := by
  subst hq
  by_cases h : x = y
  · rw [if_pos h]
    have k := kf h
    obtain ⟨p, l, e, R, s, m, args, below, meth, c, dC, dI, b, mc, ms, n'⟩ := κ
    obtain ⟨hx, hb, hml, hown, hts, hr, hlk, hK, hR, hNs⟩ := hC
    intro r hr0 H locs ls h2 hl
    exact lv_icmp_ne hx hb hd ht (fun h3 => absurd h h3) (fun _ => (k r hr0 H locs ls h2 hl))
  · rw [if_neg h]
    have k := kt h
    obtain ⟨p, l, e, R, s, m, args, below, meth, c, dC, dI, b, mc, ms, n'⟩ := κ
    obtain ⟨hx, hb, hml, hown, hts, hr, hlk, hK, hR, hNs⟩ := hC
    intro r hr0 H locs ls h2 hl
    exact lv_icmp_ne hx hb hd ht (fun _ => (k r hr0 H locs ls h2 hl)) (fun h3 => absurd h3 h)
theorem x_icmp_lt {x y : Int32} {off : Int} {tgt : Nat} {A B : Option α} (hC : CX κ cc own nL ret d) (hd : decode cc pc = .ok (.if_icmp .lt off, 3)) (hq : pc + 3 = q) (ht : (pc : Int) + off = (tgt : Int)) (kt : x < y → X κ nL em n cs tgt L st M A) (kf : ¬ (x < y) → X κ nL em n cs q L st M B) : X κ nL em n cs pc L (.int y :: .int x :: st) M (if x < y then A else B) := by
  subst hq
  by_cases h : x < y
  · rw [if_pos h]
    have k := kt h
    obtain ⟨p, l, e, R, s, m, args, below, meth, c, dC, dI, b, mc, ms, n'⟩ := κ
    obtain ⟨hx, hb, hml, hown, hts, hr, hlk, hK, hR, hNs⟩ := hC
    intro r hr0 H locs ls h2 hl
    exact lv_icmp_lt hx hb hd ht (fun _ => (k r hr0 H locs ls h2 hl)) (fun h3 => absurd h h3)
  · rw [if_neg h]
    have k := kf h
    obtain ⟨p, l, e, R, s, m, args, below, meth, c, dC, dI, b, mc, ms, n'⟩ := κ
    obtain ⟨hx, hb, hml, hown, hts, hr, hlk, hK, hR, hNs⟩ := hC
    intro r hr0 H locs ls h2 hl
    exact lv_icmp_lt hx hb hd ht (fun h3 => absurd h3 h) (fun _ => (k r hr0 H locs ls h2 hl))
theorem x_icmp_ge {x y : Int32} {off : Int} {tgt : Nat} {A B : Option α} (hC : CX κ cc own nL ret d) (hd : decode cc pc = .ok (.if_icmp .ge off, 3)) (hq : pc + 3 = q) (ht : (pc : Int) + off = (tgt : Int)) (kt : y ≤ x → X κ nL em n cs tgt L st M A) (kf : ¬ (y ≤ x) → X κ nL em n cs q L st M B) : X κ nL em n cs pc L (.int y :: .int x :: st) M (if y ≤ x then A else B) := by
  subst hq
  by_cases h : y ≤ x
  · rw [if_pos h]
    have k := kt h
    obtain ⟨p, l, e, R, s, m, args, below, meth, c, dC, dI, b, mc, ms, n'⟩ := κ
    obtain ⟨hx, hb, hml, hown, hts, hr, hlk, hK, hR, hNs⟩ := hC
    intro r hr0 H locs ls h2 hl
    exact lv_icmp_ge hx hb hd ht (fun _ => (k r hr0 H locs ls h2 hl)) (fun h3 => absurd h h3)
  · rw [if_neg h]
    have k := kf h
    obtain ⟨p, l, e, R, s, m, args, below, meth, c, dC, dI, b, mc, ms, n'⟩ := κ
    obtain ⟨hx, hb, hml, hown, hts, hr, hlk, hK, hR, hNs⟩ := hC
    intro r hr0 H locs ls h2 hl
    exact lv_icmp_ge hx hb hd ht (fun h3 => absurd h3 h) (fun _ => (k r hr0 H locs ls h2 hl))
theorem x_icmp_gt {x y : Int32} {off : Int} {tgt : Nat} {A B : Option α} (hC : CX κ cc own nL ret d) (hd : decode cc pc = .ok (.if_icmp .gt off, 3)) (hq : pc + 3 = q) (ht : (pc : Int) + off = (tgt : Int)) (kt : y < x → X κ nL em n cs tgt L st M A) (kf : ¬ (y < x) → X κ nL em n cs q L st M B) : X κ nL em n cs pc L (.int y :: .int x :: st) M (if y < x then A else B) := by
  subst hq
  by_cases h : y < x
  · rw [if_pos h]
    have k := kt h
    obtain ⟨p, l, e, R, s, m, args, below, meth, c, dC, dI, b, mc, ms, n'⟩ := κ
    obtain ⟨hx, hb, hml, hown, hts, hr, hlk, hK, hR, hNs⟩ := hC
    intro r hr0 H locs ls h2 hl
    exact lv_icmp_gt hx hb hd ht (fun _ => (k r hr0 H locs ls h2 hl)) (fun h3 => absurd h h3)
  · rw [if_neg h]
    have k := kf h
    obtain ⟨p, l, e, R, s, m, args, below, meth, c, dC, dI, b, mc, ms, n'⟩ := κ
    obtain ⟨hx, hb, hml, hown, hts, hr, hlk, hK, hR, hNs⟩ := hC
    intro r hr0 H locs ls h2 hl
    exact lv_icmp_gt hx hb hd ht (fun h3 => absurd h3 h) (fun _ => (k r hr0 H locs ls h2 hl))
theorem x_icmp_le {x y : Int32} {off : Int} {tgt : Nat} {A B : Option α} (hC : CX κ cc own nL ret d) (hd : decode cc pc = .ok (.if_icmp .le off, 3)) (hq : pc + 3 = q) (ht : (pc : Int) + off = (tgt : Int)) (kt : x ≤ y → X κ nL em n cs tgt L st M A) (kf : ¬ (x ≤ y) → X κ nL em n cs q L st M B) : X κ nL em n cs pc L (.int y :: .int x :: st) M (if x ≤ y then A else B) := by
  subst hq
  by_cases h : x ≤ y
  · rw [if_pos h]
    have k := kt h
    obtain ⟨p, l, e, R, s, m, args, below, meth, c, dC, dI, b, mc, ms, n'⟩ := κ
    obtain ⟨hx, hb, hml, hown, hts, hr, hlk, hK, hR, hNs⟩ := hC
    intro r hr0 H locs ls h2 hl
    exact lv_icmp_le hx hb hd ht (fun _ => (k r hr0 H locs ls h2 hl)) (fun h3 => absurd h h3)
  · rw [if_neg h]
    have k := kf h
    obtain ⟨p, l, e, R, s, m, args, below, meth, c, dC, dI, b, mc, ms, n'⟩ := κ
    obtain ⟨hx, hb, hml, hown, hts, hr, hlk, hK, hR, hNs⟩ := hC
    intro r hr0 H locs ls h2 hl
    exact lv_icmp_le hx hb hd ht (fun h3 => absurd h3 h) (fun _ => (k r hr0 H locs ls h2 hl))
theorem x_if_eq {x : Int32} {off : Int} {tgt : Nat} {A B : Option α} (hC : CX κ cc own nL ret d) (hd : decode cc pc = .ok (.ifCond .eq off, 3)) (hq : pc + 3 = q) (ht : (pc : Int) + off = (tgt : Int)) (kt : x = 0 → X κ nL em n cs tgt L st M A) (kf : ¬ (x = 0) → X κ nL em n cs q L st M B) : X κ nL em n cs pc L (.int x :: st) M (if x = 0 then A else B) := by
  subst hq
  by_cases h : x = 0
  · rw [if_pos h]
    have k := kt h
    obtain ⟨p, l, e, R, s, m, args, below, meth, c, dC, dI, b, mc, ms, n'⟩ := κ
    obtain ⟨hx, hb, hml, hown, hts, hr, hlk, hK, hR, hNs⟩ := hC
    intro r hr0 H locs ls h2 hl
    exact lv_if_eq hx hb hd ht (fun _ => (k r hr0 H locs ls h2 hl)) (fun h3 => absurd h h3)
  · rw [if_neg h]
    have k := kf h
    obtain ⟨p, l, e, R, s, m, args, below, meth, c, dC, dI, b, mc, ms, n'⟩ := κ
    obtain ⟨hx, hb, hml, hown, hts, hr, hlk, hK, hR, hNs⟩ := hC
    intro r hr0 H locs ls h2 hl
    exact lv_if_eq hx hb hd ht (fun h3 => absurd h3 h) (fun _ => (k r hr0 H locs ls h2 hl))
theorem x_if_ne {x : Int32} {off : Int} {tgt : Nat} {A B : Option α} (hC : CX κ cc own nL ret d) (hd : decode cc pc = .ok (.ifCond .ne off, 3)) (hq : pc + 3 = q) (ht : (pc : Int) + off = (tgt : Int)) (kt : ¬ (x = 0) → X κ nL em n cs tgt L st M B) (kf : x = 0 → X κ nL em n cs q L st M A) : X κ nL em n cs pc L (.int x :: st) M (if x = 0 then A else B) := by
  subst hq
  by_cases h : x = 0
  · rw [if_pos h]
    have k := kf h
    obtain ⟨p, l, e, R, s, m, args, below, meth, c, dC, dI, b, mc, ms, n'⟩ := κ
    obtain ⟨hx, hb, hml, hown, hts, hr, hlk, hK, hR, hNs⟩ := hC
    intro r hr0 H locs ls h2 hl
    exact lv_if_ne hx hb hd ht (fun h3 => absurd h h3) (fun _ => (k r hr0 H locs ls h2 hl))
  · rw [if_neg h]
    have k := kt h
    obtain ⟨p, l, e, R, s, m, args, below, meth, c, dC, dI, b, mc, ms, n'⟩ := κ
    obtain ⟨hx, hb, hml, hown, hts, hr, hlk, hK, hR, hNs⟩ := hC
    intro r hr0 H locs ls h2 hl
    exact lv_if_ne hx hb hd ht (fun _ => (k r hr0 H locs ls h2 hl)) (fun h3 => absurd h3 h)
theorem x_if_lt {x : Int32} {off : Int} {tgt : Nat} {A B : Option α} (hC : CX κ cc own nL ret d) (hd : decode cc pc = .ok (.ifCond .lt off, 3)) (hq : pc + 3 = q) (ht : (pc : Int) + off = (tgt : Int)) (kt : x < 0 → X κ nL em n cs tgt L st M A) (kf : ¬ (x < 0) → X κ nL em n cs q L st M B) : X κ nL em n cs pc L (.int x :: st) M (if x < 0 then A else B) := by
  subst hq
  by_cases h : x < 0
  · rw [if_pos h]
    have k := kt h
    obtain ⟨p, l, e, R, s, m, args, below, meth, c, dC, dI, b, mc, ms, n'⟩ := κ
    obtain ⟨hx, hb, hml, hown, hts, hr, hlk, hK, hR, hNs⟩ := hC
    intro r hr0 H locs ls h2 hl
    exact lv_if_lt hx hb hd ht (fun _ => (k r hr0 H locs ls h2 hl)) (fun h3 => absurd h h3)
  · rw [if_neg h]
    have k := kf h
    obtain ⟨p, l, e, R, s, m, args, below, meth, c, dC, dI, b, mc, ms, n'⟩ := κ
    obtain ⟨hx, hb, hml, hown, hts, hr, hlk, hK, hR, hNs⟩ := hC
    intro r hr0 H locs ls h2 hl
    exact lv_if_lt hx hb hd ht (fun h3 => absurd h3 h) (fun _ => (k r hr0 H locs ls h2 hl))
theorem x_if_ge {x : Int32} {off : Int} {tgt : Nat} {A B : Option α} (hC : CX κ cc own nL ret d) (hd : decode cc pc = .ok (.ifCond .ge off, 3)) (hq : pc + 3 = q) (ht : (pc : Int) + off = (tgt : Int)) (kt : 0 ≤ x → X κ nL em n cs tgt L st M A) (kf : ¬ (0 ≤ x) → X κ nL em n cs q L st M B) : X κ nL em n cs pc L (.int x :: st) M (if 0 ≤ x then A else B) := by
  subst hq
  by_cases h : 0 ≤ x
  · rw [if_pos h]
    have k := kt h
    obtain ⟨p, l, e, R, s, m, args, below, meth, c, dC, dI, b, mc, ms, n'⟩ := κ
    obtain ⟨hx, hb, hml, hown, hts, hr, hlk, hK, hR, hNs⟩ := hC
    intro r hr0 H locs ls h2 hl
    exact lv_if_ge hx hb hd ht (fun _ => (k r hr0 H locs ls h2 hl)) (fun h3 => absurd h h3)
  · rw [if_neg h]
    have k := kf h
    obtain ⟨p, l, e, R, s, m, args, below, meth, c, dC, dI, b, mc, ms, n'⟩ := κ
    obtain ⟨hx, hb, hml, hown, hts, hr, hlk, hK, hR, hNs⟩ := hC
    intro r hr0 H locs ls h2 hl
    exact lv_if_ge hx hb hd ht (fun h3 => absurd h3 h) (fun _ => (k r hr0 H locs ls h2 hl))
theorem x_if_gt {x : Int32} {off : Int} {tgt : Nat} {A B : Option α} (hC : CX κ cc own nL ret d) (hd : decode cc pc = .ok (.ifCond .gt off, 3)) (hq : pc + 3 = q) (ht : (pc : Int) + off = (tgt : Int)) (kt : 0 < x → X κ nL em n cs tgt L st M A) (kf : ¬ (0 < x) → X κ nL em n cs q L st M B) : X κ nL em n cs pc L (.int x :: st) M (if 0 < x then A else B) := by
  subst hq
  by_cases h : 0 < x
  · rw [if_pos h]
    have k := kt h
    obtain ⟨p, l, e, R, s, m, args, below, meth, c, dC, dI, b, mc, ms, n'⟩ := κ
    obtain ⟨hx, hb, hml, hown, hts, hr, hlk, hK, hR, hNs⟩ := hC
    intro r hr0 H locs ls h2 hl
    exact lv_if_gt hx hb hd ht (fun _ => (k r hr0 H locs ls h2 hl)) (fun h3 => absurd h h3)
  · rw [if_neg h]
    have k := kf h
    obtain ⟨p, l, e, R, s, m, args, below, meth, c, dC, dI, b, mc, ms, n'⟩ := κ
    obtain ⟨hx, hb, hml, hown, hts, hr, hlk, hK, hR, hNs⟩ := hC
    intro r hr0 H locs ls h2 hl
    exact lv_if_gt hx hb hd ht (fun h3 => absurd h3 h) (fun _ => (k r hr0 H locs ls h2 hl))
theorem x_if_le {x : Int32} {off : Int} {tgt : Nat} {A B : Option α} (hC : CX κ cc own nL ret d) (hd : decode cc pc = .ok (.ifCond .le off, 3)) (hq : pc + 3 = q) (ht : (pc : Int) + off = (tgt : Int)) (kt : x ≤ 0 → X κ nL em n cs tgt L st M A) (kf : ¬ (x ≤ 0) → X κ nL em n cs q L st M B) : X κ nL em n cs pc L (.int x :: st) M (if x ≤ 0 then A else B) := by
  subst hq
  by_cases h : x ≤ 0
  · rw [if_pos h]
    have k := kt h
    obtain ⟨p, l, e, R, s, m, args, below, meth, c, dC, dI, b, mc, ms, n'⟩ := κ
    obtain ⟨hx, hb, hml, hown, hts, hr, hlk, hK, hR, hNs⟩ := hC
    intro r hr0 H locs ls h2 hl
    exact lv_if_le hx hb hd ht (fun _ => (k r hr0 H locs ls h2 hl)) (fun h3 => absurd h h3)
  · rw [if_neg h]
    have k := kf h
    obtain ⟨p, l, e, R, s, m, args, below, meth, c, dC, dI, b, mc, ms, n'⟩ := κ
    obtain ⟨hx, hb, hml, hown, hts, hr, hlk, hK, hR, hNs⟩ := hC
    intro r hr0 H locs ls h2 hl
    exact lv_if_le hx hb hd ht (fun h3 => absurd h3 h) (fun _ => (k r hr0 H locs ls h2 hl))
theorem x_goto {off : Int} {tgt : Nat} (hC : CX κ cc own nL ret d) (hd : decode cc pc = .ok (.goto off, 3)) (ht : (pc : Int) + off = (tgt : Int)) (k : X κ nL em n cs tgt L st M res) : X κ nL em n cs pc L st M res := by
  obtain ⟨p, l, e, R, s, m, args, below, meth, c, dC, dI, b, mc, ms, n'⟩ := κ
  obtain ⟨hx, hb, hml, hown, hts, hr, hlk, hK, hR, hNs⟩ := hC
  intro r hr0 H locs ls h2 hl
  exact lv_goto hx hb hd ht (k r hr0 H locs ls h2 hl)
theorem x_tsIn {x v : Int32} {dflt lo hi : Int} {offs : Array Int} {len : Nat} {off : Int} {tgt : Nat} {A B : Option α} (hC : CX κ cc own nL ret d) (hd : decode cc pc = .ok (.tableswitch dflt lo hi offs, len)) (hc : (¬ v.toInt < lo ∧ ¬ hi < v.toInt) ∧ offs[(v.toInt - lo).toNat]? = some off ∧ (pc : Int) + off = (tgt : Int)) (k : X κ nL em n cs tgt L st M A) (kf : ¬ x = v → X κ nL em n cs pc L (.int x :: st) M B) : X κ nL em n cs pc L (.int x :: st) M (if x = v then A else B) := by
  by_cases h : x = v
  · rw [if_pos h]
    subst h
    obtain ⟨p, l, e, R, s, m, args, below, meth, c, dC, dI, b, mc, ms, n'⟩ := κ
    obtain ⟨hx, hb, hml, hown, hts, hr, hlk, hK, hR, hNs⟩ := hC
    intro r hr0 H locs ls h2 hl
    exact lv_tableIn hx hb hd hc.1.1 hc.1.2 hc.2.1 hc.2.2 (k r hr0 H locs ls h2 hl)
  · rw [if_neg h]
    exact kf h
theorem x_tsOut {x : Int32} {dflt lo hi : Int} {offs : Array Int} {len tgt : Nat} (vs : List Int32) (hC : CX κ cc own nL ret d) (hd : decode cc pc = .ok (.tableswitch dflt lo hi offs, len)) (hv : ∀ v ∈ vs, x ≠ v) (hc : (List.range (hi - lo + 1).toNat).all (fun j => decide (vs[j]? = some (Int32.ofInt (lo + j))) && decide ((Int32.ofInt (lo + j)).toInt = lo + j)) = true) (ht : (pc : Int) + dflt = (tgt : Int)) (k : X κ nL em n cs tgt L st M res) : X κ nL em n cs pc L (.int x :: st) M res := by
  obtain ⟨p, l, e, R, s, m, args, below, meth, c, dC, dI, b, mc, ms, n'⟩ := κ
  obtain ⟨hx, hb, hml, hown, hts, hr, hlk, hK, hR, hNs⟩ := hC
  intro r hr0 H locs ls h2 hl
  refine lv_tableOut hx hb hd ?_ ht (k r hr0 H locs ls h2 hl)
  by_cases h1 : x.toInt < lo
  · exact Or.inl h1
  · by_cases h3 : hi < x.toInt
    · exact Or.inr h3
    · exfalso
      have hj := List.all_eq_true.mp hc (x.toInt - lo).toNat (List.mem_range.mpr (by omega))
      simp only [Bool.and_eq_true, decide_eq_true_eq] at hj
      have he : lo + ((x.toInt - lo).toNat : Int) = x.toInt := by omega
      rw [he] at hj
      refine hv _ (List.mem_of_getElem? hj.1) ?_
      exact (Int32.toInt_inj.mp hj.2).symm
theorem x_lookup {x : Int32} {dflt : Int} {ps : Array (Int × Int)} {len : Nat} {v : Int32} {off : Int} {tgt : Nat} {A B : Option α} (hC : CX κ cc own nL ret d) (hd : decode cc pc = .ok (.lookupswitch dflt ps, len)) (hc : (ps.toList.zip (ps.toList.drop 1)).all (fun (a, next) => a.1 < next.1) = true ∧ Op.lookupswitch.offset ps.toList dflt v.toInt = off ∧ (pc : Int) + off = (tgt : Int)) (k : X κ nL em n cs tgt L st M A) (kf : ¬ x = v → X κ nL em n cs pc L (.int x :: st) M B) : X κ nL em n cs pc L (.int x :: st) M (if x = v then A else B) := by
  by_cases h : x = v
  · rw [if_pos h]
    subst h
    obtain ⟨p, l, e, R, s, m, args, below, meth, c, dC, dI, b, mc, ms, n'⟩ := κ
    obtain ⟨hx, hb, hml, hown, hts, hr, hlk, hK, hR, hNs⟩ := hC
    intro r hr0 H locs ls h2 hl
    exact lv_lookup hx hb hd hc.1 hc.2.1 hc.2.2 (k r hr0 H locs ls h2 hl)
  · rw [if_neg h]
    exact kf h
theorem x_lookupD {x : Int32} {dflt : Int} {ps : Array (Int × Int)} {len : Nat} {tgt : Nat} (hC : CX κ cc own nL ret d) (hd : decode cc pc = .ok (.lookupswitch dflt ps, len)) (hc : (ps.toList.zip (ps.toList.drop 1)).all (fun (a, next) => a.1 < next.1) = true ∧ Op.lookupswitch.offset ps.toList dflt x.toInt = dflt) (ht : (pc : Int) + dflt = (tgt : Int)) (k : X κ nL em n cs tgt L st M res) : X κ nL em n cs pc L (.int x :: st) M res := by
  obtain ⟨p, l, e, R, s, m, args, below, meth, c, dC, dI, b, mc, ms, n'⟩ := κ
  obtain ⟨hx, hb, hml, hown, hts, hr, hlk, hK, hR, hNs⟩ := hC
  intro r hr0 H locs ls h2 hl
  exact lv_lookup hx hb hd hc.1 hc.2 ht (k r hr0 H locs ls h2 hl)
theorem x_none : X κ nL em n cs pc L st M none := fun r hr => by cases hr
end
end
section
/-! fields and arrays -/
theorem zad_lt {b : zSg} {n a : Nat} (ha : a < n) (hn : n ≤ 1000000) : zad b a = b.1 + a := if_pos (Nat.lt_of_lt_of_le ha hn)
theorem zup_self {α : Type} (f : Nat → α) (k : Nat) (v : α) : zup f k v k = v := if_pos rfl
theorem zup_ne {α : Type} (f : Nat → α) {k j : Nat} (v : α) (h : j ≠ k) : zup f k v j = f j := if_neg h
def zOff (M M' : Mem) (a : Nat) : Prop := ∀ a', a' ≠ a → zI M' a' = zI M a' ∧ zL M' a' = zL M a' ∧ zR M' a' = zR M a'
theorem zOff_wI (M : Mem) (a : Nat) (f : Nat → Int32) : zOff M (zwI M a f) a := fun _ h => ⟨zup_ne _ _ h, rfl, rfl⟩
theorem zOff_wL (M : Mem) (a : Nat) (f : Nat → Int64) : zOff M (zwL M a f) a := fun _ h => ⟨rfl, zup_ne _ _ h, rfl⟩
theorem zOff_wR (M : Mem) (a : Nat) (f : Nat → Nat) : zOff M (zwR M a f) a := fun _ h => ⟨rfl, rfl, zup_ne _ _ h⟩
theorem zOff.tr {M M1 M2 : Mem} {a : Nat} (h : zOff M M1 a) (h2 : zOff M1 M2 a) : zOff M M2 a := fun a' ha => ⟨(h2 a' ha).1.trans (h a' ha).1, (h2 a' ha).2.1.trans (h a' ha).2.1, (h2 a' ha).2.2.trans (h a' ha).2.2⟩
theorem zOff_new (M : Mem) (a : Nat) : zOff M (znew M a) a := ((zOff_wI M a _).tr (zOff_wL _ a _)).tr (zOff_wR _ a _)
theorem zva_congr {b : zSg} {M M' : Mem} {a : Nat} (hI : zI M' a = zI M a) (hL : zL M' a = zL M a) (hR : zR M' a = zR M a) (ty : FieldType) (j : Nat) : zva b M' ty a j = zva b M ty a j := by
  unfold zva; rw [hI, hL, hR]
theorem zCell.kept {dC : Nat → ClassId} {dI : Nat → Nat → Nat} {s : State} {b : zSg} {M M' : Mem} {H H' : Heap} {a : Nat} (h : zCell dC dI s b M H a) (hH : H'[b.1 + a]? = H[b.1 + a]?) (hI : zI M' a = zI M a) (hL : zL M' a = zL M a) (hR : zR M' a = zR M a) : zCell dC dI s b M' H' a := by
  unfold zCell at h ⊢
  by_cases hk : (zSH a).1 < 13
  · rw [if_pos hk] at h ⊢
    exact (h.kept hH).to (fun j _ => (zva_congr hI hL hR _ j).symm)
  · rw [if_neg hk] at h ⊢
    obtain ⟨cA, h1, h2, h3⟩ := h
    refine ⟨cA, h1, h2, ?_⟩
    rw [hH, h3]
    congr 2
    funext j
    exact (zva_congr hI hL hR _ j).symm
theorem zCell.moved {dC : Nat → ClassId} {dI : Nat → Nat → Nat} {s t : State} {b : zSg} {M : Mem} {H : Heap} {a : Nat} (hvm : s.vm.Alike t.vm) (h : zCell dC dI s b M H a) : zCell dC dI t b M H a := by
  unfold zCell at h ⊢
  by_cases hk : (zSH a).1 < 13
  · rw [if_pos hk] at h ⊢; exact h
  · rw [if_neg hk] at h ⊢
    obtain ⟨cA, h1, h2, h3⟩ := h
    exact ⟨cA, arrOfT_moved hvm h1, h2.moved hvm, h3⟩
theorem zRL.moved {dC : Nat → ClassId} {dI : Nat → Nat → Nat} {s t : State} {b : zSg} {n : Nat} {M : Mem} {H : Heap} (hvm : s.vm.Alike t.vm) (h : zRL dC dI b s n M H) : zRL dC dI b t n M H := ⟨h.1, h.2.1, fun a ha => (h.2.2.1 a ha).moved hvm, h.2.2.2⟩
theorem zRL.upd {dC : Nat → ClassId} {dI : Nat → Nat → Nat} {s : State} {b : zSg} {n a : Nat} {M M' : Mem} {H H' : Heap} (h : zRL dC dI b s n M H) (hsz : H'.size = H.size) (ho : ∀ q, q ≠ b.1 + a → H'[q]? = H[q]?) (hM : zOff M M' a) (hc : zCell dC dI s b M' H' a) (hw : zWT n M') : zRL dC dI b s n M' H' := by
  refine ⟨hsz.trans h.1, h.2.1, fun a' ha' => ?_, hw⟩
  by_cases e : a' = a
  · subst e; exact hc
  · exact (h.2.2.1 a' ha').kept (ho _ (by omega)) (hM a' e).1 (hM a' e).2.1 (hM a' e).2.2
theorem zWT.I {n : Nat} {M : Mem} (h : zWT n M) (a : Nat) (f : Nat → Int32) : zWT n (zwI M a f) := h
theorem zWT.L {n : Nat} {M : Mem} (h : zWT n M) (a : Nat) (f : Nat → Int64) : zWT n (zwL M a f) := h
theorem zWT.R {n : Nat} {M : Mem} (h : zWT n M) (a j : Nat) (q : Nat) (hq : zO n q (zKd (zSH a).1 j)) : zWT n (zsR M a j (q + 1)) := by
  intro a' ha' j' hne
  by_cases e : a' = a
  · subst e
    by_cases e2 : j' = j
    · subst e2
      have : zR (zsR M a' j' (q + 1)) a' j' = q + 1 := by
        show (zup M.2.2 a' (zup (zR M a') j' (q + 1))) a' j' = q + 1
        rw [zup_self, zup_self]
      rw [this]; exact hq
    · have : zR (zsR M a' j (q + 1)) a' j' = zR M a' j' := by
        show (zup M.2.2 a' (zup (zR M a') j (q + 1))) a' j' = _
        rw [zup_self, zup_ne _ _ e2]
      rw [this] at hne ⊢; exact h a' ha' j' hne
  · have : zR (zsR M a j (q + 1)) a' = zR M a' := zup_ne _ _ e
    rw [this] at hne ⊢; exact h a' ha' j' hne
/-- a field's link: of the class own, its entry i is the field j of the class c, of kind k -/
def zFL (own : String) (i c j k : Nat) : Prop := (c < 13 ∧ j < zN c ∧ zvk (zTy c j) = k) ∧ Cond.fieldLink own i (zT c j).1 (zT c j).2.1 (zT c j).2.2.1 ∈ zTb
section
variable {p : Program} {l : Launch} {e : Env} {R : Room} {s : State} {m : MethodId} {args : Array Value} {below : List Frame} {meth : Method} {c : Code} {H : Heap} {locs : List Loc} {cells slots : Nat} {Q : State → Prop} {dC : Nat → ClassId} {dI : Nat → Nat → Nat} {b : zSg} {n : Nat} {M : Mem} {cc : ByteArray} {own : String} {pc : Nat} {ls : Array Slot} {rest : List Value}
theorem zObj {a ci : Nat} (h : zCell dC dI s b M H a) (hc : ci < 13) (ho : (zSH a).1 = ci) : t_OB (b.1 + a) (dC ci) (zN ci) (dI ci) H (fun j => zva b M (zTy ci j) a j) := by
  subst ho
  unfold zCell at h
  rwa [if_pos hc] at h
theorem zObj' {a ci : Nat} (h : t_OB (b.1 + a) (dC ci) (zN ci) (dI ci) H (fun j => zva b M (zTy ci j) a j)) (hc : ci < 13) (ho : (zSH a).1 = ci) : zCell dC dI s b M H a := by
  subst ho
  unfold zCell
  rwa [if_pos hc]
theorem zArr {a k N : Nat} (h : zCell dC dI s b M H a) (hc : ¬ k < 13) (ho : (zSH a).1 = k) (hN : (zSH a).2 = N) : ∃ cA : ClassId, ArrOfT s cA (zAT k) ∧ va_RA s cA (zAT k) ∧ H[b.1 + a]? = some (arrV cA N (fun j => zva b M (zAT k) a j)) := by
  subst ho; subst hN
  unfold zCell at h
  rwa [if_neg hc] at h
theorem zArr' {a k N : Nat} (h : ∃ cA : ClassId, ArrOfT s cA (zAT k) ∧ va_RA s cA (zAT k) ∧ H[b.1 + a]? = some (arrV cA N (fun j => zva b M (zAT k) a j))) (hc : ¬ k < 13) (ho : (zSH a).1 = k) (hN : (zSH a).2 = N) : zCell dC dI s b M H a := by
  subst ho; subst hN
  unfold zCell
  rwa [if_neg hc]
theorem zgetW {a ci i j k : Nat} (hx : p.tables.exec = Jvm.exec) (hb : c.code = cc) (hts : ∀ w ∈ zTb, w.before args s = true) (hown : s.vm.findClass own = some m.cls) (hK : va_K (dC, dI) zCl [] s) (hf : zFL own i ci j k) (h : t_OB (b.1 + a) (dC ci) (zN ci) (dI ci) H (fun j => zva b M (zTy ci j) a j)) (hd : decode cc pc = .ok (.getfield i, 3))
    (kk : W p l e R s m args below meth c H locs cells slots Q (F0 m (pc + 3) ls (zva b M (zTy ci j) a j :: rest))) : W p l e R s m args below meth c H locs cells slots Q (F0 m pc ls (.ref (b.1 + a) :: rest)) := by
  obtain ⟨⟨hc, hj, -⟩, hl⟩ := hf
  obtain ⟨cell, q1, q2, q3, q4⟩ := h
  obtain ⟨hS, hfc, kC, hkC, hkind⟩ := hK.1 ci _ (zCl_at ci hc)
  obtain ⟨cf, kf, fi, f, hi, hsl⟩ := hS j hj
  refine W.getf hx hb hown (hts _ hl) hi (u_facts hfc hkC (u_lays hts (zIn ci hc) hj) hi).1 q1 (by rw [q3]; exact fun h => by cases h) (v := zva b M (zTy ci j) a j) ?_ rfl rfl hd kk
  rw [hsl]
  exact q4 j hj
theorem zputW {a ci i j k : Nat} {v : Value} {V' : Nat → Value} (hx : p.tables.exec = Jvm.exec) (hb : c.code = cc) (hts : ∀ w ∈ zTb, w.before args s = true) (hown : s.vm.findClass own = some m.cls) (hK : va_K (dC, dI) zCl [] s) (hf : zFL own i ci j k) (hfin : (zT ci j).2.2.2 = false ∨ (meth.name = "<init>" ∧ (zT ci j).1 = own)) (h : t_OB (b.1 + a) (dC ci) (zN ci) (dI ci) H (fun j => zva b M (zTy ci j) a j)) (hn : narrow (zTy ci j) v = v) (hfit : fits (zTy ci j) v = true) (hV : ∀ j', updV (fun j => zva b M (zTy ci j) a j) j v j' = V' j') (hd : decode cc pc = .ok (.putfield i, 3))
    (kk : ∀ (H' : Heap) (lo : Loc), lo.base = b.1 + a → t_OB (b.1 + a) (dC ci) (zN ci) (dI ci) H' V' → H'.size = H.size → (∀ q, q ≠ b.1 + a → H'[q]? = H[q]?) → W p l e R s m args below meth c H' (locs ++ [lo]) cells slots Q (F0 m (pc + 3) ls rest)) : W p l e R s m args below meth c H locs cells slots Q (F0 m pc ls (v :: .ref (b.1 + a) :: rest)) := by
  obtain ⟨⟨hc, hj, -⟩, hl⟩ := hf
  have hap := va_apart (own := own) hts (zIn ci hc) (zTy ci) (zTyOk ci hc) (zNmOk ci hc) hK (zCl_at ci hc)
  obtain ⟨cell, q1, q2, q3, q4⟩ := h
  obtain ⟨hS, hfc, kC, hkC, hkind⟩ := hK.1 ci _ (zCl_at ci hc)
  obtain ⟨cf, kf, fi, f, hi, hsl⟩ := hS j hj
  have hlay := hts _ (zIn ci hc _ (u_in_lay hj))
  unfold u_lay at hlay
  have hst := (u_facts hfc hkC (u_lays hts (zIn ci hc) hj) hi).1
  have hlt : f.slot < cell.slots.size := by rw [hsl]; exact k2_hasslot (q4 j hj)
  rcases hfin with hfin | ⟨hin, hdecl⟩
  · rw [if_neg (by rw [hfin]; decide)] at hlay
    have h6 := u_store hfc hkC hkind hlay hi (zTyOk ci hc j hj) hn hfit
    refine W.putK hx hb (f := f) ⟨hown, hts _ hl, ⟨_, _, _, hi⟩, hst⟩ (by rw [q2]; exact h6) q1 q3 hlt rfl rfl hd fun H' e1 e2 e3 => ?_
    rw [hsl] at e1
    exact kk H' _ rfl (t_OB.to ⟨_, e1, q2, q3, t_set q4 hap hj v⟩ (fun j' _ => hV j')) e2 e3
  · by_cases hfin : (zT ci j).2.2.2 = true
    · rw [if_pos hfin] at hlay
      have hcf : m.cls = cf := by
        obtain ⟨_, _, c', _, _, _, -, -, hf', -, -, -, hown2, -⟩ := Cond.laysFinal_spec hlay
        have e1 : c' = cf := by have := hi.symm.trans hf'; simp at this; exact this.1.symm
        rw [hdecl] at hown2
        rw [← e1]; exact Option.some.inj (hown.symm.trans hown2)
      have h6 := u_fits hfc hkC hkind (Or.inr hlay) hi (zTyOk ci hc j hj) hn hfit
      refine W.putFinK hx hb hown (hts _ hl) hi hst hcf hin (by rw [q2]; exact h6) q1 q3 hlt rfl rfl hd fun H' e1 e2 e3 => ?_
      rw [hsl] at e1
      exact kk H' _ rfl (t_OB.to ⟨_, e1, q2, q3, t_set q4 hap hj v⟩ (fun j' _ => hV j')) e2 e3
    · rw [if_neg hfin] at hlay
      have h6 := u_store hfc hkC hkind hlay hi (zTyOk ci hc j hj) hn hfit
      refine W.putK hx hb (f := f) ⟨hown, hts _ hl, ⟨_, _, _, hi⟩, hst⟩ (by rw [q2]; exact h6) q1 q3 hlt rfl rfl hd fun H' e1 e2 e3 => ?_
      rw [hsl] at e1
      exact kk H' _ rfl (t_OB.to ⟨_, e1, q2, q3, t_set q4 hap hj v⟩ (fun j' _ => hV j')) e2 e3
end
end
section
section
variable {α : Type} {κ : KX} {nL : Nat} {em : α → Option Value × Mem} {n : Nat} {cs : Nat × Nat} {pc q : Nat} {L st : List Value} {M : Mem} {res : Option α} {cc : ByteArray} {own : String} {ret : Option FieldType} {d : Nat}
def zInit (κ : KX) : Prop := match κ with
  | (_, _, _, _, _, _, _, _, meth, _, _, _, _, _, _, _) => meth.name = "<init>"
theorem zva_i {b : zSg} {M : Mem} {ty : FieldType} {a j : Nat} (h : zvk ty = 0 ∨ zvk ty = 3) : zva b M ty a j = .int (zI M a j) := by
  unfold zva; rcases h with h | h <;> (rw [h]; rfl)
theorem zva_l {b : zSg} {M : Mem} {ty : FieldType} {a j : Nat} (h : zvk ty = 1) : zva b M ty a j = .long (zL M a j) := by
  unfold zva; rw [h]; rfl
theorem zva_r {b : zSg} {M : Mem} {ty : FieldType} {a j : Nat} (h : zvk ty = 2) : zva b M ty a j = zre b (zR M a j) := by
  unfold zva; rw [h]; rfl
theorem x_getI {a i ci j k : Nat} (hf : zFL own i ci j k) (hk : k = 0 ∨ k = 3) (hO : zO n a ci) (hC : CX κ cc own nL ret d) (hd : decode cc pc = .ok (.getfield i, 3)) (hq : pc + 3 = q) (kk : X κ nL em n cs q L (.int (zI M a j) :: st) M res) : X κ nL em n cs pc L (.ref a :: st) M res := by
  subst hq
  obtain ⟨p, l, e, R, s, m, args, below, meth, c, dC, dI, b, mc, ms, n'⟩ := κ
  obtain ⟨hx, hb, hml, hown, hts, hr, hlk, hK, hR, hNs⟩ := hC
  intro r hr0 H locs ls h2 hl
  have hg := kk r hr0 H locs ls h2 hl
  obtain ⟨hRL, hlo, hmo, hb0, hfr⟩ := h2
  show W p l e R s m args below meth c H locs cs.1 cs.2 _ (F0 m pc ls (.ref (zad b a) :: st.map (zrv b)))
  rw [zad_lt hO.1 hRL.2.1]
  refine zgetW hx hb hts hown hK hf (zObj (hRL.2.2.1 a hO.1) hf.1.1 hO.2) hd ?_
  rw [zva_i (by rw [hf.1.2.2]; exact hk)]
  exact hg
theorem x_getL {a i ci j : Nat} (hf : zFL own i ci j 1) (hO : zO n a ci) (hC : CX κ cc own nL ret d) (hd : decode cc pc = .ok (.getfield i, 3)) (hq : pc + 3 = q) (kk : X κ nL em n cs q L (.long (zL M a j) :: st) M res) : X κ nL em n cs pc L (.ref a :: st) M res := by
  subst hq
  obtain ⟨p, l, e, R, s, m, args, below, meth, c, dC, dI, b, mc, ms, n'⟩ := κ
  obtain ⟨hx, hb, hml, hown, hts, hr, hlk, hK, hR, hNs⟩ := hC
  intro r hr0 H locs ls h2 hl
  have hg := kk r hr0 H locs ls h2 hl
  obtain ⟨hRL, hlo, hmo, hb0, hfr⟩ := h2
  show W p l e R s m args below meth c H locs cs.1 cs.2 _ (F0 m pc ls (.ref (zad b a) :: st.map (zrv b)))
  rw [zad_lt hO.1 hRL.2.1]
  refine zgetW hx hb hts hown hK hf (zObj (hRL.2.2.1 a hO.1) hf.1.1 hO.2) hd ?_
  rw [zva_l hf.1.2.2]
  exact hg
theorem x_getR {a i ci j k : Nat} {K : Nat → Option α} (hf : zFL own i ci j 2) (hk : zK ci j = k) (hO : zO n a ci) (hC : CX κ cc own nL ret d) (hd : decode cc pc = .ok (.getfield i, 3)) (hq : pc + 3 = q) (kk : ∀ q0, zO n q0 k → X κ nL em n cs q L (.ref q0 :: st) M (K q0)) : X κ nL em n cs pc L (.ref a :: st) M (Option.bind (zrf M a j) K) := by
  subst hq; subst hk
  obtain ⟨p, l, e, R, s, m, args, below, meth, c, dC, dI, b, mc, ms, n'⟩ := κ
  obtain ⟨hx, hb, hml, hown, hts, hr, hlk, hK, hR, hNs⟩ := hC
  intro r hr0 H locs ls h2 hl
  cases hz : zR M a j with
  | zero => rw [show zrf M a j = none by unfold zrf; rw [hz]] at hr0; cases hr0
  | succ q0 =>
    rw [show zrf M a j = some q0 by unfold zrf; rw [hz]] at hr0
    have hq0 : zO n q0 (zK ci j) := by
      have := h2.1.2.2.2 a hO.1 j (by rw [hz]; exact Nat.succ_ne_zero _)
      rw [hz, hO.2] at this
      unfold zKd at this
      rwa [if_pos hf.1.1] at this
    have hg := kk q0 hq0 r hr0 H locs ls h2 hl
    obtain ⟨hRL, hlo, hmo, hb0, hfr⟩ := h2
    show W p l e R s m args below meth c H locs cs.1 cs.2 _ (F0 m pc ls (.ref (zad b a) :: st.map (zrv b)))
    rw [zad_lt hO.1 hRL.2.1]
    refine zgetW hx hb hts hown hK hf (zObj (hRL.2.2.1 a hO.1) hf.1.1 hO.2) hd ?_
    rw [zva_r hf.1.2.2, hz]
    have hg : W p l e R s m args below meth c H locs cs.1 cs.2 _ (F0 m (pc + 3) ls (.ref (zad b q0) :: st.map (zrv b))) := hg
    rw [zad_lt hq0.1 hRL.2.1] at hg
    exact hg
theorem zFin {H : Heap} {b : zSg} {lo : Loc} {locs : List Loc} {a : Nat} (h : ∀ q ∈ locs, b.1 ≤ q.base) (hlo : lo.base = b.1 + a) : ∀ q ∈ locs ++ [lo], b.1 ≤ q.base := by
  intro q hq
  rcases List.mem_append.mp hq with h1 | h1
  · exact h q h1
  · rw [List.mem_singleton.mp h1, hlo]; exact Nat.le_add_right _ _
theorem x_putI {a i ci j k : Nat} {v : Int32} (hf : zFL own i ci j k) (hv : narrow (zTy ci j) (.int v) = .int v ∧ fits (zTy ci j) (.int v) = true) (hk : k = 0 ∨ k = 3) (hfin : (zT ci j).2.2.2 = false ∨ (zInit κ ∧ (zT ci j).1 = own)) (hO : zO n a ci) (hC : CX κ cc own nL ret d) (hd : decode cc pc = .ok (.putfield i, 3)) (hq : pc + 3 = q) (kk : X κ nL em n cs q L st (zsI M a j v) res) : X κ nL em n cs pc L (.int v :: .ref a :: st) M res := by
  subst hq
  obtain ⟨p, l, e, R, s, m, args, below, meth, c, dC, dI, b, mc, ms, n'⟩ := κ
  obtain ⟨hx, hb, hml, hown, hts, hr, hlk, hK, hR, hNs⟩ := hC
  intro r hr0 H locs ls h2 hl
  obtain ⟨hRL, hlo, hmo, hb0, hfr⟩ := h2
  show W p l e R s m args below meth c H locs cs.1 cs.2 _ (F0 m pc ls (.int v :: .ref (zad b a) :: st.map (zrv b)))
  rw [zad_lt hO.1 hRL.2.1]
  refine zputW (V' := fun j' => zva b (zsI M a j v) (zTy ci j') a j') hx hb hts hown hK hf hfin (zObj (hRL.2.2.1 a hO.1) hf.1.1 hO.2) hv.1 hv.2 (fun j' => ?_) hd (fun H' lo e0 e1 e2 e3 => ?_)
  · show updV _ j _ j' = _
    unfold updV
    by_cases ej : j' = j
    · subst ej
      rw [if_pos rfl, zva_i (by rw [hf.1.2.2]; exact hk)]
      show Value.int v = .int ((zup M.1 a (zup (zI M a) j' v)) a j')
      rw [zup_self, zup_self]
    · rw [if_neg ej]
      unfold zva
      show _ = match zvk (zTy ci j') with | 1 => _ | 2 => _ | _ => Value.int ((zup M.1 a (zup (zI M a) j v)) a j')
      rw [zup_self, zup_ne _ _ ej]
      rfl
  · exact kk r hr0 H' _ ls ⟨hRL.upd e2 e3 (zOff_wI M a _) (zObj' e1 hf.1.1 hO.2) (hRL.2.2.2.I a _), zFin (H := H) hlo e0, by rw [e2]; exact hmo, hb0, fun q h => (e3 q (Nat.ne_of_lt (Nat.lt_of_lt_of_le h (Nat.le_add_right _ _)))).trans (hfr q h)⟩ hl
theorem x_putL {a i ci j : Nat} {v : Int64} (hf : zFL own i ci j 1) (hv : narrow (zTy ci j) (.long v) = .long v ∧ fits (zTy ci j) (.long v) = true) (hfin : (zT ci j).2.2.2 = false ∨ (zInit κ ∧ (zT ci j).1 = own)) (hO : zO n a ci) (hC : CX κ cc own nL ret d) (hd : decode cc pc = .ok (.putfield i, 3)) (hq : pc + 3 = q) (kk : X κ nL em n cs q L st (zsL M a j v) res) : X κ nL em n cs pc L (.long v :: .ref a :: st) M res := by
  subst hq
  obtain ⟨p, l, e, R, s, m, args, below, meth, c, dC, dI, b, mc, ms, n'⟩ := κ
  obtain ⟨hx, hb, hml, hown, hts, hr, hlk, hK, hR, hNs⟩ := hC
  intro r hr0 H locs ls h2 hl
  obtain ⟨hRL, hlo, hmo, hb0, hfr⟩ := h2
  show W p l e R s m args below meth c H locs cs.1 cs.2 _ (F0 m pc ls (.long v :: .ref (zad b a) :: st.map (zrv b)))
  rw [zad_lt hO.1 hRL.2.1]
  refine zputW (V' := fun j' => zva b (zsL M a j v) (zTy ci j') a j') hx hb hts hown hK hf hfin (zObj (hRL.2.2.1 a hO.1) hf.1.1 hO.2) hv.1 hv.2 (fun j' => ?_) hd (fun H' lo e0 e1 e2 e3 => ?_)
  · show updV _ j _ j' = _
    unfold updV
    by_cases ej : j' = j
    · subst ej
      rw [if_pos rfl, zva_l hf.1.2.2]
      show Value.long v = .long ((zup M.2.1 a (zup (zL M a) j' v)) a j')
      rw [zup_self, zup_self]
    · rw [if_neg ej]
      unfold zva
      show _ = match zvk (zTy ci j') with | 1 => Value.long ((zup M.2.1 a (zup (zL M a) j v)) a j') | 2 => _ | _ => _
      rw [zup_self, zup_ne _ _ ej]
      rfl
  · exact kk r hr0 H' _ ls ⟨hRL.upd e2 e3 (zOff_wL M a _) (zObj' e1 hf.1.1 hO.2) (hRL.2.2.2.L a _), zFin (H := H) hlo e0, by rw [e2]; exact hmo, hb0, fun q h => (e3 q (Nat.ne_of_lt (Nat.lt_of_lt_of_le h (Nat.le_add_right _ _)))).trans (hfr q h)⟩ hl
theorem x_putR {a i ci j k v : Nat} (hf : zFL own i ci j 2) (hv : ∀ x, narrow (zTy ci j) (.ref x) = .ref x ∧ fits (zTy ci j) (.ref x) = true) (hk : zK ci j = k) (hO2 : zO n v k) (hfin : (zT ci j).2.2.2 = false ∨ (zInit κ ∧ (zT ci j).1 = own)) (hO : zO n a ci) (hC : CX κ cc own nL ret d) (hd : decode cc pc = .ok (.putfield i, 3)) (hq : pc + 3 = q) (kk : X κ nL em n cs q L st (zsR M a j (v + 1)) res) : X κ nL em n cs pc L (.ref v :: .ref a :: st) M res := by
  subst hq; subst hk
  obtain ⟨p, l, e, R, s, m, args, below, meth, c, dC, dI, b, mc, ms, n'⟩ := κ
  obtain ⟨hx, hb, hml, hown, hts, hr, hlk, hK, hR, hNs⟩ := hC
  intro r hr0 H locs ls h2 hl
  obtain ⟨hRL, hlo, hmo, hb0, hfr⟩ := h2
  show W p l e R s m args below meth c H locs cs.1 cs.2 _ (F0 m pc ls (.ref (zad b v) :: .ref (zad b a) :: st.map (zrv b)))
  rw [zad_lt hO.1 hRL.2.1, zad_lt hO2.1 hRL.2.1]
  refine zputW (V' := fun j' => zva b (zsR M a j (v + 1)) (zTy ci j') a j') hx hb hts hown hK hf hfin (zObj (hRL.2.2.1 a hO.1) hf.1.1 hO.2) (hv _).1 (hv _).2 (fun j' => ?_) hd (fun H' lo e0 e1 e2 e3 => ?_)
  · show updV _ j _ j' = _
    unfold updV
    by_cases ej : j' = j
    · subst ej
      rw [if_pos rfl, zva_r hf.1.2.2]
      show _ = zre b ((zup M.2.2 a (zup (zR M a) j' (v + 1))) a j')
      rw [zup_self, zup_self]
      rfl
    · rw [if_neg ej]
      unfold zva
      show _ = match zvk (zTy ci j') with | 1 => _ | 2 => zre b ((zup M.2.2 a (zup (zR M a) j (v + 1))) a j') | _ => _
      rw [zup_self, zup_ne _ _ ej]
      rfl
  · exact kk r hr0 H' _ ls ⟨hRL.upd e2 e3 (zOff_wR M a _) (zObj' e1 hf.1.1 hO.2) (hRL.2.2.2.R a j v (by rw [hO.2]; unfold zKd; rw [if_pos hf.1.1]; exact hO2)), zFin (H := H) hlo e0, by rw [e2]; exact hmo, hb0, fun q h => (e3 q (Nat.ne_of_lt (Nat.lt_of_lt_of_le h (Nat.le_add_right _ _)))).trans (hfr q h)⟩ hl
theorem zld_spec {a : Nat} {i : Int32} {k : Nat} (h : zld a i = some k) : ¬ (i < 0 ∨ (zSH a).2 ≤ i.toNatClampNeg) ∧ k = i.toNatClampNeg := by
  unfold zld at h
  by_cases hc : i < 0 ∨ (zSH a).2 ≤ i.toNatClampNeg
  · rw [if_pos hc] at h; cases h
  · rw [if_neg hc] at h; exact ⟨hc, (Option.some.inj h).symm⟩
theorem x_ldcase {β : Type} {o : Option β} {K : β → Option α} (h : ∀ k, o = some k → X κ nL em n cs pc L st M (K k)) : X κ nL em n cs pc L st M (Option.bind o K) := by
  cases o with
  | none => exact fun r hr => by cases hr
  | some k => exact h k rfl
theorem x_iald {a : Nat} {i : Int32} {K : Nat → Option α} (hO : zO n a 20) (hC : CX κ cc own nL ret d) (hd : decode cc pc = .ok (.iaload, 1)) (hq : pc + 1 = q) (kk : ∀ k, zld a i = some k → X κ nL em n cs q L (.int (zI M a k) :: st) M (K k)) : X κ nL em n cs pc L (.int i :: .ref a :: st) M (Option.bind (zld a i) K) := by
  subst hq
  refine x_ldcase fun k hk => ?_
  have kk := kk k hk
  obtain ⟨p, l, e, R, s, m, args, below, meth, c, dC, dI, b, mc, ms, n'⟩ := κ
  obtain ⟨hx, hb, hml, hown, hts, hr, hlk, hK, hR, hNs⟩ := hC
  intro r hr0 H locs ls h2 hl
  have hg := kk r hr0 H locs ls h2 hl
  obtain ⟨hRL, hlo, hmo, hb0, hfr⟩ := h2
  obtain ⟨hin, rfl⟩ := zld_spec hk
  obtain ⟨cA, h1, -, h3⟩ := zArr (hRL.2.2.1 a hO.1) (by decide) hO.2 rfl
  have hlt : i.toNatClampNeg < (zSH a).2 := Nat.not_le.mp fun q => hin (Or.inr q)
  show W p l e R s m args below meth c H locs cs.1 cs.2 _ (F0 m pc ls (.int i :: .ref (zad b a) :: st.map (zrv b)))
  rw [zad_lt hO.1 hRL.2.1]
  exact W.iald (v := .int (zI M a i.toNatClampNeg)) hx hb h3 (h1 _ _) (fun q => by cases q) (by rw [arrV_size]; exact hin) (by rw [arrV_read _ _ hlt]; rfl) rfl rfl hd hg
theorem x_lald {a : Nat} {i : Int32} {K : Nat → Option α} (hO : zO n a 21) (hC : CX κ cc own nL ret d) (hd : decode cc pc = .ok (.laload, 1)) (hq : pc + 1 = q) (kk : ∀ k, zld a i = some k → X κ nL em n cs q L (.long (zL M a k) :: st) M (K k)) : X κ nL em n cs pc L (.int i :: .ref a :: st) M (Option.bind (zld a i) K) := by
  subst hq
  refine x_ldcase fun k hk => ?_
  have kk := kk k hk
  obtain ⟨p, l, e, R, s, m, args, below, meth, c, dC, dI, b, mc, ms, n'⟩ := κ
  obtain ⟨hx, hb, hml, hown, hts, hr, hlk, hK, hR, hNs⟩ := hC
  intro r hr0 H locs ls h2 hl
  have hg := kk r hr0 H locs ls h2 hl
  obtain ⟨hRL, hlo, hmo, hb0, hfr⟩ := h2
  obtain ⟨hin, rfl⟩ := zld_spec hk
  obtain ⟨cA, h1, -, h3⟩ := zArr (hRL.2.2.1 a hO.1) (by decide) hO.2 rfl
  have hlt : i.toNatClampNeg < (zSH a).2 := Nat.not_le.mp fun q => hin (Or.inr q)
  show W p l e R s m args below meth c H locs cs.1 cs.2 _ (F0 m pc ls (.int i :: .ref (zad b a) :: st.map (zrv b)))
  rw [zad_lt hO.1 hRL.2.1]
  exact W.lald (v := .long (zL M a i.toNatClampNeg)) hx hb h3 (h1 _ _) (fun q => by cases q) (by rw [arrV_size]; exact hin) (by rw [arrV_read _ _ hlt]; rfl) rfl rfl hd hg
theorem x_zald {a : Nat} {i : Int32} {K : Nat → Option α} (hO : zO n a 22) (hC : CX κ cc own nL ret d) (hd : decode cc pc = .ok (.baload, 1)) (hq : pc + 1 = q) (kk : ∀ k, zld a i = some k → X κ nL em n cs q L (.int (zI M a k) :: st) M (K k)) : X κ nL em n cs pc L (.int i :: .ref a :: st) M (Option.bind (zld a i) K) := by
  subst hq
  refine x_ldcase fun k hk => ?_
  have kk := kk k hk
  obtain ⟨p, l, e, R, s, m, args, below, meth, c, dC, dI, b, mc, ms, n'⟩ := κ
  obtain ⟨hx, hb, hml, hown, hts, hr, hlk, hK, hR, hNs⟩ := hC
  intro r hr0 H locs ls h2 hl
  have hg := kk r hr0 H locs ls h2 hl
  obtain ⟨hRL, hlo, hmo, hb0, hfr⟩ := h2
  obtain ⟨hin, rfl⟩ := zld_spec hk
  obtain ⟨cA, h1, -, h3⟩ := zArr (hRL.2.2.1 a hO.1) (by decide) hO.2 rfl
  have hlt : i.toNatClampNeg < (zSH a).2 := Nat.not_le.mp fun q => hin (Or.inr q)
  show W p l e R s m args below meth c H locs cs.1 cs.2 _ (F0 m pc ls (.int i :: .ref (zad b a) :: st.map (zrv b)))
  rw [zad_lt hO.1 hRL.2.1]
  exact W.zald (v := .int (zI M a i.toNatClampNeg)) hx hb h3 (h1 _ _) (fun q => by cases q) (by rw [arrV_size]; exact hin) (by rw [arrV_read _ _ hlt]; rfl) rfl rfl hd hg
theorem x_aald {a kd ke : Nat} {i : Int32} {K : Nat → Nat → Option α} (hO : zO n a kd) (hkd : kd = 23 ∨ kd = 24) (hke : zAK kd = ke) (hC : CX κ cc own nL ret d) (hd : decode cc pc = .ok (.aaload, 1)) (hq : pc + 1 = q) (kk : ∀ k, zld a i = some k → ∀ q0, zO n q0 ke → X κ nL em n cs q L (.ref q0 :: st) M (K k q0)) : X κ nL em n cs pc L (.int i :: .ref a :: st) M (Option.bind (zld a i) fun k => Option.bind (zrf M a k) (K k)) := by
  subst hq; subst hke
  refine x_ldcase fun k hk => ?_
  have kk := kk k hk
  have hnd : ¬ kd < 13 := by rcases hkd with h | h <;> omega
  obtain ⟨p, l, e, R, s, m, args, below, meth, c, dC, dI, b, mc, ms, n'⟩ := κ
  obtain ⟨hx, hb, hml, hown, hts, hr, hlk, hK, hR, hNs⟩ := hC
  intro r hr0 H locs ls h2 hl
  cases hz : zR M a k with
  | zero => rw [show zrf M a k = none by unfold zrf; rw [hz]] at hr0; cases hr0
  | succ q0 =>
    rw [show zrf M a k = some q0 by unfold zrf; rw [hz]] at hr0
    have hq0 : zO n q0 (zAK kd) := by
      have := h2.1.2.2.2 a hO.1 k (by rw [hz]; exact Nat.succ_ne_zero _)
      rw [hz, hO.2] at this
      unfold zKd at this
      rwa [if_neg hnd] at this
    have hg := kk q0 hq0 r hr0 H locs ls h2 hl
    obtain ⟨hRL, hlo, hmo, hb0, hfr⟩ := h2
    obtain ⟨hin, rfl⟩ := zld_spec hk
    obtain ⟨cA, h1, -, h3⟩ := zArr (hRL.2.2.1 a hO.1) hnd hO.2 rfl
    have hlt : i.toNatClampNeg < (zSH a).2 := Nat.not_le.mp fun q => hin (Or.inr q)
    show W p l e R s m args below meth c H locs cs.1 cs.2 _ (F0 m pc ls (.int i :: .ref (zad b a) :: st.map (zrv b)))
    rw [zad_lt hO.1 hRL.2.1]
    have hg : W p l e R s m args below meth c H locs cs.1 cs.2 _ (F0 m (pc + 1) ls (.ref (zad b q0) :: st.map (zrv b))) := hg
    rw [zad_lt hq0.1 hRL.2.1] at hg
    exact W.aald (v := .ref (b.1 + q0)) hx hb h3 (h1 _ _) (by rcases hkd with h | h <;> subst h <;> rfl) (fun q => by cases q) (by rw [arrV_size]; exact hin) (by rw [arrV_read _ _ hlt, zva_r (by rcases hkd with h | h <;> subst h <;> rfl), hz]; rfl) rfl rfl hd hg
theorem x_iast {a : Nat} {i v : Int32} {K : Nat → Option α} (hO : zO n a 20) (hC : CX κ cc own nL ret d) (hd : decode cc pc = .ok (.iastore, 1)) (hq : pc + 1 = q) (kk : ∀ k, zld a i = some k → X κ nL em n cs q L st (zsI M a k v) (K k)) : X κ nL em n cs pc L (.int v :: .int i :: .ref a :: st) M (Option.bind (zld a i) K) := by
  subst hq
  refine x_ldcase fun k hk => ?_
  have kk := kk k hk
  obtain ⟨p, l, e, R, s, m, args, below, meth, c, dC, dI, b, mc, ms, n'⟩ := κ
  obtain ⟨hx, hb, hml, hown, hts, hr, hlk, hK, hR, hNs⟩ := hC
  intro r hr0 H locs ls h2 hl
  obtain ⟨hRL, hlo, hmo, hb0, hfr⟩ := h2
  obtain ⟨hin, rfl⟩ := zld_spec hk
  obtain ⟨cA, h1, h4, h3⟩ := zArr (hRL.2.2.1 a hO.1) (by decide) hO.2 rfl
  have hlt : i.toNatClampNeg < (zSH a).2 := Nat.not_le.mp fun q => hin (Or.inr q)
  show W p l e R s m args below meth c H locs cs.1 cs.2 _ (F0 m pc ls (.int v :: .int i :: .ref (zad b a) :: st.map (zrv b)))
  rw [zad_lt hO.1 hRL.2.1]
  refine W.iast hx hb h3 (h1 _ _) (fun q => by cases q) (by rw [arrV_size]; exact hin) rfl rfl hd fun H' e1 e2 e3 => ?_
  refine kk r hr0 H' _ ls ⟨hRL.upd e2 e3 (zOff_wI M a _) (zArr' ⟨cA, h1, h4, ?_⟩ (by decide) hO.2 rfl) (hRL.2.2.2.I a _), zFin (H := H) (a := a) hlo rfl, by rw [e2]; exact hmo, hb0, fun q h => (e3 q (Nat.ne_of_lt (Nat.lt_of_lt_of_le h (Nat.le_add_right _ _)))).trans (hfr q h)⟩ hl
  rw [e1, arrV_store]
  congr 2
  funext j
  show updV _ _ _ j = Value.int ((zup M.1 a (zup (zI M a) i.toNatClampNeg v)) a j)
  rw [zup_self]
  unfold updV zup
  by_cases ej : j = i.toNatClampNeg
  · rw [if_pos ej, if_pos ej]
  · rw [if_neg ej, if_neg ej]; rfl
theorem x_last {a : Nat} {i : Int32} {v : Int64} {K : Nat → Option α} (hO : zO n a 21) (hC : CX κ cc own nL ret d) (hd : decode cc pc = .ok (.lastore, 1)) (hq : pc + 1 = q) (kk : ∀ k, zld a i = some k → X κ nL em n cs q L st (zsL M a k v) (K k)) : X κ nL em n cs pc L (.long v :: .int i :: .ref a :: st) M (Option.bind (zld a i) K) := by
  subst hq
  refine x_ldcase fun k hk => ?_
  have kk := kk k hk
  obtain ⟨p, l, e, R, s, m, args, below, meth, c, dC, dI, b, mc, ms, n'⟩ := κ
  obtain ⟨hx, hb, hml, hown, hts, hr, hlk, hK, hR, hNs⟩ := hC
  intro r hr0 H locs ls h2 hl
  obtain ⟨hRL, hlo, hmo, hb0, hfr⟩ := h2
  obtain ⟨hin, rfl⟩ := zld_spec hk
  obtain ⟨cA, h1, h4, h3⟩ := zArr (hRL.2.2.1 a hO.1) (by decide) hO.2 rfl
  have hlt : i.toNatClampNeg < (zSH a).2 := Nat.not_le.mp fun q => hin (Or.inr q)
  show W p l e R s m args below meth c H locs cs.1 cs.2 _ (F0 m pc ls (.long v :: .int i :: .ref (zad b a) :: st.map (zrv b)))
  rw [zad_lt hO.1 hRL.2.1]
  refine W.last hx hb h3 (h1 _ _) (fun q => by cases q) (by rw [arrV_size]; exact hin) rfl rfl hd fun H' e1 e2 e3 => ?_
  refine kk r hr0 H' _ ls ⟨hRL.upd e2 e3 (zOff_wL M a _) (zArr' ⟨cA, h1, h4, ?_⟩ (by decide) hO.2 rfl) (hRL.2.2.2.L a _), zFin (H := H) (a := a) hlo rfl, by rw [e2]; exact hmo, hb0, fun q h => (e3 q (Nat.ne_of_lt (Nat.lt_of_lt_of_le h (Nat.le_add_right _ _)))).trans (hfr q h)⟩ hl
  rw [e1, arrV_store]
  congr 2
  funext j
  show updV _ _ _ j = Value.long ((zup M.2.1 a (zup (zL M a) i.toNatClampNeg v)) a j)
  rw [zup_self]
  unfold updV zup
  by_cases ej : j = i.toNatClampNeg
  · rw [if_pos ej, if_pos ej]
  · rw [if_neg ej, if_neg ej]; rfl
theorem x_zast {a : Nat} {i v : Int32} {K : Nat → Option α} (hv : narrow .boolean (.int v) = .int v) (hO : zO n a 22) (hC : CX κ cc own nL ret d) (hd : decode cc pc = .ok (.bastore, 1)) (hq : pc + 1 = q) (kk : ∀ k, zld a i = some k → X κ nL em n cs q L st (zsI M a k v) (K k)) : X κ nL em n cs pc L (.int v :: .int i :: .ref a :: st) M (Option.bind (zld a i) K) := by
  subst hq
  refine x_ldcase fun k hk => ?_
  have kk := kk k hk
  obtain ⟨p, l, e, R, s, m, args, below, meth, c, dC, dI, b, mc, ms, n'⟩ := κ
  obtain ⟨hx, hb, hml, hown, hts, hr, hlk, hK, hR, hNs⟩ := hC
  intro r hr0 H locs ls h2 hl
  obtain ⟨hRL, hlo, hmo, hb0, hfr⟩ := h2
  obtain ⟨hin, rfl⟩ := zld_spec hk
  obtain ⟨cA, h1, h4, h3⟩ := zArr (hRL.2.2.1 a hO.1) (by decide) hO.2 rfl
  have hlt : i.toNatClampNeg < (zSH a).2 := Nat.not_le.mp fun q => hin (Or.inr q)
  show W p l e R s m args below meth c H locs cs.1 cs.2 _ (F0 m pc ls (.int v :: .int i :: .ref (zad b a) :: st.map (zrv b)))
  rw [zad_lt hO.1 hRL.2.1]
  refine W.zast hx hb h3 (h1 _ _) (fun q => by cases q) (by rw [arrV_size]; exact hin) rfl rfl hd fun H' e1 e2 e3 => ?_
  refine kk r hr0 H' _ ls ⟨hRL.upd e2 e3 (zOff_wI M a _) (zArr' ⟨cA, h1, h4, ?_⟩ (by decide) hO.2 rfl) (hRL.2.2.2.I a _), zFin (H := H) (a := a) hlo rfl, by rw [e2]; exact hmo, hb0, fun q h => (e3 q (Nat.ne_of_lt (Nat.lt_of_lt_of_le h (Nat.le_add_right _ _)))).trans (hfr q h)⟩ hl
  rw [e1, hv, arrV_store]
  congr 2
  funext j
  show updV _ _ _ j = Value.int ((zup M.1 a (zup (zI M a) i.toNatClampNeg v)) a j)
  rw [zup_self]
  unfold updV zup
  by_cases ej : j = i.toNatClampNeg
  · rw [if_pos ej, if_pos ej]
  · rw [if_neg ej, if_neg ej]; rfl
def zlen (a : Nat) : Int32 := (zSH a).2.toInt32
theorem x_alen {a k : Nat} (hO : zO n a k) (hk : ¬ k < 13) (hC : CX κ cc own nL ret d) (hd : decode cc pc = .ok (.arraylength, 1)) (hq : pc + 1 = q) (kk : X κ nL em n cs q L (.int (zlen a) :: st) M res) : X κ nL em n cs pc L (.ref a :: st) M res := by
  subst hq
  obtain ⟨p, l, e, R, s, m, args, below, meth, c, dC, dI, b, mc, ms, n'⟩ := κ
  obtain ⟨hx, hb, hml, hown, hts, hr, hlk, hK, hR, hNs⟩ := hC
  intro r hr0 H locs ls h2 hl
  have hg := kk r hr0 H locs ls h2 hl
  obtain ⟨hRL, hlo, hmo, hb0, hfr⟩ := h2
  obtain ⟨cA, h1, -, h3⟩ := zArr (hRL.2.2.1 a hO.1) hk hO.2 rfl
  show W p l e R s m args below meth c H locs cs.1 cs.2 _ (F0 m pc ls (.ref (zad b a) :: st.map (zrv b)))
  rw [zad_lt hO.1 hRL.2.1]
  exact W.alen (n := zlen a) hx hb h3 (h1 _ _) (by rw [arrV_size]; rfl) rfl rfl hd hg
end
end
section
/-! a method's contract over the memory; returns; calls -/
def zPc (dC : Nat → ClassId) (dI : Nat → Nat → Nat) (b : zSg) (n : Nat) (as : List Value) (M : Mem) : Array Value → State → Prop :=
  va_Pc (as.map (zrv b)) (fun U => zRL dC dI b U n M U.heap ∧ va_K (dC, dI) zCl [] U ∧ ∀ w ∈ zNs, va_Nw w U)
def MT (l : Launch) (dC : Nat → ClassId) (dI : Nat → Nat → Nat) (b : zSg) (y : MethodName) (bytes : ByteArray) (maxL : Nat) (ret : Option FieldType) (d mc ms n n' : Nat) (as : List Value) (M : Mem) (ov : Option Value) (M' : Mem) : Prop :=
  Met l y (Cond.code y bytes maxL ret :: zTb) (zRm d mc ms) (zPc dC dI b n as M) (zQ dC dI b n' ov M') mc ms (fun q => b.1 ≤ q)
theorem zNs_form : ∀ w ∈ zNs, ∃ a i x h, w = Cond.methodLinkNest a i x h := by
  intro w hw
  simp only [zNs, List.mem_cons, List.not_mem_nil, or_false] at hw
  rcases hw with h | h | h | h | h | h | h | h | h <;> exact ⟨_, _, _, _, h⟩
theorem zNs_warm {s U : State} (hW : s.WarmedH U.vm) (h : ∀ w ∈ zNs, va_Nw w s) : ∀ w ∈ zNs, va_Nw w U := by
  intro w hw
  have h1 := h w hw
  obtain ⟨a, i, x, h0, rfl⟩ := zNs_form w hw
  exact va_Nw.warmM hW h1
theorem zNs_same {s U : State} (hW : s.vm = U.vm) (h : ∀ w ∈ zNs, va_Nw w s) : ∀ w ∈ zNs, va_Nw w U := by
  intro w hw
  have h1 := h w hw
  obtain ⟨a, i, x, h0, rfl⟩ := zNs_form w hw
  exact va_Nw.same rfl hW h1
theorem zPc_blind {dC : Nat → ClassId} {dI : Nat → Nat → Nat} {b : zSg} {n : Nat} {as : List Value} {M : Mem} : FrameBlind (zPc dC dI b n as M) := by
  intro a U g mk h
  obtain ⟨h1, h2, h3, h4⟩ := h
  exact ⟨h1, zRL.moved (s := U) (t := U.calling g mk a) (Vm.Alike.refl U.vm) h2, va_K.moved (u := U) (U := U.calling g mk a) (Vm.Alike.refl U.vm) h3, zNs_same (s := U) (U := U.calling g mk a) rfl h4⟩
theorem zPc_at {dC : Nat → ClassId} {dI : Nat → Nat → Nat} {b : zSg} {n : Nat} {as : List Value} {M : Mem} {s : State} {H : Heap} (hRL : zRL dC dI b s n M H) (hK : va_K (dC, dI) zCl [] s) (hN : ∀ w ∈ zNs, va_Nw w s) : ∀ U : State, U.heap = H → s.WarmedH U.vm → zPc dC dI b n as M (as.map (zrv b)).toArray U := by
  intro U hU hW
  refine ⟨rfl, ?_, va_K.moved hW.alike hK, zNs_warm hW hN⟩
  rw [hU]
  exact hRL.moved hW.alike
def zent (as : List Value) (nL : Nat) : List Value := (as.flatMap fun v => if v.category = 2 then [v, .null] else [v]) ++ List.replicate (nL - (lg_sl as).length) .null
def zFn (κ : KX) (l : Launch) (dC : Nat → ClassId) (dI : Nat → Nat → Nat) (b : zSg) (mc ms n' : Nat) : Prop := match κ with
  | (_, l1, _, _, _, _, _, _, _, _, dC1, dI1, b1, mc1, ms1, n1) => l1 = l ∧ dC1 = dC ∧ dI1 = dI ∧ b1 = b ∧ mc1 = mc ∧ ms1 = ms ∧ n1 = n'
def zNam (κ : KX) (y : MethodName) : Prop := match κ with
  | (_, _, _, _, _, _, _, _, meth, _, _, _, _, _, _, _) => meth.name = y.name
theorem zent_args (b : zSg) (as : List Value) : ∀ (o i : Nat) (v : Value), ((as.flatMap fun v => if v.category = 2 then [v, Value.null] else [v]))[i]? = some v → v ≠ .null → (o + i, zrv b v) ∈ lv_args o (as.map (zrv b)) := by
  induction as with
  | nil => intro o i v h; simp at h
  | cons a as ih =>
    intro o i v h hv
    rw [List.flatMap_cons] at h
    show _ ∈ lv_args o (zrv b a :: as.map (zrv b))
    by_cases hc : a.category = 2
    · rw [if_pos hc] at h
      have e : lv_args o (zrv b a :: as.map (zrv b)) = (o, zrv b a) :: lv_args (o + 2) (as.map (zrv b)) := by simp [lv_args, zrv_cat, hc]
      rw [e]
      match i with
      | 0 => simp at h; subst h; exact List.mem_cons_self
      | 1 => simp at h; exact absurd h.symm hv
      | i + 2 =>
        have h' : ((as.flatMap fun v => if v.category = 2 then [v, Value.null] else [v]))[i]? = some v := by simpa using h
        have := ih (o + 2) i v h' hv
        rw [show o + 2 + i = o + (i + 2) by omega] at this
        exact List.mem_cons_of_mem _ this
    · rw [if_neg hc] at h
      have e : lv_args o (zrv b a :: as.map (zrv b)) = (o, zrv b a) :: lv_args (o + 1) (as.map (zrv b)) := by
        have h1 : a.category = 1 := (lv_cat a).resolve_right hc
        simp [lv_args, zrv_cat, h1]
      rw [e]
      match i with
      | 0 => simp at h; subst h; exact List.mem_cons_self
      | i + 1 =>
        have h' : ((as.flatMap fun v => if v.category = 2 then [v, Value.null] else [v]))[i]? = some v := by simpa using h
        have := ih (o + 1) i v h' hv
        rw [show o + 1 + i = o + (i + 1) by omega] at this
        exact List.mem_cons_of_mem _ this
theorem lg_sl_len (b : zSg) (as : List Value) : (lg_sl (as.map (zrv b))).length = (lg_sl as).length := by
  induction as with
  | nil => rfl
  | cons a as ih =>
    have e : ∀ (v : Value) (vs : List Value), lg_sl (v :: vs) = (if v.category = 2 then [Slot.val v, .second] else [.val v]) ++ lg_sl vs := fun v vs => rfl
    rw [List.map_cons, e, e, List.length_append, List.length_append, ih, zrv_cat]
    by_cases hc : a.category = 2
    · rw [if_pos hc, if_pos hc]; rfl
    · rw [if_neg hc, if_neg hc]; rfl
theorem MT.ofX {α : Type} {em : α → Option Value × Mem} {l : Launch} {dC : Nat → ClassId} {dI : Nat → Nat → Nat} {b : zSg} {y : MethodName} {bytes : ByteArray} {maxL : Nat} {ret : Option FieldType} {d mc ms n n' : Nat} {as L0 : List Value} {M : Mem} {res : Option α} (hy : plainName y.cls = true) (hL : zent as maxL = L0) (hlen : (lg_sl as).length ≤ maxL)
    (h : ∀ κ : KX, CX κ bytes y.cls maxL ret d → zFn κ l dC dI b mc ms n' → zNam κ y → X κ maxL em n (0, 0) 0 L0 [] M res) (x : α) (hx : res = some x) : MT l dC dI b y bytes maxL ret d mc ms n n' as M (em x).1 (em x).2 := by
  refine Met.ofW (cc := bytes) (maxL := maxL) (ret := ret) hy rfl ?_
  intro p e s m args below meth c s₁ B hml hv
  obtain ⟨rfl, hRL, hK, hN⟩ := hv
  have hts := atoms_spec (ws := Cond.code y bytes maxL ret :: zTb) B.pre
  have hX := h (p, l, e, zRm d mc ms, s, m, _, below, meth, c, dC, dI, b, mc, ms, n') ⟨B.exec, B.bytes, hml, findClass_of_methodNamed B.named, fun w hw => hts w (List.mem_cons_of_mem _ hw), B.returns, B.notSynchronized, hK, rfl, hN⟩ ⟨rfl, rfl, rfl, rfl, rfl, rfl, rfl⟩ (name_of_methodNamed B.named B.method).1 x hx s.heap []
  have hlen' : (lg_sl (as.map (zrv b))).length ≤ maxL := by rw [lg_sl_len]; exact hlen
  have hl := lv_entry (as.map (zrv b)) (n := maxL) hlen'
  rw [lg_entry_eq]
  refine hX _ ⟨hRL, fun q hq => absurd hq List.not_mem_nil, Nat.le_refl _, by rw [hRL.1]; exact Nat.le_add_right _ _, fun _ _ => rfl⟩ ⟨hl.1, hl.2.1, fun i v hi hv => ?_⟩
  subst hL
  unfold zent at hi
  have hi2 : ((as.flatMap fun v => if v.category = 2 then [v, Value.null] else [v]))[i]? = some v := by
    by_cases hlt : i < (as.flatMap fun v => if v.category = 2 then [v, Value.null] else [v]).length
    · rw [List.getElem?_append_left hlt] at hi; exact hi
    · rw [List.getElem?_append_right (by omega)] at hi
      have := List.mem_of_getElem? hi
      exact absurd (List.eq_of_mem_replicate this) hv
  have := zent_args b as 0 i v hi2 hv
  rw [Nat.zero_add] at this
  exact hl.2.2 _ this
section
variable {α : Type} {κ : KX} {nL : Nat} {em : α → Option Value × Mem} {n : Nat} {cs : Nat × Nat} {pc q : Nat} {L st : List Value} {M : Mem} {res : Option α} {cc : ByteArray} {own : String} {ret : Option FieldType} {d : Nat}
def zEnd (κ : KX) (n : Nat) (cs : Nat × Nat) : Prop := match κ with
  | (_, _, _, _, _, _, _, _, _, _, _, _, _, mc, ms, n') => n = n' ∧ cs.1 ≤ mc ∧ cs.2 ≤ ms
def zRk (κ : KX) (cs : Nat × Nat) : Prop := match κ with
  | (_, _, _, _, _, _, _, _, _, _, _, _, _, mc, ms, _) => cs.1 ≤ mc ∧ cs.2 ≤ ms
theorem zRk_of {l : Launch} {dC : Nat → ClassId} {dI : Nat → Nat → Nat} {b : zSg} {mc ms n' : Nat} (h : zFn κ l dC dI b mc ms n') (h1 : cs.1 ≤ mc) (h2 : cs.2 ≤ ms) : zRk κ cs := by
  obtain ⟨p, l, e, R, s, m, args, below, meth, c, dC, dI, b, mc', ms', n'⟩ := κ
  obtain ⟨-, -, -, -, rfl, rfl, rfl⟩ := h
  exact ⟨h1, h2⟩
theorem zEnd_of {l : Launch} {dC : Nat → ClassId} {dI : Nat → Nat → Nat} {b : zSg} {mc ms : Nat} (h : zFn κ l dC dI b mc ms n) (h1 : cs.1 ≤ mc) (h2 : cs.2 ≤ ms) : zEnd κ n cs := by
  obtain ⟨p, l, e, R, s, m, args, below, meth, c, dC, dI, b, mc', ms', n'⟩ := κ
  obtain ⟨-, -, -, -, rfl, rfl, rfl⟩ := h
  exact ⟨rfl, h1, h2⟩
theorem x_iret {ty : FieldType} {v : Int32} (hv : narrow ty (.int v) = .int v) (hE : zEnd κ n cs) (hC : CX κ cc own nL (some ty) d) (hd : decode cc pc = .ok (.ireturn, 1)) : X κ nL emI n cs pc L [.int v] M (some (v, M)) := by
  obtain ⟨p, l, e, R, s, m, args, below, meth, c, dC, dI, b, mc, ms, n'⟩ := κ
  obtain ⟨hx, hb, hml, hown, hts, hr, hlk, hK, hR, hNs⟩ := hC
  intro r hr0 H locs ls h2 hl
  cases hr0
  obtain ⟨hRL, hlo, hmo, hb0, hfr⟩ := h2
  obtain ⟨rfl, h3, h4⟩ := hE
  refine W.widen (k := mc) (n := ms) h3 h4 ?_
  exact W.zret hx hb hr hv (fun t ht hW => ⟨rfl, by rw [ht]; exact hRL.moved hW.alike, by rw [ht]; exact hmo, fun q h => by rw [ht]; exact hfr q h⟩) hlo hd hlk
theorem x_lret {v : Int64} (hE : zEnd κ n cs) (hC : CX κ cc own nL (some .long) d) (hd : decode cc pc = .ok (.lreturn, 1)) : X κ nL emL n cs pc L [.long v] M (some (v, M)) := by
  obtain ⟨p, l, e, R, s, m, args, below, meth, c, dC, dI, b, mc, ms, n'⟩ := κ
  obtain ⟨hx, hb, hml, hown, hts, hr, hlk, hK, hR, hNs⟩ := hC
  intro r hr0 H locs ls h2 hl
  cases hr0
  obtain ⟨hRL, hlo, hmo, hb0, hfr⟩ := h2
  obtain ⟨rfl, h3, h4⟩ := hE
  refine W.widen (k := mc) (n := ms) h3 h4 ?_
  exact W.lret hx hb hr (fun t ht hW => ⟨rfl, by rw [ht]; exact hRL.moved hW.alike, by rw [ht]; exact hmo, fun q h => by rw [ht]; exact hfr q h⟩) hlo hd hlk
theorem x_vret (hE : zEnd κ n cs) (hC : CX κ cc own nL none d) (hd : decode cc pc = .ok (.return_, 1)) : X κ nL emV n cs pc L [] M (some M) := by
  obtain ⟨p, l, e, R, s, m, args, below, meth, c, dC, dI, b, mc, ms, n'⟩ := κ
  obtain ⟨hx, hb, hml, hown, hts, hr, hlk, hK, hR, hNs⟩ := hC
  intro r hr0 H locs ls h2 hl
  cases hr0
  obtain ⟨hRL, hlo, hmo, hb0, hfr⟩ := h2
  obtain ⟨rfl, h3, h4⟩ := hE
  refine W.widen (k := mc) (n := ms) h3 h4 ?_
  exact W.vret hx hb hr (fun t ht hW => ⟨rfl, by rw [ht]; exact hRL.moved hW.alike, by rw [ht]; exact hmo, fun q h => by rw [ht]; exact hfr q h⟩) hlo hd hlk
theorem zAfter {p : Program} {l : Launch} {e : Env} {R : Room} {s : State} {m : MethodId} {args : Array Value} {below : List Frame} {meth : Method} {c : Code} {H : Heap} {locs : List Loc} {cells slots mc' ms' : Nat} {Q : State → Prop} {dC : Nat → ClassId} {dI : Nat → Nat → Nat} {b : zSg} {n2 : Nat} {M2 : Mem} {ov : Option Value} {ls : Array Slot} {st0 rest : List Value} {a : Array Value}
    (hr : va_Run p l e R s m args below meth c H locs cells slots mc' ms' (F0 m pc ls st0) rest (zQ dC dI b n2 ov M2 a) (fun q => b.1 ≤ q)) (hlo : ∀ q ∈ locs, b.1 ≤ q.base) (hmo : s.heap.size ≤ H.size) (hfr : ∀ q, q < b.1 → H[q]? = s.heap[q]?)
    (kk : ∀ (H1 : Heap) (locs1 : List Loc), zRL dC dI b s n2 M2 H1 → (∀ q ∈ locs1, b.1 ≤ q.base) → s.heap.size ≤ H1.size → (∀ q, q < b.1 → H1[q]? = s.heap[q]?) → W p l e R s m args below meth c H1 locs1 (cells + mc') (slots + ms') Q (F0 m (pc + 3) ls ((ov.map (zrv b)).toList ++ rest))) : W p l e R s m args below meth c H locs cells slots Q (F0 m pc ls st0) := by
  intro T hT X
  obtain ⟨v, st₀, t, T', L, h0, X', hL, e1, e2, ⟨hv, hRL, hsz, hfr2⟩, st⟩ := hr T hT X
  cases hv
  rw [h0] at hsz hfr2
  have hal : t.vm.Alike s.vm := by rw [← e2]; exact X'.warmed.alike.symm
  obtain ⟨t2, a1, b1⟩ := kk T'.heap (locs ++ L) (by rw [e1]; exact hRL.moved hal) (fun q hq => (List.mem_append.mp hq).elim (hlo q) (hL q)) (by rw [e1]; exact Nat.le_trans hmo hsz) (fun q h => by rw [e1, hfr2 q h, hfr q h]) T' rfl X'
  exact ⟨t2, st t2 a1, b1⟩
/-- what a call's link says: the entry i of own is the method y, its code and its parameters -/
def zCB (own : String) (i : Nat) (y : MethodName) (bytes : ByteArray) (maxL : Nat) (ret : Option FieldType) (na : Nat) : Prop :=
  Cond.methodLink own i y ∈ zTb ∧ Cond.initialized y.cls ∈ zTb ∧ Cond.code y bytes maxL ret ∈ zTb ∧ (y.cls ≠ "java/lang/invoke/MethodHandle" ∧ y.cls ≠ "java/lang/invoke/VarHandle" ∧ (parseMethodDescriptor y.desc).map (fun d => d.parameters.length) = some na)
def zCN (own : String) (i : Nat) (y : MethodName) (bytes : ByteArray) (maxL : Nat) (ret : Option FieldType) (na : Nat) : Prop :=
  (∃ host, Cond.methodLinkNest own i y host ∈ zNs) ∧ Cond.initialized y.cls ∈ zTb ∧ Cond.code y bytes maxL ret ∈ zTb ∧ (y.cls ≠ "java/lang/invoke/MethodHandle" ∧ y.cls ≠ "java/lang/invoke/VarHandle" ∧ (parseMethodDescriptor y.desc).map (fun d => d.parameters.length) = some na)
theorem zGoodC {y : MethodName} {bytes : ByteArray} {maxL : Nat} {ret : Option FieldType} (h : Cond.code y bytes maxL ret ∈ zTb) : GoodIn zTb (Cond.code y bytes maxL ret :: zTb) := by
  intro w hw
  have hw' : w ∈ zTb := (List.mem_cons.mp hw).elim (fun e => e ▸ h) id
  exact ⟨hw', good_of_word (List.mem_filter.mp hw').2⟩
theorem zCat {b : zSg} {st : List Value} (h : (st.map fun v => v.category).sum ≤ 8) : ((st.map (zrv b)).map fun v => v.category).sum ≤ 8 := by
  rw [List.map_map, show ((fun v : Value => v.category) ∘ zrv b) = fun v => v.category from funext fun v => zrv_cat b v]; exact h
theorem zRoom {d' d mc ms mc' ms' maxL : Nat} (h : d' + 1 ≤ d ∧ maxL ≤ 45) : (zRm d' mc' ms').frames + 1 ≤ (zRm d mc ms).frames ∧ 8 + (maxL + 11) + (zRm d' mc' ms').locals ≤ (zRm d mc ms).locals := by
  refine ⟨h.1, ?_⟩
  show 8 + (maxL + 11) + 64 * d' ≤ 64 * d
  omega
/-- a static call -/
theorem x_callS {β : Type} {emc : β → Option Value × Mem} {y : MethodName} {bytes : ByteArray} {maxL : Nat} {ret' : Option FieldType} {d' n2 mc' ms' i na : Nat} {as st0 : List Value} {cr : Option β} {K : β → Option α} (hw : zCB own i y bytes maxL ret' na ∧ Cond.static y ∈ zTb) (hna : as.length = na) (hdd : d' + 1 ≤ d ∧ maxL ≤ 45) (hroom : zRk κ (cs.1 + mc', cs.2 + ms'))
    (hM : ∀ x, cr = some x → ∀ l dC dI b, MT l dC dI b y bytes maxL ret' d' mc' ms' n n2 as M (emc x).1 (emc x).2) (hC : CX κ cc own nL ret d) (hd : decode cc pc = .ok (.invokestatic i, 3)) (hq : pc + 3 = q) (hst : as.reverse ++ st = st0) (h8 : (st.map fun v => v.category).sum ≤ 8)
    (kk : ∀ x, cr = some x → X κ nL em n2 (cs.1 + mc', cs.2 + ms') q L ((emc x).1.toList ++ st) (emc x).2 (K x)) : X κ nL em n cs pc L st0 M (Option.bind cr K) := by
  subst hq; subst hst
  refine x_ldcase fun x hx0 => ?_
  have kk := kk x hx0
  have hM := hM x hx0
  obtain ⟨p, l, e, R, s, m, args, below, meth, c, dC, dI, b, mc, ms, n'⟩ := κ
  obtain ⟨hx, hb, hml, hown, hts, hr, hlk, hK, hR, hNs⟩ := hC
  intro r hr0 H locs ls h2 hl
  obtain ⟨hRL, hlo, hmo, hb0, hfr⟩ := h2
  subst hR
  obtain ⟨⟨w1, w2, w3, w4⟩, w5⟩ := hw
  have hrun := va_runS (e := e) (below := below) (meth := meth) (H := H) (locs := locs) (cells := cs.1) (slots := cs.2) (As := as.map (zrv b)) (rest := st.map (zrv b)) (g := F0 m pc ls ((as.reverse ++ st).map (zrv b))) ⟨hx, hb, hml, hown, hts⟩ (hM l dC dI b) ⟨callB_of na hts (zGoodC w3) rfl rfl rfl (hts _ w2) (hts _ w1) w4 (zRoom hdd), hts _ w5⟩ ⟨zPc_blind, zPc_at hRL hK hNs⟩ rfl (by rw [List.length_map]; exact hna) hl.1 (by rw [List.map_append, List.map_reverse]) (lv_room (zCat h8)) hd hroom
  refine zAfter hrun hlo hmo hfr (fun H1 locs1 e1 e2 e3 e4 => ?_)
  have := kk r hr0 H1 locs1 ls ⟨e1, e2, e3, hb0, e4⟩ hl
  have e5 : (List.map (zrv b) ((emc x).1.toList ++ st)) = ((emc x).1.map (zrv b)).toList ++ st.map (zrv b) := by
    cases (emc x).1 <;> rfl
  show W _ _ _ _ _ _ _ _ _ _ _ _ _ _ _ (F0 m (pc + 3) ls _)
  rw [← e5]
  exact this
theorem x_callSN {β : Type} {emc : β → Option Value × Mem} {y : MethodName} {bytes : ByteArray} {maxL : Nat} {ret' : Option FieldType} {d' n2 mc' ms' i na : Nat} {as st0 : List Value} {cr : Option β} {K : β → Option α} (hw : zCN own i y bytes maxL ret' na ∧ Cond.static y ∈ zTb) (hna : as.length = na) (hdd : d' + 1 ≤ d ∧ maxL ≤ 45) (hroom : zRk κ (cs.1 + mc', cs.2 + ms'))
    (hM : ∀ x, cr = some x → ∀ l dC dI b, MT l dC dI b y bytes maxL ret' d' mc' ms' n n2 as M (emc x).1 (emc x).2) (hC : CX κ cc own nL ret d) (hd : decode cc pc = .ok (.invokestatic i, 3)) (hq : pc + 3 = q) (hst : as.reverse ++ st = st0) (h8 : (st.map fun v => v.category).sum ≤ 8)
    (kk : ∀ x, cr = some x → X κ nL em n2 (cs.1 + mc', cs.2 + ms') q L ((emc x).1.toList ++ st) (emc x).2 (K x)) : X κ nL em n cs pc L st0 M (Option.bind cr K) := by
  subst hq; subst hst
  refine x_ldcase fun x hx0 => ?_
  have kk := kk x hx0
  have hM := hM x hx0
  obtain ⟨p, l, e, R, s, m, args, below, meth, c, dC, dI, b, mc, ms, n'⟩ := κ
  obtain ⟨hx, hb, hml, hown, hts, hr, hlk, hK, hR, hNs⟩ := hC
  intro r hr0 H locs ls h2 hl
  obtain ⟨hRL, hlo, hmo, hb0, hfr⟩ := h2
  subst hR
  obtain ⟨⟨⟨host, w1⟩, w2, w3, w4⟩, w5⟩ := hw
  have hrun := va_runSN (e := e) (below := below) (meth := meth) (H := H) (locs := locs) (cells := cs.1) (slots := cs.2) (As := as.map (zrv b)) (rest := st.map (zrv b)) (g := F0 m pc ls ((as.reverse ++ st).map (zrv b))) ⟨hx, hb, hml, hown, hts⟩ (hM l dC dI b) ⟨va_cnB na hts (zGoodC w3) rfl rfl rfl (hNs _ w1) (hts _ w2) w4 (zRoom hdd), hts _ w5, trivial⟩ ⟨zPc_blind, zPc_at hRL hK hNs⟩ rfl (by rw [List.length_map]; exact hna) hl.1 (by rw [List.map_append, List.map_reverse]) (lv_room (zCat h8)) hd hroom
  refine zAfter hrun hlo hmo hfr (fun H1 locs1 e1 e2 e3 e4 => ?_)
  have := kk r hr0 H1 locs1 ls ⟨e1, e2, e3, hb0, e4⟩ hl
  have e5 : (List.map (zrv b) ((emc x).1.toList ++ st)) = ((emc x).1.map (zrv b)).toList ++ st.map (zrv b) := by
    cases (emc x).1 <;> rfl
  show W _ _ _ _ _ _ _ _ _ _ _ _ _ _ _ (F0 m (pc + 3) ls _)
  rw [← e5]
  exact this
/-- a call of an instance's method -/
theorem x_callV {β : Type} {emc : β → Option Value × Mem} {y : MethodName} {bytes : ByteArray} {maxL : Nat} {ret' : Option FieldType} {d' n2 mc' ms' i na a ci : Nat} {as st0 : List Value} {cr : Option β} {K : β → Option α} (hw : zCB own i y bytes maxL ret' na ∧ Cond.instanceMethod y ∈ zTb ∧ Cond.selects y.cls y y ∈ zTb ∧ y.cls = zNm ci ∧ ci < 13) (hna : as.length = na) (hdd : d' + 1 ≤ d ∧ maxL ≤ 45) (hroom : zRk κ (cs.1 + mc', cs.2 + ms'))
    (hO : zO n a ci) (hM : ∀ x, cr = some x → ∀ l dC dI b, MT l dC dI b y bytes maxL ret' d' mc' ms' n n2 (.ref a :: as) M (emc x).1 (emc x).2) (hC : CX κ cc own nL ret d) (hd : decode cc pc = .ok (.invokevirtual i, 3)) (hq : pc + 3 = q) (hst : as.reverse ++ .ref a :: st = st0) (h8 : (st.map fun v => v.category).sum ≤ 8)
    (kk : ∀ x, cr = some x → X κ nL em n2 (cs.1 + mc', cs.2 + ms') q L ((emc x).1.toList ++ st) (emc x).2 (K x)) : X κ nL em n cs pc L st0 M (Option.bind cr K) := by
  subst hq; subst hst
  refine x_ldcase fun x hx0 => ?_
  have kk := kk x hx0
  have hM := hM x hx0
  obtain ⟨p, l, e, R, s, m, args, below, meth, c, dC, dI, b, mc, ms, n'⟩ := κ
  obtain ⟨hx, hb, hml, hown, hts, hr, hlk, hK, hR, hNs⟩ := hC
  intro r hr0 H locs ls h2 hl
  obtain ⟨hRL, hlo, hmo, hb0, hfr⟩ := h2
  subst hR
  obtain ⟨⟨w1, w2, w3, w4⟩, w5, w6, w7, w8⟩ := hw
  have hrc : ∃ cellB : Cell, H[zad b a]? = some cellB ∧ cellB.vm.isStatics = false ∧ s.vm.findClass y.cls = some cellB.cls := by
    obtain ⟨cell, q1, q2, q3, q4⟩ := zObj (hRL.2.2.1 a hO.1) w8 hO.2
    refine ⟨cell, by rw [zad_lt hO.1 hRL.2.1]; exact q1, by rw [q3]; rfl, ?_⟩
    rw [q2, w7]
    exact (hK.1 ci _ (zCl_at ci w8)).2.1
  have hrun := va_runV (e := e) (below := below) (meth := meth) (C := y.cls) (b := zad b a) (H := H) (locs := locs) (cells := cs.1) (slots := cs.2) (As := as.map (zrv b)) (rest := st.map (zrv b)) (g := F0 m pc ls ((as.reverse ++ .ref a :: st).map (zrv b))) ⟨hx, hb, hml, hown, hts⟩ (hM l dC dI b) ⟨callB_of na hts (zGoodC w3) rfl rfl rfl (hts _ w2) (hts _ w1) w4 (zRoom hdd), hts _ w5, hts _ w6⟩ ⟨zPc_blind, hrc, zPc_at (as := .ref a :: as) hRL hK hNs⟩ rfl (by rw [List.length_map]; exact hna) hl.1 (by rw [List.map_append, List.map_reverse]; rfl) (lv_room (zCat h8)) hd hroom
  refine zAfter hrun hlo hmo hfr (fun H1 locs1 e1 e2 e3 e4 => ?_)
  have := kk r hr0 H1 locs1 ls ⟨e1, e2, e3, hb0, e4⟩ hl
  have e5 : (List.map (zrv b) ((emc x).1.toList ++ st)) = ((emc x).1.map (zrv b)).toList ++ st.map (zrv b) := by
    cases (emc x).1 <;> rfl
  show W _ _ _ _ _ _ _ _ _ _ _ _ _ _ _ (F0 m (pc + 3) ls _)
  rw [← e5]
  exact this
end
section
variable {α : Type} {κ : KX} {nL : Nat} {em : α → Option Value × Mem} {n : Nat} {cs : Nat × Nat} {pc q : Nat} {L st : List Value} {M : Mem} {res : Option α} {cc : ByteArray} {own : String} {ret : Option FieldType} {d : Nat}
/-! calls that make nothing, by what they return -/
theorem x_callSi {y : MethodName} {bytes : ByteArray} {maxL : Nat} {ret' : Option FieldType} {d' i na : Nat} {as st0 : List Value} {cr : Option (Int32 × Mem)} {K : Int32 × Mem → Option α} (hw : zCB own i y bytes maxL ret' na ∧ Cond.static y ∈ zTb) (hna : as.length = na) (hdd : d' + 1 ≤ d ∧ maxL ≤ 45) (hroom : zRk κ cs) (hM : ∀ x, cr = some x → ∀ l dC dI b, MT l dC dI b y bytes maxL ret' d' 0 0 n n as M (emI x).1 (emI x).2) (hC : CX κ cc own nL ret d) (hd : decode cc pc = .ok (.invokestatic i, 3)) (hq : pc + 3 = q) (hst : as.reverse ++ st = st0) (h8 : (st.map fun v => v.category).sum ≤ 8) (kk : ∀ x, X κ nL em n cs q L (.int x.1 :: st) x.2 (K x)) : X κ nL em n cs pc L st0 M (Option.bind cr K) :=
  x_callS (mc' := 0) (ms' := 0) (emc := emI) hw hna hdd hroom hM hC hd hq hst h8 (fun x _ => kk x)
theorem x_callSl {y : MethodName} {bytes : ByteArray} {maxL : Nat} {ret' : Option FieldType} {d' i na : Nat} {as st0 : List Value} {cr : Option (Int64 × Mem)} {K : Int64 × Mem → Option α} (hw : zCB own i y bytes maxL ret' na ∧ Cond.static y ∈ zTb) (hna : as.length = na) (hdd : d' + 1 ≤ d ∧ maxL ≤ 45) (hroom : zRk κ cs) (hM : ∀ x, cr = some x → ∀ l dC dI b, MT l dC dI b y bytes maxL ret' d' 0 0 n n as M (emL x).1 (emL x).2) (hC : CX κ cc own nL ret d) (hd : decode cc pc = .ok (.invokestatic i, 3)) (hq : pc + 3 = q) (hst : as.reverse ++ st = st0) (h8 : (st.map fun v => v.category).sum ≤ 8) (kk : ∀ x, X κ nL em n cs q L (.long x.1 :: st) x.2 (K x)) : X κ nL em n cs pc L st0 M (Option.bind cr K) :=
  x_callS (mc' := 0) (ms' := 0) (emc := emL) hw hna hdd hroom hM hC hd hq hst h8 (fun x _ => kk x)
theorem x_callSv {y : MethodName} {bytes : ByteArray} {maxL : Nat} {ret' : Option FieldType} {d' i na : Nat} {as st0 : List Value} {cr : Option (Mem)} {K : Mem → Option α} (hw : zCB own i y bytes maxL ret' na ∧ Cond.static y ∈ zTb) (hna : as.length = na) (hdd : d' + 1 ≤ d ∧ maxL ≤ 45) (hroom : zRk κ cs) (hM : ∀ x, cr = some x → ∀ l dC dI b, MT l dC dI b y bytes maxL ret' d' 0 0 n n as M (emV x).1 (emV x).2) (hC : CX κ cc own nL ret d) (hd : decode cc pc = .ok (.invokestatic i, 3)) (hq : pc + 3 = q) (hst : as.reverse ++ st = st0) (h8 : (st.map fun v => v.category).sum ≤ 8) (kk : ∀ x, X κ nL em n cs q L (st) x (K x)) : X κ nL em n cs pc L st0 M (Option.bind cr K) :=
  x_callS (mc' := 0) (ms' := 0) (emc := emV) hw hna hdd hroom hM hC hd hq hst h8 (fun x _ => kk x)
theorem x_callSNi {y : MethodName} {bytes : ByteArray} {maxL : Nat} {ret' : Option FieldType} {d' i na : Nat} {as st0 : List Value} {cr : Option (Int32 × Mem)} {K : Int32 × Mem → Option α} (hw : zCN own i y bytes maxL ret' na ∧ Cond.static y ∈ zTb) (hna : as.length = na) (hdd : d' + 1 ≤ d ∧ maxL ≤ 45) (hroom : zRk κ cs) (hM : ∀ x, cr = some x → ∀ l dC dI b, MT l dC dI b y bytes maxL ret' d' 0 0 n n as M (emI x).1 (emI x).2) (hC : CX κ cc own nL ret d) (hd : decode cc pc = .ok (.invokestatic i, 3)) (hq : pc + 3 = q) (hst : as.reverse ++ st = st0) (h8 : (st.map fun v => v.category).sum ≤ 8) (kk : ∀ x, X κ nL em n cs q L (.int x.1 :: st) x.2 (K x)) : X κ nL em n cs pc L st0 M (Option.bind cr K) :=
  x_callSN (mc' := 0) (ms' := 0) (emc := emI) hw hna hdd hroom hM hC hd hq hst h8 (fun x _ => kk x)
theorem x_callSNl {y : MethodName} {bytes : ByteArray} {maxL : Nat} {ret' : Option FieldType} {d' i na : Nat} {as st0 : List Value} {cr : Option (Int64 × Mem)} {K : Int64 × Mem → Option α} (hw : zCN own i y bytes maxL ret' na ∧ Cond.static y ∈ zTb) (hna : as.length = na) (hdd : d' + 1 ≤ d ∧ maxL ≤ 45) (hroom : zRk κ cs) (hM : ∀ x, cr = some x → ∀ l dC dI b, MT l dC dI b y bytes maxL ret' d' 0 0 n n as M (emL x).1 (emL x).2) (hC : CX κ cc own nL ret d) (hd : decode cc pc = .ok (.invokestatic i, 3)) (hq : pc + 3 = q) (hst : as.reverse ++ st = st0) (h8 : (st.map fun v => v.category).sum ≤ 8) (kk : ∀ x, X κ nL em n cs q L (.long x.1 :: st) x.2 (K x)) : X κ nL em n cs pc L st0 M (Option.bind cr K) :=
  x_callSN (mc' := 0) (ms' := 0) (emc := emL) hw hna hdd hroom hM hC hd hq hst h8 (fun x _ => kk x)
theorem x_callSNv {y : MethodName} {bytes : ByteArray} {maxL : Nat} {ret' : Option FieldType} {d' i na : Nat} {as st0 : List Value} {cr : Option (Mem)} {K : Mem → Option α} (hw : zCN own i y bytes maxL ret' na ∧ Cond.static y ∈ zTb) (hna : as.length = na) (hdd : d' + 1 ≤ d ∧ maxL ≤ 45) (hroom : zRk κ cs) (hM : ∀ x, cr = some x → ∀ l dC dI b, MT l dC dI b y bytes maxL ret' d' 0 0 n n as M (emV x).1 (emV x).2) (hC : CX κ cc own nL ret d) (hd : decode cc pc = .ok (.invokestatic i, 3)) (hq : pc + 3 = q) (hst : as.reverse ++ st = st0) (h8 : (st.map fun v => v.category).sum ≤ 8) (kk : ∀ x, X κ nL em n cs q L (st) x (K x)) : X κ nL em n cs pc L st0 M (Option.bind cr K) :=
  x_callSN (mc' := 0) (ms' := 0) (emc := emV) hw hna hdd hroom hM hC hd hq hst h8 (fun x _ => kk x)
theorem x_callVi {y : MethodName} {bytes : ByteArray} {maxL : Nat} {ret' : Option FieldType} {d' i na a ci : Nat} {as st0 : List Value} {cr : Option (Int32 × Mem)} {K : Int32 × Mem → Option α} (hw : zCB own i y bytes maxL ret' na ∧ Cond.instanceMethod y ∈ zTb ∧ Cond.selects y.cls y y ∈ zTb ∧ y.cls = zNm ci ∧ ci < 13) (hna : as.length = na) (hdd : d' + 1 ≤ d ∧ maxL ≤ 45) (hroom : zRk κ cs) (hO : zO n a ci) (hM : ∀ x, cr = some x → ∀ l dC dI b, MT l dC dI b y bytes maxL ret' d' 0 0 n n (.ref a :: as) M (emI x).1 (emI x).2) (hC : CX κ cc own nL ret d) (hd : decode cc pc = .ok (.invokevirtual i, 3)) (hq : pc + 3 = q) (hst : as.reverse ++ .ref a :: st = st0) (h8 : (st.map fun v => v.category).sum ≤ 8) (kk : ∀ x, X κ nL em n cs q L (.int x.1 :: st) x.2 (K x)) : X κ nL em n cs pc L st0 M (Option.bind cr K) :=
  x_callV (mc' := 0) (ms' := 0) (emc := emI) hw hna hdd hroom hO hM hC hd hq hst h8 (fun x _ => kk x)
theorem x_callVl {y : MethodName} {bytes : ByteArray} {maxL : Nat} {ret' : Option FieldType} {d' i na a ci : Nat} {as st0 : List Value} {cr : Option (Int64 × Mem)} {K : Int64 × Mem → Option α} (hw : zCB own i y bytes maxL ret' na ∧ Cond.instanceMethod y ∈ zTb ∧ Cond.selects y.cls y y ∈ zTb ∧ y.cls = zNm ci ∧ ci < 13) (hna : as.length = na) (hdd : d' + 1 ≤ d ∧ maxL ≤ 45) (hroom : zRk κ cs) (hO : zO n a ci) (hM : ∀ x, cr = some x → ∀ l dC dI b, MT l dC dI b y bytes maxL ret' d' 0 0 n n (.ref a :: as) M (emL x).1 (emL x).2) (hC : CX κ cc own nL ret d) (hd : decode cc pc = .ok (.invokevirtual i, 3)) (hq : pc + 3 = q) (hst : as.reverse ++ .ref a :: st = st0) (h8 : (st.map fun v => v.category).sum ≤ 8) (kk : ∀ x, X κ nL em n cs q L (.long x.1 :: st) x.2 (K x)) : X κ nL em n cs pc L st0 M (Option.bind cr K) :=
  x_callV (mc' := 0) (ms' := 0) (emc := emL) hw hna hdd hroom hO hM hC hd hq hst h8 (fun x _ => kk x)
theorem x_callVv {y : MethodName} {bytes : ByteArray} {maxL : Nat} {ret' : Option FieldType} {d' i na a ci : Nat} {as st0 : List Value} {cr : Option (Mem)} {K : Mem → Option α} (hw : zCB own i y bytes maxL ret' na ∧ Cond.instanceMethod y ∈ zTb ∧ Cond.selects y.cls y y ∈ zTb ∧ y.cls = zNm ci ∧ ci < 13) (hna : as.length = na) (hdd : d' + 1 ≤ d ∧ maxL ≤ 45) (hroom : zRk κ cs) (hO : zO n a ci) (hM : ∀ x, cr = some x → ∀ l dC dI b, MT l dC dI b y bytes maxL ret' d' 0 0 n n (.ref a :: as) M (emV x).1 (emV x).2) (hC : CX κ cc own nL ret d) (hd : decode cc pc = .ok (.invokevirtual i, 3)) (hq : pc + 3 = q) (hst : as.reverse ++ .ref a :: st = st0) (h8 : (st.map fun v => v.category).sum ≤ 8) (kk : ∀ x, X κ nL em n cs q L (st) x (K x)) : X κ nL em n cs pc L st0 M (Option.bind cr K) :=
  x_callV (mc' := 0) (ms' := 0) (emc := emV) hw hna hdd hroom hO hM hC hd hq hst h8 (fun x _ => kk x)
theorem x_nmM {e : Mem} {K : Mem → Option α} (h : ∀ M1, X κ nL em n cs pc L st M1 (K M1)) : X κ nL em n cs pc L st e (Option.bind (some e) K) := h e
theorem x_nmI {e : Int32} {K : Int32 → Option α} (F : Int32 → List Value) (hL : F e = L) (h : ∀ v, X κ nL em n cs pc (F v) st M (K v)) : X κ nL em n cs pc L st M (Option.bind (some e) K) := by subst hL; exact h e
theorem x_nmJ {e : Int64} {K : Int64 → Option α} (F : Int64 → List Value) (hL : F e = L) (h : ∀ v, X κ nL em n cs pc (F v) st M (K v)) : X κ nL em n cs pc L st M (Option.bind (some e) K) := by subst hL; exact h e
def zbz {α : Type} (v : Int32) (K : Option α) : Option α := if v = 0 ∨ v = 1 then K else none
theorem x_bz {v : Int32} (h : (narrow .boolean (.int v) = .int v ∧ fits .boolean (.int v) = true) → X κ nL em n cs pc L st M res) : X κ nL em n cs pc L st M (zbz v res) := by
  unfold zbz
  by_cases hv : v = 0 ∨ v = 1
  · rw [if_pos hv]; exact h (by rcases hv with rfl | rfl <;> exact ⟨rfl, rfl⟩)
  · rw [if_neg hv]; exact fun r hr => by cases hr
def zle : List Value → List Value → Prop
  | [], _ => True
  | _ :: _, [] => False
  | a :: L', b :: L => (a = .null ∨ a = b) ∧ zle L' L
theorem zle_get : ∀ {L' L : List Value}, zle L' L → ∀ (i : Nat) (v : Value), L'[i]? = some v → v ≠ .null → L[i]? = some v
  | [], _, _, i, v, h, _ => by simp at h
  | _ :: _, [], h0, _, _, _, _ => h0.elim
  | a :: L', b :: L, h0, 0, v, h, hv => by
    simp at h
    subst h
    rcases h0.1 with h1 | h1
    · exact absurd h1 hv
    · rw [h1]; rfl
  | a :: L', b :: L, h0, i + 1, v, h, hv => by
    have := zle_get h0.2 i v (by simpa using h) hv
    simpa using this
theorem x_weak {L' : List Value} (hL : zle L' L) (h : X κ nL em n cs pc L' st M res) : X κ nL em n cs pc L st M res :=
  fun r hr H locs ls h2 hl => h r hr H locs ls h2 ⟨hl.1, hl.2.1, fun i v hi hv => hl.2.2 i v (zle_get hL i v hi hv) hv⟩
end
end
section
/-! System.arraycopy between arrays of ints -/
def zcopy (M : Mem) (a : Nat) (sp : Int32) (a2 : Nat) (dp ln : Int32) : Option Mem :=
  if sp < 0 ∨ dp < 0 ∨ ln < 0 ∨ (zSH a).2 < sp.toNatClampNeg + ln.toNatClampNeg ∨ (zSH a2).2 < dp.toNatClampNeg + ln.toNatClampNeg then none
  else some (zwI M a2 (va_cpy (zI M a) (zI M a2) sp.toNatClampNeg dp.toNatClampNeg ln.toNatClampNeg))
section
variable {α : Type} {κ : KX} {nL : Nat} {em : α → Option Value × Mem} {n : Nat} {cs : Nat × Nat} {pc q : Nat} {L st : List Value} {M : Mem} {res : Option α} {cc : ByteArray} {own : String} {ret : Option FieldType} {d : Nat}
theorem x_acopy {i a a2 : Nat} {sp dp ln : Int32} {K : Mem → Option α} (hw : Cond.methodLink own i arraycopyName ∈ zTb ∧ Cond.native arraycopyName ∈ zTb ∧ Cond.static arraycopyName ∈ zTb ∧ Cond.initialized "java/lang/System" ∈ zTb) (hO : zO n a 20) (hO2 : zO n a2 20) (hC : CX κ cc own nL ret (d + 1)) (hd : decode cc pc = .ok (.invokestatic i, 3)) (hq : pc + 3 = q) (h8 : (st.map fun v => v.category).sum ≤ 8) (kk : ∀ M1, X κ nL em n cs q L st M1 (K M1)) : X κ nL em n cs pc L (.int ln :: .int dp :: .ref a2 :: .int sp :: .ref a :: st) M (Option.bind (zcopy M a sp a2 dp ln) K) := by
  subst hq
  refine x_ldcase fun M1 hM1 => ?_
  unfold zcopy at hM1
  by_cases hcond : sp < 0 ∨ dp < 0 ∨ ln < 0 ∨ (zSH a).2 < sp.toNatClampNeg + ln.toNatClampNeg ∨ (zSH a2).2 < dp.toNatClampNeg + ln.toNatClampNeg
  · rw [if_pos hcond] at hM1; cases hM1
  rw [if_neg hcond] at hM1
  have h1 : ¬ sp < 0 := fun h => hcond (Or.inl h)
  have h2' : ¬ dp < 0 := fun h => hcond (Or.inr (Or.inl h))
  have h3 : ¬ ln < 0 := fun h => hcond (Or.inr (Or.inr (Or.inl h)))
  have h4 : sp.toNatClampNeg + ln.toNatClampNeg ≤ (zSH a).2 := Nat.not_lt.mp fun h => hcond (Or.inr (Or.inr (Or.inr (Or.inl h))))
  have h5 : dp.toNatClampNeg + ln.toNatClampNeg ≤ (zSH a2).2 := Nat.not_lt.mp fun h => hcond (Or.inr (Or.inr (Or.inr (Or.inr h))))
  have kk := kk M1
  cases hM1
  obtain ⟨p, l, e, R, s, m, args, below, meth, c, dC, dI, b, mc, ms, n'⟩ := κ
  obtain ⟨hx, hb, hml, hown, hts, hr, hlk, hK, hR, hNs⟩ := hC
  intro r hr0 H locs ls h2 hl
  obtain ⟨hRL, hlo, hmo, hb0, hfr⟩ := h2
  obtain ⟨w1, w2, w3, w4⟩ := hw
  obtain ⟨cA, g1, -, g3⟩ := zArr (hRL.2.2.1 a hO.1) (by decide) hO.2 rfl
  obtain ⟨cB, k1, k2, k3⟩ := zArr (hRL.2.2.1 a2 hO2.1) (by decide) hO2.2 rfl
  have nn : ∀ z : Int32, ¬ z < 0 → z.toInt = (z.toNatClampNeg : Int) := by
    intro z hz
    have hz0 : (0 : Int) ≤ z.toInt := by
      have := Int32.not_lt.mp hz
      simpa using Int32.le_iff_toInt_le.mp this
    show z.toInt = ((z.toInt.toNat : Nat) : Int)
    omega
  show W p l e R s m args below meth c H locs cs.1 cs.2 _ (F0 m pc ls (.int ln :: .int dp :: .ref (zad b a2) :: .int sp :: .ref (zad b a) :: st.map (zrv b)))
  rw [zad_lt hO.1 hRL.2.1, zad_lt hO2.1 hRL.2.1]
  have g3 : H[b.1 + a]? = some (arrV cA (zSH a).2 (fun j => .int (zI M a j))) := g3
  have k3 : H[b.1 + a2]? = some (arrV cB (zSH a2).2 (fun j => .int (zI M a2 j))) := k3
  intro T hT Z
  obtain ⟨-, kc0, hk0, cm0, hkk0⟩ := g1 (zSH a).2 (fun j => .int (zI M a j))
  obtain ⟨-, kc1, hk1, cm1, hkk1⟩ := k1 (zSH a2).2 (fun j => .int (zI M a2 j))
  obtain ⟨vm', Z', step⟩ := Z.arraycopy hx hown (hts _ w1) (hts _ w2) (hts _ w3) (hts _ w4) (src := b.1 + a) (dst := b.1 + a2) (cs := arrV cA (zSH a).2 (fun j => .int (zI M a j))) (cd := arrV cB (zSH a2).2 (fun j => .int (zI M a2 j))) (srcPos := sp) (destPos := dp) (n := ln) (by rw [hT]; exact g3) (by rw [hT]; exact k3)
    (fun _ h => by cases h) (fun _ h => by cases h) (fun h => by cases h) (fun h => by cases h) hk0 hk1 hkk0 hkk1 (by decide) h1 h2' h3
    (by rw [nn sp h1, nn ln h3, arrV_size]; omega)
    (by rw [nn dp h2', nn ln h3, arrV_size]; omega)
    (fun vm₁ _ i hi => by
      have e : (arrV cA (zSH a).2 (fun j => Value.int (zI M a j))).slots.getD (sp.toNatClampNeg + i) .null = .int (zI M a (sp.toNatClampNeg + i)) := by
        rw [Array.getD_eq_getD_getElem?, arrV_read _ _ (by omega)]
        rfl
      refine ⟨?_, ?_⟩
      · rw [e]; rfl
      · rw [e]; exact trivial)
    (g := F0 m pc ls (.int ln :: .int dp :: .ref (b.1 + a2) :: .int sp :: .ref (b.1 + a) :: st.map (zrv b))) rfl (by rw [hml]; exact hl.1) (rest := st.map (zrv b)) rfl (by rw [hb]; exact hd) (by rw [hR]; exact Nat.le_add_left _ _) (by
      rw [hR]
      have := zCat (b := b) h8
      show 2 * 0 + _ + (nativeFrameWords "java/lang/System" "arraycopy" 5 + 11) ≤ 64 * (d + 1)
      have e : nativeFrameWords "java/lang/System" "arraycopy" 5 ≤ 40 := by decide +kernel
      omega)
  have e1 : copied (arrV cA (zSH a).2 (fun j => .int (zI M a j))) (arrV cB (zSH a2).2 (fun j => .int (zI M a2 j))) sp dp ln = arrV cB (zSH a2).2 (fun j => .int (va_cpy (zI M a) (zI M a2) sp.toNatClampNeg dp.toNatClampNeg ln.toNatClampNeg j)) := va_copied (fun z => .int z) cA cB (zI M a) (zI M a2) h4
  rw [e1] at Z' step
  have hlt : b.1 + a2 < H.size := (Array.getElem?_eq_some_iff.mp k3).1
  have oq : ∀ q : Nat, q ≠ b.1 + a2 → (H.setIfInBounds (b.1 + a2) (arrV cB (zSH a2).2 (fun j => .int (va_cpy (zI M a) (zI M a2) sp.toNatClampNeg dp.toNatClampNeg ln.toNatClampNeg j))))[q]? = H[q]? := fun q hq => by simp [Array.getElem?_setIfInBounds, Ne.symm hq]
  obtain ⟨t, a1, b1⟩ := kk r hr0 (H.setIfInBounds (b.1 + a2) (arrV cB (zSH a2).2 (fun j => .int (va_cpy (zI M a) (zI M a2) sp.toNatClampNeg dp.toNatClampNeg ln.toNatClampNeg j)))) _ ls ⟨hRL.upd (by simp) oq (zOff_wI M a2 _) (zArr' ⟨cB, k1, k2, by
      rw [Array.getElem?_setIfInBounds_self_of_lt hlt]
      congr 2
      funext j
      show _ = Value.int (zup M.1 a2 _ a2 j)
      rw [zup_self]⟩ (by decide) hO2.2 rfl) (hRL.2.2.2.I a2 _), fun q hq => by
        rcases List.mem_append.mp hq with h | h
        · exact hlo q h
        · obtain ⟨z, -, hz⟩ := List.mem_map.mp h
          rw [← hz]; exact Nat.le_add_right _ _, by simp; exact hmo, hb0, fun q h => (oq q (Nat.ne_of_lt (Nat.lt_of_lt_of_le h (Nat.le_add_right _ _)))).trans (hfr q h)⟩ hl _ (by rw [← hT]; rfl) Z'
  exact ⟨t, step t a1, b1⟩
end
end
section
set_option maxRecDepth 20000 in
theorem c_iconst_0 : Int32.ofInt 0 = (0 : Int32) := by decide
set_option maxRecDepth 20000 in
theorem c_bipush_70 : (Int8.ofInt 70).toInt32 = (70 : Int32) := by decide
set_option maxRecDepth 20000 in
theorem c_bipush_30 : (Int8.ofInt 30).toInt32 = (30 : Int32) := by decide
set_option maxRecDepth 20000 in
theorem c_bipush_50 : (Int8.ofInt 50).toInt32 = (50 : Int32) := by decide
set_option maxRecDepth 20000 in
theorem c_iconst_3 : Int32.ofInt 3 = (3 : Int32) := by decide
set_option maxRecDepth 20000 in
theorem c_iconst_1 : Int32.ofInt 1 = (1 : Int32) := by decide
set_option maxRecDepth 20000 in
theorem c_iconst_2 : Int32.ofInt 2 = (2 : Int32) := by decide
set_option maxRecDepth 20000 in
theorem c_iconst_m1 : Int32.ofInt (-1) = ((-1) : Int32) := by decide
set_option maxRecDepth 20000 in
theorem c_bipush_16 : (Int8.ofInt 16).toInt32 = (16 : Int32) := by decide
set_option maxRecDepth 20000 in
theorem c_bipush_32 : (Int8.ofInt 32).toInt32 = (32 : Int32) := by decide
set_option maxRecDepth 20000 in
theorem c_bipush_127 : (Int8.ofInt 127).toInt32 = (127 : Int32) := by decide
set_option maxRecDepth 20000 in
theorem c_bipush_8 : (Int8.ofInt 8).toInt32 = (8 : Int32) := by decide
set_option maxRecDepth 20000 in
theorem c_iconst_4 : Int32.ofInt 4 = (4 : Int32) := by decide
set_option maxRecDepth 20000 in
theorem c_bipush_m100 : (Int8.ofInt (-100)).toInt32 = ((-100) : Int32) := by decide
set_option maxRecDepth 20000 in
theorem c_bipush_m13 : (Int8.ofInt (-13)).toInt32 = ((-13) : Int32) := by decide
set_option maxRecDepth 20000 in
theorem c_bipush_m14 : (Int8.ofInt (-14)).toInt32 = ((-14) : Int32) := by decide
set_option maxRecDepth 20000 in
theorem c_bipush_17 : (Int8.ofInt 17).toInt32 = (17 : Int32) := by decide
set_option maxRecDepth 20000 in
theorem c_bipush_18 : (Int8.ofInt 18).toInt32 = (18 : Int32) := by decide
set_option maxRecDepth 20000 in
theorem c_bipush_19 : (Int8.ofInt 19).toInt32 = (19 : Int32) := by decide
set_option maxRecDepth 20000 in
theorem c_bipush_99 : (Int8.ofInt 99).toInt32 = (99 : Int32) := by decide
set_option maxRecDepth 20000 in
theorem c_bipush_40 : (Int8.ofInt 40).toInt32 = (40 : Int32) := by decide
set_option maxRecDepth 20000 in
theorem c_iconst_m8 : Int32.ofInt (-8) = ((-8) : Int32) := by decide
set_option maxRecDepth 20000 in
theorem c_bipush_56 : (Int8.ofInt 56).toInt32 = (56 : Int32) := by decide
set_option maxRecDepth 20000 in
theorem c_iconst_5 : Int32.ofInt 5 = (5 : Int32) := by decide
set_option maxRecDepth 20000 in
theorem c_sipush_251 : (Int16.ofInt 251).toInt32 = (251 : Int32) := by decide
set_option maxRecDepth 20000 in
theorem c_sipush_211 : (Int16.ofInt 211).toInt32 = (211 : Int32) := by decide
set_option maxRecDepth 20000 in
theorem c_sipush_255 : (Int16.ofInt 255).toInt32 = (255 : Int32) := by decide
set_option maxRecDepth 20000 in
theorem c_bipush_6 : (Int8.ofInt 6).toInt32 = (6 : Int32) := by decide
set_option maxRecDepth 20000 in
theorem c_bipush_9 : (Int8.ofInt 9).toInt32 = (9 : Int32) := by decide
set_option maxRecDepth 20000 in
theorem c_sipush_999 : (Int16.ofInt 999).toInt32 = (999 : Int32) := by decide
set_option maxRecDepth 20000 in
theorem c_bipush_48 : (Int8.ofInt 48).toInt32 = (48 : Int32) := by decide
set_option maxRecDepth 20000 in
theorem c_bipush_57 : (Int8.ofInt 57).toInt32 = (57 : Int32) := by decide
set_option maxRecDepth 20000 in
theorem c_bipush_97 : (Int8.ofInt 97).toInt32 = (97 : Int32) := by decide
set_option maxRecDepth 20000 in
theorem c_bipush_122 : (Int8.ofInt 122).toInt32 = (122 : Int32) := by decide
set_option maxRecDepth 20000 in
theorem c_bipush_m3 : (Int8.ofInt (-3)).toInt32 = ((-3) : Int32) := by decide
set_option maxRecDepth 20000 in
theorem c_bipush_m4 : (Int8.ofInt (-4)).toInt32 = ((-4) : Int32) := by decide
set_option maxRecDepth 20000 in
theorem c_bipush_10 : (Int8.ofInt 10).toInt32 = (10 : Int32) := by decide
set_option maxRecDepth 20000 in
theorem c_bipush_27 : (Int8.ofInt 27).toInt32 = (27 : Int32) := by decide
set_option maxRecDepth 20000 in
theorem c_bipush_m2 : (Int8.ofInt (-2)).toInt32 = ((-2) : Int32) := by decide
set_option maxRecDepth 20000 in
theorem c_sipush_9999 : (Int16.ofInt 9999).toInt32 = (9999 : Int32) := by decide
set_option maxRecDepth 20000 in
theorem c_bipush_51 : (Int8.ofInt 51).toInt32 = (51 : Int32) := by decide
set_option maxRecDepth 20000 in
theorem c_bipush_49 : (Int8.ofInt 49).toInt32 = (49 : Int32) := by decide
set_option maxRecDepth 20000 in
theorem c_bipush_20 : (Int8.ofInt 20).toInt32 = (20 : Int32) := by decide
set_option maxRecDepth 20000 in
theorem c_bipush_100 : (Int8.ofInt 100).toInt32 = (100 : Int32) := by decide
set_option maxRecDepth 20000 in
theorem c_bipush_59 : (Int8.ofInt 59).toInt32 = (59 : Int32) := by decide
set_option maxRecDepth 20000 in
theorem c_bipush_7 : (Int8.ofInt 7).toInt32 = (7 : Int32) := by decide
set_option maxRecDepth 20000 in
theorem c_bipush_12 : (Int8.ofInt 12).toInt32 = (12 : Int32) := by decide
set_option maxRecDepth 20000 in
theorem c_bipush_43 : (Int8.ofInt 43).toInt32 = (43 : Int32) := by decide
set_option maxRecDepth 20000 in
theorem c_sipush_1600 : (Int16.ofInt 1600).toInt32 = (1600 : Int32) := by decide
set_option maxRecDepth 20000 in
theorem c_bipush_45 : (Int8.ofInt 45).toInt32 = (45 : Int32) := by decide
set_option maxRecDepth 20000 in
theorem c_bipush_42 : (Int8.ofInt 42).toInt32 = (42 : Int32) := by decide
set_option maxRecDepth 20000 in
theorem c_bipush_47 : (Int8.ofInt 47).toInt32 = (47 : Int32) := by decide
set_option maxRecDepth 20000 in
theorem c_bipush_m5 : (Int8.ofInt (-5)).toInt32 = ((-5) : Int32) := by decide
set_option maxRecDepth 20000 in
theorem c_bipush_37 : (Int8.ofInt 37).toInt32 = (37 : Int32) := by decide
set_option maxRecDepth 20000 in
theorem c_bipush_25 : (Int8.ofInt 25).toInt32 = (25 : Int32) := by decide
set_option maxRecDepth 20000 in
theorem c_bipush_m7 : (Int8.ofInt (-7)).toInt32 = ((-7) : Int32) := by decide
set_option maxRecDepth 20000 in
theorem c_bipush_m6 : (Int8.ofInt (-6)).toInt32 = ((-6) : Int32) := by decide
set_option maxRecDepth 20000 in
theorem c_bipush_26 : (Int8.ofInt 26).toInt32 = (26 : Int32) := by decide
set_option maxRecDepth 20000 in
theorem c_bipush_41 : (Int8.ofInt 41).toInt32 = (41 : Int32) := by decide
set_option maxRecDepth 20000 in
theorem c_bipush_44 : (Int8.ofInt 44).toInt32 = (44 : Int32) := by decide
set_option maxRecDepth 20000 in
theorem c_bipush_21 : (Int8.ofInt 21).toInt32 = (21 : Int32) := by decide
set_option maxRecDepth 20000 in
theorem c_bipush_m12 : (Int8.ofInt (-12)).toInt32 = ((-12) : Int32) := by decide
set_option maxRecDepth 20000 in
theorem c_bipush_22 : (Int8.ofInt 22).toInt32 = (22 : Int32) := by decide
set_option maxRecDepth 20000 in
theorem c_bipush_m11 : (Int8.ofInt (-11)).toInt32 = ((-11) : Int32) := by decide
set_option maxRecDepth 20000 in
theorem c_bipush_23 : (Int8.ofInt 23).toInt32 = (23 : Int32) := by decide
set_option maxRecDepth 20000 in
theorem c_bipush_91 : (Int8.ofInt 91).toInt32 = (91 : Int32) := by decide
set_option maxRecDepth 20000 in
theorem c_bipush_24 : (Int8.ofInt 24).toInt32 = (24 : Int32) := by decide
set_option maxRecDepth 20000 in
theorem c_bipush_93 : (Int8.ofInt 93).toInt32 = (93 : Int32) := by decide
set_option maxRecDepth 20000 in
theorem c_bipush_60 : (Int8.ofInt 60).toInt32 = (60 : Int32) := by decide
set_option maxRecDepth 20000 in
theorem c_bipush_62 : (Int8.ofInt 62).toInt32 = (62 : Int32) := by decide
set_option maxRecDepth 20000 in
theorem c_bipush_m10 : (Int8.ofInt (-10)).toInt32 = ((-10) : Int32) := by decide
set_option maxRecDepth 20000 in
theorem c_bipush_m9 : (Int8.ofInt (-9)).toInt32 = ((-9) : Int32) := by decide
set_option maxRecDepth 20000 in
theorem c_bipush_m8 : (Int8.ofInt (-8)).toInt32 = ((-8) : Int32) := by decide
set_option maxRecDepth 20000 in
theorem c_bipush_61 : (Int8.ofInt 61).toInt32 = (61 : Int32) := by decide
set_option maxRecDepth 20000 in
theorem c_bipush_63 : (Int8.ofInt 63).toInt32 = (63 : Int32) := by decide
set_option maxRecDepth 20000 in
theorem c_bipush_13 : (Int8.ofInt 13).toInt32 = (13 : Int32) := by decide
set_option maxRecDepth 20000 in
theorem c_bipush_14 : (Int8.ofInt 14).toInt32 = (14 : Int32) := by decide
set_option maxRecDepth 20000 in
theorem c_bipush_15 : (Int8.ofInt 15).toInt32 = (15 : Int32) := by decide
set_option maxRecDepth 20000 in
theorem c_sipush_1580 : (Int16.ofInt 1580).toInt32 = (1580 : Int32) := by decide
set_option maxRecDepth 20000 in
theorem c_bipush_31 : (Int8.ofInt 31).toInt32 = (31 : Int32) := by decide
set_option maxRecDepth 20000 in
theorem c_sipush_m1000 : (Int16.ofInt (-1000)).toInt32 = ((-1000) : Int32) := by decide
set_option maxRecDepth 20000 in
theorem c_bipush_64 : (Int8.ofInt 64).toInt32 = (64 : Int32) := by decide
set_option maxRecDepth 20000 in
theorem c_bipush_38 : (Int8.ofInt 38).toInt32 = (38 : Int32) := by decide
set_option maxRecDepth 20000 in
theorem c_bipush_39 : (Int8.ofInt 39).toInt32 = (39 : Int32) := by decide
set_option maxRecDepth 20000 in
theorem c_bipush_36 : (Int8.ofInt 36).toInt32 = (36 : Int32) := by decide
set_option maxRecDepth 20000 in
theorem c_bipush_35 : (Int8.ofInt 35).toInt32 = (35 : Int32) := by decide
set_option maxRecDepth 20000 in
theorem c_bipush_34 : (Int8.ofInt 34).toInt32 = (34 : Int32) := by decide
set_option maxRecDepth 20000 in
theorem c_bipush_33 : (Int8.ofInt 33).toInt32 = (33 : Int32) := by decide
set_option maxRecDepth 20000 in
theorem c_bipush_120 : (Int8.ofInt 120).toInt32 = (120 : Int32) := by decide
set_option maxRecDepth 20000 in
theorem c_iconst_m2 : Int32.ofInt (-2) = ((-2) : Int32) := by decide
set_option maxRecDepth 20000 in
theorem c_bipush_117 : (Int8.ofInt 117).toInt32 = (117 : Int32) := by decide
set_option maxRecDepth 20000 in
theorem c_lconst_0 : Int64.ofNat ((0 : Fin 2) : Nat) = (0 : Int64) := by decide
set_option maxRecDepth 20000 in
theorem c_lconst_1 : Int64.ofNat ((1 : Fin 2) : Nat) = (1 : Int64) := by decide
set_option maxRecDepth 20000 in
theorem k_RJ13_316 : Cond.constantLong RJ13 316 (3689348814741910323 : Int64) ∈ zTb := zW4 133 rfl rfl
set_option maxRecDepth 20000 in
theorem k_RJ13_318 : Cond.constantLong RJ13 318 (1085102592571150095 : Int64) ∈ zTb := zW4 134 rfl rfl
set_option maxRecDepth 20000 in
theorem k_RJ13_314 : Cond.constantLong RJ13 314 (6148914691236517205 : Int64) ∈ zTb := zW4 132 rfl rfl
set_option maxRecDepth 20000 in
theorem k_RX10_125 : Cond.constantLong RX10 125 ((-1000000) : Int64) ∈ zTb := zW4 227 rfl rfl
set_option maxRecDepth 20000 in
theorem k_RX10_127 : Cond.constantLong RX10 127 (1000000 : Int64) ∈ zTb := zW4 228 rfl rfl
set_option maxRecDepth 20000 in
theorem k_RX4_64 : Cond.constantLong RX4 64 (255 : Int64) ∈ zTb := zW6 31 rfl rfl
set_option maxRecDepth 20000 in
theorem k_RX11_390 : Cond.constant RX11 390 (1073741824 : Int32) ∈ zTb := zW4 112 rfl rfl
set_option maxRecDepth 20000 in
theorem k_RX11_310 : Cond.constantLong RX11 310 (1073741823 : Int64) ∈ zTb := zW5 106 rfl rfl
set_option maxRecDepth 20000 in
theorem k_RX11_397 : Cond.constantLong RX11 397 (1103515245 : Int64) ∈ zTb := zW5 231 rfl rfl
set_option maxRecDepth 20000 in
theorem k_RX11_399 : Cond.constantLong RX11 399 (12345 : Int64) ∈ zTb := zW5 232 rfl rfl
set_option maxRecDepth 20000 in
theorem k_RX11_401 : Cond.constantLong RX11 401 (2147483648 : Int64) ∈ zTb := zW5 233 rfl rfl
set_option maxRecDepth 20000 in
theorem k_RX12_271 : Cond.constantLong RX12 271 (439854918756 : Int64) ∈ zTb := zW7 96 rfl rfl
set_option maxRecDepth 20000 in
theorem k_RX12_273 : Cond.constantLong RX12 273 (1886350457 : Int64) ∈ zTb := zW7 120 rfl rfl
set_option maxRecDepth 20000 in
theorem k_RX12_275 : Cond.constantLong RX12 275 (469853168755 : Int64) ∈ zTb := zW7 127 rfl rfl
set_option maxRecDepth 20000 in
theorem k_RX12_277 : Cond.constantLong RX12 277 (495673373300 : Int64) ∈ zTb := zW7 132 rfl rfl
set_option maxRecDepth 20000 in
theorem k_RX12_279 : Cond.constantLong RX12 279 (1885431653 : Int64) ∈ zTb := zW7 149 rfl rfl
set_option maxRecDepth 20000 in
theorem k_RX12_281 : Cond.constantLong RX12 281 (1751738216 : Int64) ∈ zTb := zW7 162 rfl rfl
set_option maxRecDepth 20000 in
theorem k_RX12_283 : Cond.constantLong RX12 283 (7106423 : Int64) ∈ zTb := zW7 163 rfl rfl
set_option maxRecDepth 20000 in
theorem k_RX12_285 : Cond.constantLong RX12 285 (7170404 : Int64) ∈ zTb := zW7 164 rfl rfl
set_option maxRecDepth 20000 in
theorem k_RX12_287 : Cond.constantLong RX12 287 (1937007984 : Int64) ∈ zTb := zW7 165 rfl rfl
set_option maxRecDepth 20000 in
theorem k_RX12_289 : Cond.constantLong RX12 289 (474315584357 : Int64) ∈ zTb := zW7 166 rfl rfl
set_option maxRecDepth 20000 in
theorem k_RX12_291 : Cond.constantLong RX12 291 (110442557371507 : Int64) ∈ zTb := zW7 167 rfl rfl
set_option maxRecDepth 20000 in
theorem k_RX12_293 : Cond.constantLong RX12 293 (500135716211 : Int64) ∈ zTb := zW7 168 rfl rfl
set_option maxRecDepth 20000 in
theorem k_RX12_295 : Cond.constantLong RX12 295 (6578553 : Int64) ∈ zTb := zW7 169 rfl rfl
set_option maxRecDepth 20000 in
theorem k_RX12_297 : Cond.constantLong RX12 297 (1667591276 : Int64) ∈ zTb := zW7 170 rfl rfl
set_option maxRecDepth 20000 in
theorem k_RX12_299 : Cond.constantLong RX12 299 (465558725996 : Int64) ∈ zTb := zW7 171 rfl rfl
set_option maxRecDepth 20000 in
theorem k_RX12_301 : Cond.constantLong RX12 301 (6449524 : Int64) ∈ zTb := zW7 172 rfl rfl
set_option maxRecDepth 20000 in
theorem k_RX12_303 : Cond.constantLong RX12 303 (6383461 : Int64) ∈ zTb := zW7 173 rfl rfl
set_option maxRecDepth 20000 in
theorem k_RX12_305 : Cond.constantLong RX12 305 (500135716196 : Int64) ∈ zTb := zW7 174 rfl rfl
set_option maxRecDepth 20000 in
theorem k_RX12_307 : Cond.constantLong RX12 307 (6775152 : Int64) ∈ zTb := zW7 175 rfl rfl
set_option maxRecDepth 20000 in
theorem k_RX12_309 : Cond.constantLong RX12 309 (24948 : Int64) ∈ zTb := zW7 176 rfl rfl
set_option maxRecDepth 20000 in
theorem k_RX12_311 : Cond.constantLong RX12 311 (26982 : Int64) ∈ zTb := zW7 177 rfl rfl
set_option maxRecDepth 20000 in
theorem k_RX12_313 : Cond.constantLong RX12 313 (28530 : Int64) ∈ zTb := zW7 178 rfl rfl
set_option maxRecDepth 20000 in
theorem k_RX12_315 : Cond.constantLong RX12 315 (6385252 : Int64) ∈ zTb := zW7 179 rfl rfl
set_option maxRecDepth 20000 in
theorem k_RX12_317 : Cond.constantLong RX12 317 (7237492 : Int64) ∈ zTb := zW7 180 rfl rfl
set_option maxRecDepth 20000 in
theorem k_RX12_319 : Cond.constantLong RX12 319 (6384748 : Int64) ∈ zTb := zW7 181 rfl rfl
set_option maxRecDepth 20000 in
theorem k_RX12_321 : Cond.constantLong RX12 321 (7170414 : Int64) ∈ zTb := zW7 182 rfl rfl
set_option maxRecDepth 20000 in
theorem k_RX12_323 : Cond.constantLong RX12 323 (7168376 : Int64) ∈ zTb := zW7 183 rfl rfl
set_option maxRecDepth 20000 in
theorem k_RX12_445 : Cond.constant RX12 445 (1073741823 : Int32) ∈ zTb := zW8 46 rfl rfl
set_option maxRecDepth 20000 in
theorem k_RX12_482 : Cond.constantLong RX12 482 (1000000 : Int64) ∈ zTb := zW8 165 rfl rfl
set_option maxRecDepth 20000 in
theorem k_RX12_484 : Cond.constantLong RX12 484 ((-1000000) : Int64) ∈ zTb := zW8 166 rfl rfl
set_option maxRecDepth 20000 in
theorem k_RX12_526 : Cond.constantLong RX12 526 (99 : Int64) ∈ zTb := zW8 170 rfl rfl
set_option maxRecDepth 20000 in
theorem k_RX12_534 : Cond.constantLong RX12 534 (255 : Int64) ∈ zTb := zW8 118 rfl rfl
set_option maxRecDepth 20000 in
theorem k_RX12_548 : Cond.constantLong RX12 548 (1073741823 : Int64) ∈ zTb := zW8 215 rfl rfl
set_option maxRecDepth 20000 in
theorem k_RX12_553 : Cond.constant RX12 553 (100000000 : Int32) ∈ zTb := zW9 8 rfl rfl
set_option maxRecDepth 20000 in
theorem k_RX12_571 : Cond.constantLong RX12 571 (1103515245 : Int64) ∈ zTb := zW9 57 rfl rfl
set_option maxRecDepth 20000 in
theorem k_RX12_573 : Cond.constantLong RX12 573 (12345 : Int64) ∈ zTb := zW9 58 rfl rfl
set_option maxRecDepth 20000 in
theorem k_RX12_575 : Cond.constantLong RX12 575 (2147483648 : Int64) ∈ zTb := zW9 59 rfl rfl
set_option maxRecDepth 20000 in
theorem k_RX12_577 : Cond.constantLong RX12 577 (64 : Int64) ∈ zTb := zW9 60 rfl rfl
set_option maxRecDepth 20000 in
theorem fl_RX0_25 : zFL RX0 25 0 3 0 := ⟨⟨by decide, by decide, rfl⟩, zW2 115 rfl rfl⟩
set_option maxRecDepth 20000 in
theorem fl_RX0_29 : zFL RX0 29 0 4 0 := ⟨⟨by decide, by decide, rfl⟩, zW2 117 rfl rfl⟩
set_option maxRecDepth 20000 in
theorem fl_RX0_32 : zFL RX0 32 0 5 0 := ⟨⟨by decide, by decide, rfl⟩, zW2 120 rfl rfl⟩
set_option maxRecDepth 20000 in
theorem fl_RX0_35 : zFL RX0 35 0 6 0 := ⟨⟨by decide, by decide, rfl⟩, zW2 123 rfl rfl⟩
set_option maxRecDepth 20000 in
theorem fl_RX0_38 : zFL RX0 38 0 7 0 := ⟨⟨by decide, by decide, rfl⟩, zW2 126 rfl rfl⟩
set_option maxRecDepth 20000 in
theorem fl_RX0_41 : zFL RX0 41 0 8 0 := ⟨⟨by decide, by decide, rfl⟩, zW2 129 rfl rfl⟩
set_option maxRecDepth 20000 in
theorem fl_RX0_44 : zFL RX0 44 0 9 0 := ⟨⟨by decide, by decide, rfl⟩, zW2 132 rfl rfl⟩
set_option maxRecDepth 20000 in
theorem fl_RX0_47 : zFL RX0 47 0 10 0 := ⟨⟨by decide, by decide, rfl⟩, zW2 136 rfl rfl⟩
set_option maxRecDepth 20000 in
theorem fl_RX0_50 : zFL RX0 50 0 11 0 := ⟨⟨by decide, by decide, rfl⟩, zW2 139 rfl rfl⟩
set_option maxRecDepth 20000 in
theorem fl_RX0_53 : zFL RX0 53 0 12 0 := ⟨⟨by decide, by decide, rfl⟩, zW2 143 rfl rfl⟩
set_option maxRecDepth 20000 in
theorem fl_RX0_56 : zFL RX0 56 0 13 0 := ⟨⟨by decide, by decide, rfl⟩, zW2 145 rfl rfl⟩
set_option maxRecDepth 20000 in
theorem fl_RX0_59 : zFL RX0 59 0 14 0 := ⟨⟨by decide, by decide, rfl⟩, zW2 148 rfl rfl⟩
set_option maxRecDepth 20000 in
theorem fl_RX0_18 : zFL RX0 18 0 1 2 := ⟨⟨by decide, by decide, rfl⟩, zW2 110 rfl rfl⟩
set_option maxRecDepth 20000 in
theorem fl_RX0_22 : zFL RX0 22 0 2 2 := ⟨⟨by decide, by decide, rfl⟩, zW2 113 rfl rfl⟩
set_option maxRecDepth 20000 in
theorem fl_RX1_9 : zFL RX1 9 1 0 2 := ⟨⟨by decide, by decide, rfl⟩, zW2 43 rfl rfl⟩
set_option maxRecDepth 20000 in
theorem fl_RX1_15 : zFL RX1 15 1 1 2 := ⟨⟨by decide, by decide, rfl⟩, zW2 46 rfl rfl⟩
set_option maxRecDepth 20000 in
theorem fl_RX1_32 : zFL RX1 32 1 7 0 := ⟨⟨by decide, by decide, rfl⟩, zW2 53 rfl rfl⟩
set_option maxRecDepth 20000 in
theorem fl_RX1_28 : zFL RX1 28 1 6 0 := ⟨⟨by decide, by decide, rfl⟩, zW2 52 rfl rfl⟩
set_option maxRecDepth 20000 in
theorem fl_RX1_42 : zFL RX1 42 1 9 0 := ⟨⟨by decide, by decide, rfl⟩, zW2 60 rfl rfl⟩
set_option maxRecDepth 20000 in
theorem fl_RX1_38 : zFL RX1 38 1 12 1 := ⟨⟨by decide, by decide, rfl⟩, zW2 72 rfl rfl⟩
set_option maxRecDepth 20000 in
theorem fl_RX1_35 : zFL RX1 35 1 8 0 := ⟨⟨by decide, by decide, rfl⟩, zW2 56 rfl rfl⟩
set_option maxRecDepth 20000 in
theorem fl_RX1_57 : zFL RX1 57 1 10 0 := ⟨⟨by decide, by decide, rfl⟩, zW2 64 rfl rfl⟩
set_option maxRecDepth 20000 in
theorem fl_RX1_60 : zFL RX1 60 1 11 0 := ⟨⟨by decide, by decide, rfl⟩, zW2 70 rfl rfl⟩
set_option maxRecDepth 20000 in
theorem fl_RX1_63 : zFL RX1 63 1 5 3 := ⟨⟨by decide, by decide, rfl⟩, zW2 51 rfl rfl⟩
set_option maxRecDepth 20000 in
theorem fl_RX1_25 : zFL RX1 25 1 4 2 := ⟨⟨by decide, by decide, rfl⟩, zW2 50 rfl rfl⟩
set_option maxRecDepth 20000 in
theorem fl_RX1_18 : zFL RX1 18 1 2 2 := ⟨⟨by decide, by decide, rfl⟩, zW2 48 rfl rfl⟩
set_option maxRecDepth 20000 in
theorem fl_RX1_21 : zFL RX1 21 1 3 2 := ⟨⟨by decide, by decide, rfl⟩, zW2 49 rfl rfl⟩
set_option maxRecDepth 20000 in
theorem fl_RX2_27 : zFL RX2 27 2 5 3 := ⟨⟨by decide, by decide, rfl⟩, zW1 61 rfl rfl⟩
set_option maxRecDepth 20000 in
theorem fl_RX2_15 : zFL RX2 15 2 1 2 := ⟨⟨by decide, by decide, rfl⟩, zW1 55 rfl rfl⟩
set_option maxRecDepth 20000 in
theorem fl_RX2_18 : zFL RX2 18 2 2 2 := ⟨⟨by decide, by decide, rfl⟩, zW1 57 rfl rfl⟩
set_option maxRecDepth 20000 in
theorem fl_RX2_56 : zFL RX2 56 2 8 0 := ⟨⟨by decide, by decide, rfl⟩, zW1 66 rfl rfl⟩
set_option maxRecDepth 20000 in
theorem fl_RX2_9 : zFL RX2 9 2 0 2 := ⟨⟨by decide, by decide, rfl⟩, zW1 53 rfl rfl⟩
set_option maxRecDepth 20000 in
theorem fl_RX2_38 : zFL RX2 38 1 8 0 := ⟨⟨by decide, by decide, rfl⟩, zW2 58 rfl rfl⟩
set_option maxRecDepth 20000 in
theorem fl_RX2_21 : zFL RX2 21 2 3 2 := ⟨⟨by decide, by decide, rfl⟩, zW1 58 rfl rfl⟩
set_option maxRecDepth 20000 in
theorem fl_RX2_100 : zFL RX2 100 1 0 2 := ⟨⟨by decide, by decide, rfl⟩, zW2 45 rfl rfl⟩
set_option maxRecDepth 20000 in
theorem fl_RX2_90 : zFL RX2 90 1 7 0 := ⟨⟨by decide, by decide, rfl⟩, zW2 55 rfl rfl⟩
set_option maxRecDepth 20000 in
theorem fl_RX2_97 : zFL RX2 97 1 10 0 := ⟨⟨by decide, by decide, rfl⟩, zW2 69 rfl rfl⟩
set_option maxRecDepth 20000 in
theorem fl_RX2_24 : zFL RX2 24 2 4 2 := ⟨⟨by decide, by decide, rfl⟩, zW1 59 rfl rfl⟩
set_option maxRecDepth 20000 in
theorem fl_RX2_35 : zFL RX2 35 2 7 1 := ⟨⟨by decide, by decide, rfl⟩, zW1 63 rfl rfl⟩
set_option maxRecDepth 20000 in
theorem fl_RX2_63 : zFL RX2 63 2 9 0 := ⟨⟨by decide, by decide, rfl⟩, zW1 69 rfl rfl⟩
set_option maxRecDepth 20000 in
theorem fl_RX2_31 : zFL RX2 31 2 6 1 := ⟨⟨by decide, by decide, rfl⟩, zW1 62 rfl rfl⟩
set_option maxRecDepth 20000 in
theorem fl_RX8_26 : zFL RX8 26 8 4 1 := ⟨⟨by decide, by decide, rfl⟩, zW1 159 rfl rfl⟩
set_option maxRecDepth 20000 in
theorem fl_RX3_43 : zFL RX3 43 0 0 2 := ⟨⟨by decide, by decide, rfl⟩, zW2 104 rfl rfl⟩
set_option maxRecDepth 20000 in
theorem fl_RX3_74 : zFL RX3 74 1 8 0 := ⟨⟨by decide, by decide, rfl⟩, zW2 57 rfl rfl⟩
set_option maxRecDepth 20000 in
theorem fl_RX3_9 : zFL RX3 9 3 0 2 := ⟨⟨by decide, by decide, rfl⟩, zW1 98 rfl rfl⟩
set_option maxRecDepth 20000 in
theorem fl_RX3_90 : zFL RX3 90 2 9 0 := ⟨⟨by decide, by decide, rfl⟩, zW1 68 rfl rfl⟩
set_option maxRecDepth 20000 in
theorem fl_RX3_60 : zFL RX3 60 3 4 0 := ⟨⟨by decide, by decide, rfl⟩, zW1 104 rfl rfl⟩
set_option maxRecDepth 20000 in
theorem fl_RX3_91 : zFL RX3 91 2 8 0 := ⟨⟨by decide, by decide, rfl⟩, zW1 65 rfl rfl⟩
set_option maxRecDepth 20000 in
theorem fl_RX3_81 : zFL RX3 81 3 5 0 := ⟨⟨by decide, by decide, rfl⟩, zW1 106 rfl rfl⟩
set_option maxRecDepth 20000 in
theorem fl_RX3_94 : zFL RX3 94 2 7 1 := ⟨⟨by decide, by decide, rfl⟩, zW1 64 rfl rfl⟩
set_option maxRecDepth 20000 in
theorem fl_RX3_67 : zFL RX3 67 3 6 1 := ⟨⟨by decide, by decide, rfl⟩, zW1 108 rfl rfl⟩
set_option maxRecDepth 20000 in
theorem fl_RX3_19 : zFL RX3 19 8 4 1 := ⟨⟨by decide, by decide, rfl⟩, zW1 158 rfl rfl⟩
set_option maxRecDepth 20000 in
theorem fl_RX10_92 : zFL RX10 92 10 2 0 := ⟨⟨by decide, by decide, rfl⟩, zW1 38 rfl rfl⟩
set_option maxRecDepth 20000 in
theorem fl_RX10_15 : zFL RX10 15 10 1 2 := ⟨⟨by decide, by decide, rfl⟩, zW1 37 rfl rfl⟩
set_option maxRecDepth 20000 in
theorem fl_RX10_9 : zFL RX10 9 10 0 2 := ⟨⟨by decide, by decide, rfl⟩, zW1 36 rfl rfl⟩
set_option maxRecDepth 20000 in
theorem fl_RX10_95 : zFL RX10 95 0 2 2 := ⟨⟨by decide, by decide, rfl⟩, zW2 114 rfl rfl⟩
set_option maxRecDepth 20000 in
theorem fl_RX10_86 : zFL RX10 86 0 6 0 := ⟨⟨by decide, by decide, rfl⟩, zW2 124 rfl rfl⟩
set_option maxRecDepth 20000 in
theorem fl_RX10_89 : zFL RX10 89 0 7 0 := ⟨⟨by decide, by decide, rfl⟩, zW2 127 rfl rfl⟩
set_option maxRecDepth 20000 in
theorem fl_RX3_15 : zFL RX3 15 3 1 2 := ⟨⟨by decide, by decide, rfl⟩, zW1 99 rfl rfl⟩
set_option maxRecDepth 20000 in
theorem fl_RX3_37 : zFL RX3 37 3 2 0 := ⟨⟨by decide, by decide, rfl⟩, zW1 100 rfl rfl⟩
set_option maxRecDepth 20000 in
theorem fl_RX3_40 : zFL RX3 40 3 3 0 := ⟨⟨by decide, by decide, rfl⟩, zW1 102 rfl rfl⟩
set_option maxRecDepth 20000 in
theorem fl_RX3_107 : zFL RX3 107 0 13 0 := ⟨⟨by decide, by decide, rfl⟩, zW2 146 rfl rfl⟩
set_option maxRecDepth 20000 in
theorem fl_RX8_9 : zFL RX8 9 8 0 2 := ⟨⟨by decide, by decide, rfl⟩, zW1 142 rfl rfl⟩
set_option maxRecDepth 20000 in
theorem fl_RX3_70 : zFL RX3 70 3 7 3 := ⟨⟨by decide, by decide, rfl⟩, zW1 110 rfl rfl⟩
set_option maxRecDepth 20000 in
theorem fl_RX3_47 : zFL RX3 47 1 10 0 := ⟨⟨by decide, by decide, rfl⟩, zW2 63 rfl rfl⟩
set_option maxRecDepth 20000 in
theorem fl_RX3_31 : zFL RX3 31 0 12 0 := ⟨⟨by decide, by decide, rfl⟩, zW2 142 rfl rfl⟩
set_option maxRecDepth 20000 in
theorem fl_RX4_15 : zFL RX4 15 4 1 0 := ⟨⟨by decide, by decide, rfl⟩, zW2 24 rfl rfl⟩
set_option maxRecDepth 20000 in
theorem fl_RX4_9 : zFL RX4 9 4 0 2 := ⟨⟨by decide, by decide, rfl⟩, zW2 22 rfl rfl⟩
set_option maxRecDepth 20000 in
theorem fl_RX4_66 : zFL RX4 66 8 0 2 := ⟨⟨by decide, by decide, rfl⟩, zW1 143 rfl rfl⟩
set_option maxRecDepth 20000 in
theorem fl_RX4_60 : zFL RX4 60 8 4 1 := ⟨⟨by decide, by decide, rfl⟩, zW1 160 rfl rfl⟩
set_option maxRecDepth 20000 in
theorem fl_RX4_51 : zFL RX4 51 8 2 3 := ⟨⟨by decide, by decide, rfl⟩, zW1 150 rfl rfl⟩
set_option maxRecDepth 20000 in
theorem fl_RX4_57 : zFL RX4 57 8 3 0 := ⟨⟨by decide, by decide, rfl⟩, zW1 154 rfl rfl⟩
set_option maxRecDepth 20000 in
theorem fl_RX4_28 : zFL RX4 28 5 0 2 := ⟨⟨by decide, by decide, rfl⟩, zW1 176 rfl rfl⟩
set_option maxRecDepth 20000 in
theorem fl_RX4_32 : zFL RX4 32 0 0 2 := ⟨⟨by decide, by decide, rfl⟩, zW2 103 rfl rfl⟩
set_option maxRecDepth 20000 in
theorem fl_RX4_38 : zFL RX4 38 1 10 0 := ⟨⟨by decide, by decide, rfl⟩, zW2 62 rfl rfl⟩
set_option maxRecDepth 20000 in
theorem fl_RX4_19 : zFL RX4 19 5 1 0 := ⟨⟨by decide, by decide, rfl⟩, zW1 179 rfl rfl⟩
set_option maxRecDepth 20000 in
theorem fl_RX8_19 : zFL RX8 19 8 2 3 := ⟨⟨by decide, by decide, rfl⟩, zW1 149 rfl rfl⟩
set_option maxRecDepth 20000 in
theorem fl_RX8_23 : zFL RX8 23 8 3 0 := ⟨⟨by decide, by decide, rfl⟩, zW1 153 rfl rfl⟩
set_option maxRecDepth 20000 in
theorem fl_RX5_11 : zFL RX5 11 5 0 2 := ⟨⟨by decide, by decide, rfl⟩, zW1 175 rfl rfl⟩
set_option maxRecDepth 20000 in
theorem fl_RX5_20 : zFL RX5 20 5 1 0 := ⟨⟨by decide, by decide, rfl⟩, zW1 178 rfl rfl⟩
set_option maxRecDepth 20000 in
theorem fl_RX8_15 : zFL RX8 15 8 1 0 := ⟨⟨by decide, by decide, rfl⟩, zW1 147 rfl rfl⟩
set_option maxRecDepth 20000 in
theorem fl_RX5_31 : zFL RX5 31 8 2 3 := ⟨⟨by decide, by decide, rfl⟩, zW1 151 rfl rfl⟩
set_option maxRecDepth 20000 in
theorem fl_RX5_47 : zFL RX5 47 0 0 2 := ⟨⟨by decide, by decide, rfl⟩, zW2 107 rfl rfl⟩
set_option maxRecDepth 20000 in
theorem fl_RX5_51 : zFL RX5 51 1 10 0 := ⟨⟨by decide, by decide, rfl⟩, zW2 67 rfl rfl⟩
set_option maxRecDepth 20000 in
theorem fl_RX5_60 : zFL RX5 60 8 3 0 := ⟨⟨by decide, by decide, rfl⟩, zW1 156 rfl rfl⟩
set_option maxRecDepth 20000 in
theorem fl_RX5_63 : zFL RX5 63 8 4 1 := ⟨⟨by decide, by decide, rfl⟩, zW1 162 rfl rfl⟩
set_option maxRecDepth 20000 in
theorem fl_RX5_67 : zFL RX5 67 8 0 2 := ⟨⟨by decide, by decide, rfl⟩, zW1 145 rfl rfl⟩
set_option maxRecDepth 20000 in
theorem fl_RX5_42 : zFL RX5 42 0 9 0 := ⟨⟨by decide, by decide, rfl⟩, zW2 133 rfl rfl⟩
set_option maxRecDepth 20000 in
theorem fl_RX6_58 : zFL RX6 58 6 4 0 := ⟨⟨by decide, by decide, rfl⟩, zW3 8 rfl rfl⟩
set_option maxRecDepth 20000 in
theorem fl_RX6_61 : zFL RX6 61 6 5 0 := ⟨⟨by decide, by decide, rfl⟩, zW3 10 rfl rfl⟩
set_option maxRecDepth 20000 in
theorem fl_RX6_81 : zFL RX6 81 6 6 0 := ⟨⟨by decide, by decide, rfl⟩, zW3 12 rfl rfl⟩
set_option maxRecDepth 20000 in
theorem fl_RX6_64 : zFL RX6 64 6 9 0 := ⟨⟨by decide, by decide, rfl⟩, zW3 15 rfl rfl⟩
set_option maxRecDepth 20000 in
theorem fl_RX6_49 : zFL RX6 49 6 3 0 := ⟨⟨by decide, by decide, rfl⟩, zW3 7 rfl rfl⟩
set_option maxRecDepth 20000 in
theorem fl_RX6_15 : zFL RX6 15 6 1 2 := ⟨⟨by decide, by decide, rfl⟩, zW3 5 rfl rfl⟩
set_option maxRecDepth 20000 in
theorem fl_RX6_94 : zFL RX6 94 6 8 0 := ⟨⟨by decide, by decide, rfl⟩, zW3 14 rfl rfl⟩
set_option maxRecDepth 20000 in
theorem fl_RX6_84 : zFL RX6 84 6 7 0 := ⟨⟨by decide, by decide, rfl⟩, zW3 13 rfl rfl⟩
set_option maxRecDepth 20000 in
theorem fl_RX6_100 : zFL RX6 100 6 10 0 := ⟨⟨by decide, by decide, rfl⟩, zW3 16 rfl rfl⟩
set_option maxRecDepth 20000 in
theorem fl_RX6_9 : zFL RX6 9 6 0 2 := ⟨⟨by decide, by decide, rfl⟩, zW3 4 rfl rfl⟩
set_option maxRecDepth 20000 in
theorem fl_RX6_97 : zFL RX6 97 6 11 0 := ⟨⟨by decide, by decide, rfl⟩, zW3 17 rfl rfl⟩
set_option maxRecDepth 20000 in
theorem fl_RX6_18 : zFL RX6 18 6 2 2 := ⟨⟨by decide, by decide, rfl⟩, zW3 6 rfl rfl⟩
set_option maxRecDepth 20000 in
theorem fl_RX6_127 : zFL RX6 127 0 0 2 := ⟨⟨by decide, by decide, rfl⟩, zW2 109 rfl rfl⟩
set_option maxRecDepth 20000 in
theorem fl_RX6_181 : zFL RX6 181 6 12 3 := ⟨⟨by decide, by decide, rfl⟩, zW3 18 rfl rfl⟩
set_option maxRecDepth 20000 in
theorem fl_RX6_185 : zFL RX6 185 0 3 0 := ⟨⟨by decide, by decide, rfl⟩, zW2 116 rfl rfl⟩
set_option maxRecDepth 20000 in
theorem fl_RX6_188 : zFL RX6 188 0 4 0 := ⟨⟨by decide, by decide, rfl⟩, zW2 119 rfl rfl⟩
set_option maxRecDepth 20000 in
theorem fl_RX6_194 : zFL RX6 194 0 5 0 := ⟨⟨by decide, by decide, rfl⟩, zW2 122 rfl rfl⟩
set_option maxRecDepth 20000 in
theorem fl_RX6_169 : zFL RX6 169 0 9 0 := ⟨⟨by decide, by decide, rfl⟩, zW2 135 rfl rfl⟩
set_option maxRecDepth 20000 in
theorem fl_RX6_175 : zFL RX6 175 0 1 2 := ⟨⟨by decide, by decide, rfl⟩, zW2 112 rfl rfl⟩
set_option maxRecDepth 20000 in
theorem fl_RX6_154 : zFL RX6 154 0 10 0 := ⟨⟨by decide, by decide, rfl⟩, zW2 138 rfl rfl⟩
set_option maxRecDepth 20000 in
theorem fl_RX6_157 : zFL RX6 157 0 11 0 := ⟨⟨by decide, by decide, rfl⟩, zW2 141 rfl rfl⟩
set_option maxRecDepth 20000 in
theorem fl_RX6_160 : zFL RX6 160 0 12 0 := ⟨⟨by decide, by decide, rfl⟩, zW2 144 rfl rfl⟩
set_option maxRecDepth 20000 in
theorem fl_RX6_163 : zFL RX6 163 0 13 0 := ⟨⟨by decide, by decide, rfl⟩, zW2 147 rfl rfl⟩
set_option maxRecDepth 20000 in
theorem fl_RX6_166 : zFL RX6 166 0 14 0 := ⟨⟨by decide, by decide, rfl⟩, zW2 149 rfl rfl⟩
set_option maxRecDepth 20000 in
theorem fl_RX6_200 : zFL RX6 200 0 6 0 := ⟨⟨by decide, by decide, rfl⟩, zW2 125 rfl rfl⟩
set_option maxRecDepth 20000 in
theorem fl_RX6_206 : zFL RX6 206 0 7 0 := ⟨⟨by decide, by decide, rfl⟩, zW2 128 rfl rfl⟩
set_option maxRecDepth 20000 in
theorem fl_RX6_78 : zFL RX6 78 0 8 0 := ⟨⟨by decide, by decide, rfl⟩, zW2 130 rfl rfl⟩
set_option maxRecDepth 20000 in
theorem fl_RX7_25 : zFL RX7 25 7 3 0 := ⟨⟨by decide, by decide, rfl⟩, zW1 200 rfl rfl⟩
set_option maxRecDepth 20000 in
theorem fl_RX7_29 : zFL RX7 29 7 4 0 := ⟨⟨by decide, by decide, rfl⟩, zW1 202 rfl rfl⟩
set_option maxRecDepth 20000 in
theorem fl_RX7_32 : zFL RX7 32 7 5 0 := ⟨⟨by decide, by decide, rfl⟩, zW1 203 rfl rfl⟩
set_option maxRecDepth 20000 in
theorem fl_RX7_11 : zFL RX7 11 7 0 2 := ⟨⟨by decide, by decide, rfl⟩, zW1 197 rfl rfl⟩
set_option maxRecDepth 20000 in
theorem fl_RX7_17 : zFL RX7 17 7 1 2 := ⟨⟨by decide, by decide, rfl⟩, zW1 198 rfl rfl⟩
set_option maxRecDepth 20000 in
theorem fl_RX7_21 : zFL RX7 21 7 2 2 := ⟨⟨by decide, by decide, rfl⟩, zW1 199 rfl rfl⟩
set_option maxRecDepth 20000 in
theorem fl_RX8_36 : zFL RX8 36 0 0 2 := ⟨⟨by decide, by decide, rfl⟩, zW2 106 rfl rfl⟩
set_option maxRecDepth 20000 in
theorem fl_RX8_42 : zFL RX8 42 1 10 0 := ⟨⟨by decide, by decide, rfl⟩, zW2 66 rfl rfl⟩
set_option maxRecDepth 20000 in
theorem fl_RX8_54 : zFL RX8 54 0 11 0 := ⟨⟨by decide, by decide, rfl⟩, zW2 140 rfl rfl⟩
set_option maxRecDepth 20000 in
theorem fl_RX8_51 : zFL RX8 51 0 10 0 := ⟨⟨by decide, by decide, rfl⟩, zW2 137 rfl rfl⟩
set_option maxRecDepth 20000 in
theorem fl_RX9_27 : zFL RX9 27 9 5 0 := ⟨⟨by decide, by decide, rfl⟩, zW1 229 rfl rfl⟩
set_option maxRecDepth 20000 in
theorem fl_RX9_9 : zFL RX9 9 9 0 2 := ⟨⟨by decide, by decide, rfl⟩, zW1 223 rfl rfl⟩
set_option maxRecDepth 20000 in
theorem fl_RX9_15 : zFL RX9 15 9 1 2 := ⟨⟨by decide, by decide, rfl⟩, zW1 224 rfl rfl⟩
set_option maxRecDepth 20000 in
theorem fl_RX9_21 : zFL RX9 21 9 3 2 := ⟨⟨by decide, by decide, rfl⟩, zW1 227 rfl rfl⟩
set_option maxRecDepth 20000 in
theorem fl_RX9_18 : zFL RX9 18 9 2 2 := ⟨⟨by decide, by decide, rfl⟩, zW1 225 rfl rfl⟩
set_option maxRecDepth 20000 in
theorem fl_RX9_43 : zFL RX9 43 9 6 0 := ⟨⟨by decide, by decide, rfl⟩, zW1 231 rfl rfl⟩
set_option maxRecDepth 20000 in
theorem fl_RX9_24 : zFL RX9 24 9 4 2 := ⟨⟨by decide, by decide, rfl⟩, zW1 228 rfl rfl⟩
set_option maxRecDepth 20000 in
theorem fl_RX9_57 : zFL RX9 57 9 8 0 := ⟨⟨by decide, by decide, rfl⟩, zW1 235 rfl rfl⟩
set_option maxRecDepth 20000 in
theorem fl_RX9_54 : zFL RX9 54 9 7 0 := ⟨⟨by decide, by decide, rfl⟩, zW1 233 rfl rfl⟩
set_option maxRecDepth 20000 in
theorem fl_RX10_18 : zFL RX10 18 8 1 0 := ⟨⟨by decide, by decide, rfl⟩, zW1 148 rfl rfl⟩
set_option maxRecDepth 20000 in
theorem fl_RX10_34 : zFL RX10 34 0 4 0 := ⟨⟨by decide, by decide, rfl⟩, zW2 118 rfl rfl⟩
set_option maxRecDepth 20000 in
theorem fl_RX10_37 : zFL RX10 37 0 5 0 := ⟨⟨by decide, by decide, rfl⟩, zW2 121 rfl rfl⟩
set_option maxRecDepth 20000 in
theorem fl_RX10_60 : zFL RX10 60 0 0 2 := ⟨⟨by decide, by decide, rfl⟩, zW2 105 rfl rfl⟩
set_option maxRecDepth 20000 in
theorem fl_RX10_64 : zFL RX10 64 1 10 0 := ⟨⟨by decide, by decide, rfl⟩, zW2 65 rfl rfl⟩
set_option maxRecDepth 20000 in
theorem fl_RX10_53 : zFL RX10 53 8 3 0 := ⟨⟨by decide, by decide, rfl⟩, zW1 155 rfl rfl⟩
set_option maxRecDepth 20000 in
theorem fl_RX10_69 : zFL RX10 69 8 0 2 := ⟨⟨by decide, by decide, rfl⟩, zW1 144 rfl rfl⟩
set_option maxRecDepth 20000 in
theorem fl_RX10_72 : zFL RX10 72 8 4 1 := ⟨⟨by decide, by decide, rfl⟩, zW1 161 rfl rfl⟩
set_option maxRecDepth 20000 in
theorem fl_RX11_102 : zFL RX11 102 11 15 0 := ⟨⟨by decide, by decide, rfl⟩, zW3 62 rfl rfl⟩
set_option maxRecDepth 20000 in
theorem fl_RX11_9 : zFL RX11 9 11 0 2 := ⟨⟨by decide, by decide, rfl⟩, zW3 47 rfl rfl⟩
set_option maxRecDepth 20000 in
theorem fl_RX11_13 : zFL RX11 13 11 1 2 := ⟨⟨by decide, by decide, rfl⟩, zW3 48 rfl rfl⟩
set_option maxRecDepth 20000 in
theorem fl_RX11_94 : zFL RX11 94 11 13 2 := ⟨⟨by decide, by decide, rfl⟩, zW3 60 rfl rfl⟩
set_option maxRecDepth 20000 in
theorem fl_RX11_86 : zFL RX11 86 11 12 2 := ⟨⟨by decide, by decide, rfl⟩, zW3 59 rfl rfl⟩
set_option maxRecDepth 20000 in
theorem fl_RX11_82 : zFL RX11 82 11 11 2 := ⟨⟨by decide, by decide, rfl⟩, zW3 58 rfl rfl⟩
set_option maxRecDepth 20000 in
theorem fl_RX11_120 : zFL RX11 120 11 14 3 := ⟨⟨by decide, by decide, rfl⟩, zW3 61 rfl rfl⟩
set_option maxRecDepth 20000 in
theorem fl_RX11_42 : zFL RX11 42 11 5 2 := ⟨⟨by decide, by decide, rfl⟩, zW3 52 rfl rfl⟩
set_option maxRecDepth 20000 in
theorem fl_RX11_61 : zFL RX11 61 11 8 2 := ⟨⟨by decide, by decide, rfl⟩, zW3 55 rfl rfl⟩
set_option maxRecDepth 20000 in
theorem fl_RX11_68 : zFL RX11 68 11 9 2 := ⟨⟨by decide, by decide, rfl⟩, zW3 56 rfl rfl⟩
set_option maxRecDepth 20000 in
theorem fl_RX11_26 : zFL RX11 26 11 3 2 := ⟨⟨by decide, by decide, rfl⟩, zW3 50 rfl rfl⟩
set_option maxRecDepth 20000 in
theorem fl_RX11_132 : zFL RX11 132 0 8 0 := ⟨⟨by decide, by decide, rfl⟩, zW2 131 rfl rfl⟩
set_option maxRecDepth 20000 in
theorem fl_RX11_135 : zFL RX11 135 6 4 0 := ⟨⟨by decide, by decide, rfl⟩, zW3 9 rfl rfl⟩
set_option maxRecDepth 20000 in
theorem fl_RX11_138 : zFL RX11 138 6 5 0 := ⟨⟨by decide, by decide, rfl⟩, zW3 11 rfl rfl⟩
set_option maxRecDepth 20000 in
theorem fl_RX11_141 : zFL RX11 141 0 0 2 := ⟨⟨by decide, by decide, rfl⟩, zW2 108 rfl rfl⟩
set_option maxRecDepth 20000 in
theorem fl_RX11_145 : zFL RX11 145 1 7 0 := ⟨⟨by decide, by decide, rfl⟩, zW2 54 rfl rfl⟩
set_option maxRecDepth 20000 in
theorem fl_RX11_150 : zFL RX11 150 1 9 0 := ⟨⟨by decide, by decide, rfl⟩, zW2 61 rfl rfl⟩
set_option maxRecDepth 20000 in
theorem fl_RX11_153 : zFL RX11 153 1 10 0 := ⟨⟨by decide, by decide, rfl⟩, zW2 68 rfl rfl⟩
set_option maxRecDepth 20000 in
theorem fl_RX11_156 : zFL RX11 156 1 11 0 := ⟨⟨by decide, by decide, rfl⟩, zW2 71 rfl rfl⟩
set_option maxRecDepth 20000 in
theorem fl_RX11_159 : zFL RX11 159 0 9 0 := ⟨⟨by decide, by decide, rfl⟩, zW2 134 rfl rfl⟩
set_option maxRecDepth 20000 in
theorem fl_RX11_164 : zFL RX11 164 5 1 0 := ⟨⟨by decide, by decide, rfl⟩, zW1 180 rfl rfl⟩
set_option maxRecDepth 20000 in
theorem fl_RX11_170 : zFL RX11 170 9 5 0 := ⟨⟨by decide, by decide, rfl⟩, zW1 230 rfl rfl⟩
set_option maxRecDepth 20000 in
theorem fl_RX11_173 : zFL RX11 173 7 3 0 := ⟨⟨by decide, by decide, rfl⟩, zW1 201 rfl rfl⟩
set_option maxRecDepth 20000 in
theorem fl_RX11_98 : zFL RX11 98 11 16 0 := ⟨⟨by decide, by decide, rfl⟩, zW3 63 rfl rfl⟩
set_option maxRecDepth 20000 in
theorem fl_RX11_180 : zFL RX11 180 0 1 2 := ⟨⟨by decide, by decide, rfl⟩, zW2 111 rfl rfl⟩
set_option maxRecDepth 20000 in
theorem fl_RX11_186 : zFL RX11 186 1 0 2 := ⟨⟨by decide, by decide, rfl⟩, zW2 44 rfl rfl⟩
set_option maxRecDepth 20000 in
theorem fl_RX11_183 : zFL RX11 183 1 1 2 := ⟨⟨by decide, by decide, rfl⟩, zW2 47 rfl rfl⟩
set_option maxRecDepth 20000 in
theorem fl_RX11_192 : zFL RX11 192 1 12 1 := ⟨⟨by decide, by decide, rfl⟩, zW2 73 rfl rfl⟩
set_option maxRecDepth 20000 in
theorem fl_RX11_218 : zFL RX11 218 1 8 0 := ⟨⟨by decide, by decide, rfl⟩, zW2 59 rfl rfl⟩
set_option maxRecDepth 20000 in
theorem fl_RX11_224 : zFL RX11 224 5 0 2 := ⟨⟨by decide, by decide, rfl⟩, zW1 177 rfl rfl⟩
set_option maxRecDepth 20000 in
theorem fl_RX11_227 : zFL RX11 227 8 2 3 := ⟨⟨by decide, by decide, rfl⟩, zW1 152 rfl rfl⟩
set_option maxRecDepth 20000 in
theorem fl_RX11_233 : zFL RX11 233 8 4 1 := ⟨⟨by decide, by decide, rfl⟩, zW1 163 rfl rfl⟩
set_option maxRecDepth 20000 in
theorem fl_RX11_230 : zFL RX11 230 8 3 0 := ⟨⟨by decide, by decide, rfl⟩, zW1 157 rfl rfl⟩
set_option maxRecDepth 20000 in
theorem fl_RX11_19 : zFL RX11 19 11 2 2 := ⟨⟨by decide, by decide, rfl⟩, zW3 49 rfl rfl⟩
set_option maxRecDepth 20000 in
theorem fl_RX11_251 : zFL RX11 251 8 0 2 := ⟨⟨by decide, by decide, rfl⟩, zW1 146 rfl rfl⟩
set_option maxRecDepth 20000 in
theorem fl_RX11_276 : zFL RX11 276 2 0 2 := ⟨⟨by decide, by decide, rfl⟩, zW1 54 rfl rfl⟩
set_option maxRecDepth 20000 in
theorem fl_RX11_282 : zFL RX11 282 2 9 0 := ⟨⟨by decide, by decide, rfl⟩, zW1 70 rfl rfl⟩
set_option maxRecDepth 20000 in
theorem fl_RX11_279 : zFL RX11 279 2 8 0 := ⟨⟨by decide, by decide, rfl⟩, zW1 67 rfl rfl⟩
set_option maxRecDepth 20000 in
theorem fl_RX11_285 : zFL RX11 285 2 1 2 := ⟨⟨by decide, by decide, rfl⟩, zW1 56 rfl rfl⟩
set_option maxRecDepth 20000 in
theorem fl_RX11_288 : zFL RX11 288 2 4 2 := ⟨⟨by decide, by decide, rfl⟩, zW1 60 rfl rfl⟩
set_option maxRecDepth 20000 in
theorem fl_RX11_35 : zFL RX11 35 11 4 2 := ⟨⟨by decide, by decide, rfl⟩, zW3 51 rfl rfl⟩
set_option maxRecDepth 20000 in
theorem fl_RX11_296 : zFL RX11 296 3 6 1 := ⟨⟨by decide, by decide, rfl⟩, zW1 109 rfl rfl⟩
set_option maxRecDepth 20000 in
theorem fl_RX11_299 : zFL RX11 299 3 5 0 := ⟨⟨by decide, by decide, rfl⟩, zW1 107 rfl rfl⟩
set_option maxRecDepth 20000 in
theorem fl_RX11_302 : zFL RX11 302 3 2 0 := ⟨⟨by decide, by decide, rfl⟩, zW1 101 rfl rfl⟩
set_option maxRecDepth 20000 in
theorem fl_RX11_304 : zFL RX11 304 3 3 0 := ⟨⟨by decide, by decide, rfl⟩, zW1 103 rfl rfl⟩
set_option maxRecDepth 20000 in
theorem fl_RX11_307 : zFL RX11 307 3 7 3 := ⟨⟨by decide, by decide, rfl⟩, zW1 111 rfl rfl⟩
set_option maxRecDepth 20000 in
theorem fl_RX11_295 : zFL RX11 295 3 4 0 := ⟨⟨by decide, by decide, rfl⟩, zW1 105 rfl rfl⟩
set_option maxRecDepth 20000 in
theorem fl_RX11_54 : zFL RX11 54 11 7 2 := ⟨⟨by decide, by decide, rfl⟩, zW3 54 rfl rfl⟩
set_option maxRecDepth 20000 in
theorem fl_RX11_327 : zFL RX11 327 0 14 0 := ⟨⟨by decide, by decide, rfl⟩, zW2 150 rfl rfl⟩
set_option maxRecDepth 20000 in
theorem fl_RX11_338 : zFL RX11 338 9 6 0 := ⟨⟨by decide, by decide, rfl⟩, zW1 232 rfl rfl⟩
set_option maxRecDepth 20000 in
theorem fl_RX11_341 : zFL RX11 341 9 2 2 := ⟨⟨by decide, by decide, rfl⟩, zW1 226 rfl rfl⟩
set_option maxRecDepth 20000 in
theorem fl_RX11_350 : zFL RX11 350 9 8 0 := ⟨⟨by decide, by decide, rfl⟩, zW1 236 rfl rfl⟩
set_option maxRecDepth 20000 in
theorem fl_RX11_347 : zFL RX11 347 9 7 0 := ⟨⟨by decide, by decide, rfl⟩, zW1 234 rfl rfl⟩
set_option maxRecDepth 20000 in
theorem fl_RX11_75 : zFL RX11 75 11 10 2 := ⟨⟨by decide, by decide, rfl⟩, zW3 57 rfl rfl⟩
set_option maxRecDepth 20000 in
theorem fl_RX11_381 : zFL RX11 381 4 1 0 := ⟨⟨by decide, by decide, rfl⟩, zW2 25 rfl rfl⟩
set_option maxRecDepth 20000 in
theorem fl_RX11_382 : zFL RX11 382 4 0 2 := ⟨⟨by decide, by decide, rfl⟩, zW2 23 rfl rfl⟩
set_option maxRecDepth 20000 in
theorem fl_RX11_46 : zFL RX11 46 11 6 2 := ⟨⟨by decide, by decide, rfl⟩, zW3 53 rfl rfl⟩
set_option maxRecDepth 20000 in
theorem fl_RX12_7 : zFL RX12 7 12 0 2 := ⟨⟨by decide, by decide, rfl⟩, zW6 68 rfl rfl⟩
set_option maxRecDepth 20000 in
theorem fl_RX12_13 : zFL RX12 13 12 1 0 := ⟨⟨by decide, by decide, rfl⟩, zW6 69 rfl rfl⟩
set_option maxRecDepth 20000 in
theorem fl_RX12_123 : zFL RX12 123 12 36 2 := ⟨⟨by decide, by decide, rfl⟩, zW6 104 rfl rfl⟩
set_option maxRecDepth 20000 in
theorem fl_RX12_36 : zFL RX12 36 12 8 0 := ⟨⟨by decide, by decide, rfl⟩, zW6 76 rfl rfl⟩
set_option maxRecDepth 20000 in
theorem fl_RX12_39 : zFL RX12 39 12 9 0 := ⟨⟨by decide, by decide, rfl⟩, zW6 77 rfl rfl⟩
set_option maxRecDepth 20000 in
theorem fl_RX12_48 : zFL RX12 48 12 12 0 := ⟨⟨by decide, by decide, rfl⟩, zW6 80 rfl rfl⟩
set_option maxRecDepth 20000 in
theorem fl_RX12_29 : zFL RX12 29 12 6 0 := ⟨⟨by decide, by decide, rfl⟩, zW6 74 rfl rfl⟩
set_option maxRecDepth 20000 in
theorem fl_RX12_32 : zFL RX12 32 12 7 1 := ⟨⟨by decide, by decide, rfl⟩, zW6 75 rfl rfl⟩
set_option maxRecDepth 20000 in
theorem fl_RX12_26 : zFL RX12 26 12 5 0 := ⟨⟨by decide, by decide, rfl⟩, zW6 73 rfl rfl⟩
set_option maxRecDepth 20000 in
theorem fl_RX12_17 : zFL RX12 17 12 2 0 := ⟨⟨by decide, by decide, rfl⟩, zW6 70 rfl rfl⟩
set_option maxRecDepth 20000 in
theorem fl_RX12_20 : zFL RX12 20 12 3 0 := ⟨⟨by decide, by decide, rfl⟩, zW6 71 rfl rfl⟩
set_option maxRecDepth 20000 in
theorem fl_RX12_23 : zFL RX12 23 12 4 0 := ⟨⟨by decide, by decide, rfl⟩, zW6 72 rfl rfl⟩
set_option maxRecDepth 20000 in
theorem fl_RX12_57 : zFL RX12 57 12 15 2 := ⟨⟨by decide, by decide, rfl⟩, zW6 83 rfl rfl⟩
set_option maxRecDepth 20000 in
theorem fl_RX12_79 : zFL RX12 79 12 22 0 := ⟨⟨by decide, by decide, rfl⟩, zW6 90 rfl rfl⟩
set_option maxRecDepth 20000 in
theorem fl_RX12_72 : zFL RX12 72 12 20 2 := ⟨⟨by decide, by decide, rfl⟩, zW6 88 rfl rfl⟩
set_option maxRecDepth 20000 in
theorem fl_RX12_66 : zFL RX12 66 12 18 2 := ⟨⟨by decide, by decide, rfl⟩, zW6 86 rfl rfl⟩
set_option maxRecDepth 20000 in
theorem fl_RX12_76 : zFL RX12 76 12 21 0 := ⟨⟨by decide, by decide, rfl⟩, zW6 89 rfl rfl⟩
set_option maxRecDepth 20000 in
theorem fl_RX12_69 : zFL RX12 69 12 19 2 := ⟨⟨by decide, by decide, rfl⟩, zW6 87 rfl rfl⟩
set_option maxRecDepth 20000 in
theorem fl_RX12_110 : zFL RX12 110 12 32 0 := ⟨⟨by decide, by decide, rfl⟩, zW6 100 rfl rfl⟩
set_option maxRecDepth 20000 in
theorem fl_RX12_98 : zFL RX12 98 12 28 2 := ⟨⟨by decide, by decide, rfl⟩, zW6 96 rfl rfl⟩
set_option maxRecDepth 20000 in
theorem fl_RX12_101 : zFL RX12 101 12 29 0 := ⟨⟨by decide, by decide, rfl⟩, zW6 97 rfl rfl⟩
set_option maxRecDepth 20000 in
theorem fl_RX12_107 : zFL RX12 107 12 31 2 := ⟨⟨by decide, by decide, rfl⟩, zW6 99 rfl rfl⟩
set_option maxRecDepth 20000 in
theorem fl_RX12_104 : zFL RX12 104 12 30 0 := ⟨⟨by decide, by decide, rfl⟩, zW6 98 rfl rfl⟩
set_option maxRecDepth 20000 in
theorem fl_RX12_85 : zFL RX12 85 12 24 2 := ⟨⟨by decide, by decide, rfl⟩, zW6 92 rfl rfl⟩
set_option maxRecDepth 20000 in
theorem fl_RX12_88 : zFL RX12 88 12 25 2 := ⟨⟨by decide, by decide, rfl⟩, zW6 93 rfl rfl⟩
set_option maxRecDepth 20000 in
theorem fl_RX12_91 : zFL RX12 91 12 26 2 := ⟨⟨by decide, by decide, rfl⟩, zW6 94 rfl rfl⟩
set_option maxRecDepth 20000 in
theorem fl_RX12_95 : zFL RX12 95 12 27 2 := ⟨⟨by decide, by decide, rfl⟩, zW6 95 rfl rfl⟩
set_option maxRecDepth 20000 in
theorem fl_RX12_82 : zFL RX12 82 12 23 0 := ⟨⟨by decide, by decide, rfl⟩, zW6 91 rfl rfl⟩
set_option maxRecDepth 20000 in
theorem fl_RX12_113 : zFL RX12 113 12 33 3 := ⟨⟨by decide, by decide, rfl⟩, zW6 101 rfl rfl⟩
set_option maxRecDepth 20000 in
theorem fl_RX12_54 : zFL RX12 54 12 14 2 := ⟨⟨by decide, by decide, rfl⟩, zW6 82 rfl rfl⟩
set_option maxRecDepth 20000 in
theorem fl_RX12_117 : zFL RX12 117 12 34 2 := ⟨⟨by decide, by decide, rfl⟩, zW6 102 rfl rfl⟩
set_option maxRecDepth 20000 in
theorem fl_RX12_63 : zFL RX12 63 12 17 2 := ⟨⟨by decide, by decide, rfl⟩, zW6 85 rfl rfl⟩
set_option maxRecDepth 20000 in
theorem fl_RX12_60 : zFL RX12 60 12 16 2 := ⟨⟨by decide, by decide, rfl⟩, zW6 84 rfl rfl⟩
set_option maxRecDepth 20000 in
theorem fl_RX12_195 : zFL RX12 195 12 60 2 := ⟨⟨by decide, by decide, rfl⟩, zW6 128 rfl rfl⟩
set_option maxRecDepth 20000 in
theorem fl_RX12_204 : zFL RX12 204 12 63 0 := ⟨⟨by decide, by decide, rfl⟩, zW6 131 rfl rfl⟩
set_option maxRecDepth 20000 in
theorem fl_RX12_222 : zFL RX12 222 12 69 0 := ⟨⟨by decide, by decide, rfl⟩, zW6 137 rfl rfl⟩
set_option maxRecDepth 20000 in
theorem fl_RX12_183 : zFL RX12 183 12 56 2 := ⟨⟨by decide, by decide, rfl⟩, zW6 124 rfl rfl⟩
set_option maxRecDepth 20000 in
theorem fl_RX12_180 : zFL RX12 180 12 55 2 := ⟨⟨by decide, by decide, rfl⟩, zW6 123 rfl rfl⟩
set_option maxRecDepth 20000 in
theorem fl_RX12_51 : zFL RX12 51 12 13 0 := ⟨⟨by decide, by decide, rfl⟩, zW6 81 rfl rfl⟩
set_option maxRecDepth 20000 in
theorem fl_RX12_141 : zFL RX12 141 12 42 2 := ⟨⟨by decide, by decide, rfl⟩, zW6 110 rfl rfl⟩
set_option maxRecDepth 20000 in
theorem fl_RX12_144 : zFL RX12 144 12 43 2 := ⟨⟨by decide, by decide, rfl⟩, zW6 111 rfl rfl⟩
set_option maxRecDepth 20000 in
theorem fl_RX12_126 : zFL RX12 126 12 37 0 := ⟨⟨by decide, by decide, rfl⟩, zW6 105 rfl rfl⟩
set_option maxRecDepth 20000 in
theorem fl_RX12_147 : zFL RX12 147 12 44 2 := ⟨⟨by decide, by decide, rfl⟩, zW6 112 rfl rfl⟩
set_option maxRecDepth 20000 in
theorem fl_RX12_138 : zFL RX12 138 12 41 1 := ⟨⟨by decide, by decide, rfl⟩, zW6 109 rfl rfl⟩
set_option maxRecDepth 20000 in
theorem fl_RX12_129 : zFL RX12 129 12 38 0 := ⟨⟨by decide, by decide, rfl⟩, zW6 106 rfl rfl⟩
set_option maxRecDepth 20000 in
theorem fl_RX12_135 : zFL RX12 135 12 40 0 := ⟨⟨by decide, by decide, rfl⟩, zW6 108 rfl rfl⟩
set_option maxRecDepth 20000 in
theorem fl_RX12_132 : zFL RX12 132 12 39 0 := ⟨⟨by decide, by decide, rfl⟩, zW6 107 rfl rfl⟩
set_option maxRecDepth 20000 in
theorem fl_RX12_42 : zFL RX12 42 12 10 0 := ⟨⟨by decide, by decide, rfl⟩, zW6 78 rfl rfl⟩
set_option maxRecDepth 20000 in
theorem fl_RX12_45 : zFL RX12 45 12 11 0 := ⟨⟨by decide, by decide, rfl⟩, zW6 79 rfl rfl⟩
set_option maxRecDepth 20000 in
theorem fl_RX12_120 : zFL RX12 120 12 35 3 := ⟨⟨by decide, by decide, rfl⟩, zW6 103 rfl rfl⟩
set_option maxRecDepth 20000 in
theorem fl_RX12_150 : zFL RX12 150 12 45 2 := ⟨⟨by decide, by decide, rfl⟩, zW6 113 rfl rfl⟩
set_option maxRecDepth 20000 in
theorem fl_RX12_162 : zFL RX12 162 12 49 0 := ⟨⟨by decide, by decide, rfl⟩, zW6 117 rfl rfl⟩
set_option maxRecDepth 20000 in
theorem fl_RX12_153 : zFL RX12 153 12 46 2 := ⟨⟨by decide, by decide, rfl⟩, zW6 114 rfl rfl⟩
set_option maxRecDepth 20000 in
theorem fl_RX12_156 : zFL RX12 156 12 47 2 := ⟨⟨by decide, by decide, rfl⟩, zW6 115 rfl rfl⟩
set_option maxRecDepth 20000 in
theorem fl_RX12_159 : zFL RX12 159 12 48 2 := ⟨⟨by decide, by decide, rfl⟩, zW6 116 rfl rfl⟩
set_option maxRecDepth 20000 in
theorem fl_RX12_165 : zFL RX12 165 12 50 0 := ⟨⟨by decide, by decide, rfl⟩, zW6 118 rfl rfl⟩
set_option maxRecDepth 20000 in
theorem fl_RX12_171 : zFL RX12 171 12 52 0 := ⟨⟨by decide, by decide, rfl⟩, zW6 120 rfl rfl⟩
set_option maxRecDepth 20000 in
theorem fl_RX12_174 : zFL RX12 174 12 53 1 := ⟨⟨by decide, by decide, rfl⟩, zW6 121 rfl rfl⟩
set_option maxRecDepth 20000 in
theorem fl_RX12_168 : zFL RX12 168 12 51 2 := ⟨⟨by decide, by decide, rfl⟩, zW6 119 rfl rfl⟩
set_option maxRecDepth 20000 in
theorem fl_RX12_177 : zFL RX12 177 12 54 2 := ⟨⟨by decide, by decide, rfl⟩, zW6 122 rfl rfl⟩
set_option maxRecDepth 20000 in
theorem fl_RX12_192 : zFL RX12 192 12 59 2 := ⟨⟨by decide, by decide, rfl⟩, zW6 127 rfl rfl⟩
set_option maxRecDepth 20000 in
theorem fl_RX12_198 : zFL RX12 198 12 61 2 := ⟨⟨by decide, by decide, rfl⟩, zW6 129 rfl rfl⟩
set_option maxRecDepth 20000 in
theorem fl_RX12_186 : zFL RX12 186 12 57 2 := ⟨⟨by decide, by decide, rfl⟩, zW6 125 rfl rfl⟩
set_option maxRecDepth 20000 in
theorem fl_RX12_189 : zFL RX12 189 12 58 2 := ⟨⟨by decide, by decide, rfl⟩, zW6 126 rfl rfl⟩
set_option maxRecDepth 20000 in
theorem fl_RX12_201 : zFL RX12 201 12 62 0 := ⟨⟨by decide, by decide, rfl⟩, zW6 130 rfl rfl⟩
set_option maxRecDepth 20000 in
theorem fl_RX12_210 : zFL RX12 210 12 65 2 := ⟨⟨by decide, by decide, rfl⟩, zW6 133 rfl rfl⟩
set_option maxRecDepth 20000 in
theorem fl_RX12_213 : zFL RX12 213 12 66 2 := ⟨⟨by decide, by decide, rfl⟩, zW6 134 rfl rfl⟩
set_option maxRecDepth 20000 in
theorem fl_RX12_219 : zFL RX12 219 12 68 0 := ⟨⟨by decide, by decide, rfl⟩, zW6 136 rfl rfl⟩
set_option maxRecDepth 20000 in
theorem fl_RX12_216 : zFL RX12 216 12 67 0 := ⟨⟨by decide, by decide, rfl⟩, zW6 135 rfl rfl⟩
set_option maxRecDepth 20000 in
theorem fl_RX12_207 : zFL RX12 207 12 64 1 := ⟨⟨by decide, by decide, rfl⟩, zW6 132 rfl rfl⟩
set_option maxRecDepth 20000 in
theorem fl_RX12_225 : zFL RX12 225 12 70 2 := ⟨⟨by decide, by decide, rfl⟩, zW6 138 rfl rfl⟩
set_option maxRecDepth 20000 in
theorem fl_RX12_228 : zFL RX12 228 12 71 2 := ⟨⟨by decide, by decide, rfl⟩, zW6 139 rfl rfl⟩
set_option maxRecDepth 20000 in
theorem fl_RX12_231 : zFL RX12 231 12 72 2 := ⟨⟨by decide, by decide, rfl⟩, zW6 140 rfl rfl⟩
set_option maxRecDepth 20000 in
theorem fl_RX12_234 : zFL RX12 234 12 73 2 := ⟨⟨by decide, by decide, rfl⟩, zW6 141 rfl rfl⟩
set_option maxRecDepth 20000 in
theorem fl_RX12_237 : zFL RX12 237 12 74 2 := ⟨⟨by decide, by decide, rfl⟩, zW6 142 rfl rfl⟩
set_option maxRecDepth 20000 in
theorem fl_RX12_240 : zFL RX12 240 12 75 0 := ⟨⟨by decide, by decide, rfl⟩, zW6 143 rfl rfl⟩
set_option maxRecDepth 20000 in
theorem cb_RX1_45 : zCB RX1 45 yX1_valueAt cX1_valueAt 8 (some .int) 2 ∧ Cond.instanceMethod yX1_valueAt ∈ zTb ∧ Cond.selects yX1_valueAt.cls yX1_valueAt yX1_valueAt ∈ zTb ∧ yX1_valueAt.cls = zNm 1 ∧ 1 < 13 := ⟨⟨zW3 184 rfl rfl, zW1 11 rfl rfl, zW3 187 rfl rfl, ⟨by decide +kernel, by decide +kernel, by decide +kernel⟩⟩, zW3 185 rfl rfl, zW3 186 rfl rfl, rfl, by decide⟩
set_option maxRecDepth 20000 in
theorem cb_RX1_49 : zCB RX1 49 yX1_leastPolynomial cX1_leastPolynomial 3 (some .int) 1 ∧ Cond.instanceMethod yX1_leastPolynomial ∈ zTb ∧ Cond.selects yX1_leastPolynomial.cls yX1_leastPolynomial yX1_leastPolynomial ∈ zTb ∧ yX1_leastPolynomial.cls = zNm 1 ∧ 1 < 13 := ⟨⟨zW3 188 rfl rfl, zW1 11 rfl rfl, zW3 191 rfl rfl, ⟨by decide +kernel, by decide +kernel, by decide +kernel⟩⟩, zW3 189 rfl rfl, zW3 190 rfl rfl, rfl, by decide⟩
set_option maxRecDepth 20000 in
theorem cb_RX1_53 : zCB RX1 53 yX1_multiplyDivisor cX1_multiplyDivisor 6 none 1 ∧ Cond.instanceMethod yX1_multiplyDivisor ∈ zTb ∧ Cond.selects yX1_multiplyDivisor.cls yX1_multiplyDivisor yX1_multiplyDivisor ∈ zTb ∧ yX1_multiplyDivisor.cls = zNm 1 ∧ 1 < 13 := ⟨⟨zW3 192 rfl rfl, zW1 11 rfl rfl, zW3 195 rfl rfl, ⟨by decide +kernel, by decide +kernel, by decide +kernel⟩⟩, zW3 194 rfl rfl, zSel 12 rfl rfl, rfl, by decide⟩
set_option maxRecDepth 20000 in
theorem cb_RX1_67 : zCB RX1 67 yJ7_fill_53178 cJ7_fill_53178 4 none 2 ∧ Cond.static yJ7_fill_53178 ∈ zTb := ⟨⟨zW3 200 rfl rfl, zW1 19 rfl rfl, zW3 202 rfl rfl, ⟨by decide +kernel, by decide +kernel, by decide +kernel⟩⟩, zW3 201 rfl rfl⟩
set_option maxRecDepth 20000 in
theorem cb_RX1_73 : zCB RX1 73 yX1_encode cX1_encode 8 (some .long) 1 ∧ Cond.instanceMethod yX1_encode ∈ zTb ∧ Cond.selects yX1_encode.cls yX1_encode yX1_encode ∈ zTb ∧ yX1_encode.cls = zNm 1 ∧ 1 < 13 := ⟨⟨zW4 128 rfl rfl, zW1 11 rfl rfl, zW4 119 rfl rfl, ⟨by decide +kernel, by decide +kernel, by decide +kernel⟩⟩, zW4 117 rfl rfl, zW4 118 rfl rfl, rfl, by decide⟩
set_option maxRecDepth 20000 in
theorem cb_RX1_77 : zCB RX1 77 yJ13_bitCount_95d88 cJ13_bitCount_95d88 2 (some .int) 1 ∧ Cond.static yJ13_bitCount_95d88 ∈ zTb := ⟨⟨zW4 129 rfl rfl, zW1 20 rfl rfl, zW4 131 rfl rfl, ⟨by decide +kernel, by decide +kernel, by decide +kernel⟩⟩, zW4 130 rfl rfl⟩
set_option maxRecDepth 20000 in
theorem cb_RX1_96 : zCB RX1 96 yX1_thirdOf cX1_thirdOf 2 (some .int) 1 ∧ Cond.instanceMethod yX1_thirdOf ∈ zTb ∧ Cond.selects yX1_thirdOf.cls yX1_thirdOf yX1_thirdOf ∈ zTb ∧ yX1_thirdOf.cls = zNm 1 ∧ 1 < 13 := ⟨⟨zW4 158 rfl rfl, zW1 11 rfl rfl, zW4 161 rfl rfl, ⟨by decide +kernel, by decide +kernel, by decide +kernel⟩⟩, zW4 160 rfl rfl, zSel 34 rfl rfl, rfl, by decide⟩
set_option maxRecDepth 20000 in
theorem cb_RX1_99 : zCB RX1 99 yX1_marked cX1_marked 3 (some .int) 2 ∧ Cond.instanceMethod yX1_marked ∈ zTb ∧ Cond.selects yX1_marked.cls yX1_marked yX1_marked ∈ zTb ∧ yX1_marked.cls = zNm 1 ∧ 1 < 13 := ⟨⟨zW4 166 rfl rfl, zW1 11 rfl rfl, zW4 169 rfl rfl, ⟨by decide +kernel, by decide +kernel, by decide +kernel⟩⟩, zW4 168 rfl rfl, zSel 36 rfl rfl, rfl, by decide⟩
set_option maxRecDepth 20000 in
theorem cb_RX1_92 : zCB RX1 92 yX1_mark cX1_mark 3 none 2 ∧ Cond.instanceMethod yX1_mark ∈ zTb ∧ Cond.selects yX1_mark.cls yX1_mark yX1_mark ∈ zTb ∧ yX1_mark.cls = zNm 1 ∧ 1 < 13 := ⟨⟨zW4 154 rfl rfl, zW1 11 rfl rfl, zW4 157 rfl rfl, ⟨by decide +kernel, by decide +kernel, by decide +kernel⟩⟩, zW4 156 rfl rfl, zSel 33 rfl rfl, rfl, by decide⟩
set_option maxRecDepth 20000 in
theorem cb_RX1_89 : zCB RX1 89 yJ7_fill_d0a16 cJ7_fill_d0a16 5 none 2 ∧ Cond.static yJ7_fill_d0a16 ∈ zTb := ⟨⟨zW4 151 rfl rfl, zW1 19 rfl rfl, zW4 153 rfl rfl, ⟨by decide +kernel, by decide +kernel, by decide +kernel⟩⟩, zW4 152 rfl rfl⟩
set_option maxRecDepth 20000 in
theorem cb_RX1_83 : zCB RX1 83 yX1_markMendable cX1_markMendable 3 none 0 ∧ Cond.instanceMethod yX1_markMendable ∈ zTb ∧ Cond.selects yX1_markMendable.cls yX1_markMendable yX1_markMendable ∈ zTb ∧ yX1_markMendable.cls = zNm 1 ∧ 1 < 13 := ⟨⟨zW4 147 rfl rfl, zW1 11 rfl rfl, zW4 150 rfl rfl, ⟨by decide +kernel, by decide +kernel, by decide +kernel⟩⟩, zW4 149 rfl rfl, zSel 32 rfl rfl, rfl, by decide⟩
set_option maxRecDepth 20000 in
theorem cb_RX1_86 : zCB RX1 86 yX1_countMendable cX1_countMendable 8 (some .int) 1 ∧ Cond.instanceMethod yX1_countMendable ∈ zTb ∧ Cond.selects yX1_countMendable.cls yX1_countMendable yX1_countMendable ∈ zTb ∧ yX1_countMendable.cls = zNm 1 ∧ 1 < 13 := ⟨⟨zW4 162 rfl rfl, zW1 11 rfl rfl, zW4 165 rfl rfl, ⟨by decide +kernel, by decide +kernel, by decide +kernel⟩⟩, zW4 164 rfl rfl, zSel 35 rfl rfl, rfl, by decide⟩
set_option maxRecDepth 20000 in
theorem cb_RX2_48 : zCB RX2 48 yX1_product cX1_product 4 (some .int) 2 ∧ Cond.instanceMethod yX1_product ∈ zTb ∧ Cond.selects yX1_product.cls yX1_product yX1_product ∈ zTb ∧ yX1_product.cls = zNm 1 ∧ 1 < 13 := ⟨⟨zW5 30 rfl rfl, zW1 11 rfl rfl, zW5 33 rfl rfl, ⟨by decide +kernel, by decide +kernel, by decide +kernel⟩⟩, zW5 31 rfl rfl, zW5 32 rfl rfl, rfl, by decide⟩
set_option maxRecDepth 20000 in
theorem cb_RX2_72 : zCB RX2 72 yX2_gapAt cX2_gapAt 5 (some .int) 2 ∧ Cond.instanceMethod yX2_gapAt ∈ zTb ∧ Cond.selects yX2_gapAt.cls yX2_gapAt yX2_gapAt ∈ zTb ∧ yX2_gapAt.cls = zNm 2 ∧ 2 < 13 := ⟨⟨zW5 39 rfl rfl, zW1 3 rfl rfl, zW5 42 rfl rfl, ⟨by decide +kernel, by decide +kernel, by decide +kernel⟩⟩, zW5 41 rfl rfl, zSel 47 rfl rfl, rfl, by decide⟩
set_option maxRecDepth 20000 in
theorem cb_RX2_82 : zCB RX2 82 yX1_inverse cX1_inverse 3 (some .int) 1 ∧ Cond.instanceMethod yX1_inverse ∈ zTb ∧ Cond.selects yX1_inverse.cls yX1_inverse yX1_inverse ∈ zTb ∧ yX1_inverse.cls = zNm 1 ∧ 1 < 13 := ⟨⟨zW5 46 rfl rfl, zW1 11 rfl rfl, zW5 49 rfl rfl, ⟨by decide +kernel, by decide +kernel, by decide +kernel⟩⟩, zW5 47 rfl rfl, zW5 48 rfl rfl, rfl, by decide⟩
set_option maxRecDepth 20000 in
theorem cb_RX2_86 : zCB RX2 86 yX2_correct cX2_correct 5 none 3 ∧ Cond.instanceMethod yX2_correct ∈ zTb ∧ Cond.selects yX2_correct.cls yX2_correct yX2_correct ∈ zTb ∧ yX2_correct.cls = zNm 2 ∧ 2 < 13 := ⟨⟨zW5 50 rfl rfl, zW1 3 rfl rfl, zW5 53 rfl rfl, ⟨by decide +kernel, by decide +kernel, by decide +kernel⟩⟩, zW5 52 rfl rfl, zSel 48 rfl rfl, rfl, by decide⟩
set_option maxRecDepth 20000 in
theorem ac_RX2_76 : Cond.methodLink RX2 76 arraycopyName ∈ zTb ∧ Cond.native arraycopyName ∈ zTb ∧ Cond.static arraycopyName ∈ zTb ∧ Cond.initialized "java/lang/System" ∈ zTb := ⟨zW5 43 rfl rfl, zW5 45 rfl rfl, zW5 44 rfl rfl, zW1 21 rfl rfl⟩
set_option maxRecDepth 20000 in
theorem cb_RX2_66 : zCB RX2 66 yJ7_fill_53178 cJ7_fill_53178 4 none 2 ∧ Cond.static yJ7_fill_53178 ∈ zTb := ⟨⟨zW5 38 rfl rfl, zW1 19 rfl rfl, zW3 202 rfl rfl, ⟨by decide +kernel, by decide +kernel, by decide +kernel⟩⟩, zW3 201 rfl rfl⟩
set_option maxRecDepth 20000 in
theorem cb_RX2_93 : zCB RX2 93 yX2_isRoot cX2_isRoot 7 (some .boolean) 2 ∧ Cond.instanceMethod yX2_isRoot ∈ zTb ∧ Cond.selects yX2_isRoot.cls yX2_isRoot yX2_isRoot ∈ zTb ∧ yX2_isRoot.cls = zNm 2 ∧ 2 < 13 := ⟨⟨zW5 58 rfl rfl, zW1 3 rfl rfl, zW5 61 rfl rfl, ⟨by decide +kernel, by decide +kernel, by decide +kernel⟩⟩, zW5 60 rfl rfl, zSel 50 rfl rfl, rfl, by decide⟩
set_option maxRecDepth 20000 in
theorem cb_RX2_52 : zCB RX2 52 yX2_findFactors cX2_findFactors 6 none 1 ∧ Cond.instanceMethod yX2_findFactors ∈ zTb ∧ Cond.selects yX2_findFactors.cls yX2_findFactors yX2_findFactors ∈ zTb ∧ yX2_findFactors.cls = zNm 2 ∧ 2 < 13 := ⟨⟨zW5 34 rfl rfl, zW1 3 rfl rfl, zW5 37 rfl rfl, ⟨by decide +kernel, by decide +kernel, by decide +kernel⟩⟩, zW5 36 rfl rfl, zSel 46 rfl rfl, rfl, by decide⟩
set_option maxRecDepth 20000 in
theorem cb_RX2_59 : zCB RX2 59 yX2_findRoots cX2_findRoots 5 (some .int) 1 ∧ Cond.instanceMethod yX2_findRoots ∈ zTb ∧ Cond.selects yX2_findRoots.cls yX2_findRoots yX2_findRoots ∈ zTb ∧ yX2_findRoots.cls = zNm 2 ∧ 2 < 13 := ⟨⟨zW5 54 rfl rfl, zW1 3 rfl rfl, zW5 57 rfl rfl, ⟨by decide +kernel, by decide +kernel, by decide +kernel⟩⟩, zW5 56 rfl rfl, zSel 49 rfl rfl, rfl, by decide⟩
set_option maxRecDepth 20000 in
theorem cb_RX2_44 : zCB RX2 44 yX1_valueAt cX1_valueAt 8 (some .int) 2 ∧ Cond.instanceMethod yX1_valueAt ∈ zTb ∧ Cond.selects yX1_valueAt.cls yX1_valueAt yX1_valueAt ∈ zTb ∧ yX1_valueAt.cls = zNm 1 ∧ 1 < 13 := ⟨⟨zW5 29 rfl rfl, zW1 11 rfl rfl, zW3 187 rfl rfl, ⟨by decide +kernel, by decide +kernel, by decide +kernel⟩⟩, zW3 185 rfl rfl, zW3 186 rfl rfl, rfl, by decide⟩
set_option maxRecDepth 20000 in
theorem cb_RX8_57 : zCB RX8 57 yJ13_bitCount_95d88 cJ13_bitCount_95d88 2 (some .int) 1 ∧ Cond.static yJ13_bitCount_95d88 ∈ zTb := ⟨⟨zW5 92 rfl rfl, zW1 20 rfl rfl, zW4 131 rfl rfl, ⟨by decide +kernel, by decide +kernel, by decide +kernel⟩⟩, zW4 130 rfl rfl⟩
set_option maxRecDepth 20000 in
theorem cb_RX3_77 : zCB RX3 77 yX8_isTrueRead cX8_isTrueRead 4 (some .boolean) 2 ∧ Cond.instanceMethod yX8_isTrueRead ∈ zTb ∧ Cond.selects yX8_isTrueRead.cls yX8_isTrueRead yX8_isTrueRead ∈ zTb ∧ yX8_isTrueRead.cls = zNm 8 ∧ 8 < 13 := ⟨⟨zW5 88 rfl rfl, zW1 6 rfl rfl, zW5 91 rfl rfl, ⟨by decide +kernel, by decide +kernel, by decide +kernel⟩⟩, zW5 89 rfl rfl, zW5 90 rfl rfl, rfl, by decide⟩
set_option maxRecDepth 20000 in
theorem cb_RX3_84 : zCB RX3 84 yX2_decode cX2_decode 5 none 2 ∧ Cond.instanceMethod yX2_decode ∈ zTb ∧ Cond.selects yX2_decode.cls yX2_decode yX2_decode ∈ zTb ∧ yX2_decode.cls = zNm 2 ∧ 2 < 13 := ⟨⟨zW5 93 rfl rfl, zW1 3 rfl rfl, zW5 28 rfl rfl, ⟨by decide +kernel, by decide +kernel, by decide +kernel⟩⟩, zW5 26 rfl rfl, zW5 27 rfl rfl, rfl, by decide⟩
set_option maxRecDepth 20000 in
theorem cb_RX3_25 : zCB RX3 25 yJ13_bitCount_95d88 cJ13_bitCount_95d88 2 (some .int) 1 ∧ Cond.static yJ13_bitCount_95d88 ∈ zTb := ⟨⟨zW5 82 rfl rfl, zW1 20 rfl rfl, zW4 131 rfl rfl, ⟨by decide +kernel, by decide +kernel, by decide +kernel⟩⟩, zW4 130 rfl rfl⟩
set_option maxRecDepth 20000 in
theorem cb_RX10_129 : zCB RX10 129 yJ9_min_f86c9 cJ9_min_f86c9 4 (some .long) 2 ∧ Cond.static yJ9_min_f86c9 ∈ zTb := ⟨⟨zW4 229 rfl rfl, zW1 18 rfl rfl, zW4 231 rfl rfl, ⟨by decide +kernel, by decide +kernel, by decide +kernel⟩⟩, zW4 230 rfl rfl⟩
set_option maxRecDepth 20000 in
theorem cb_RX10_131 : zCB RX10 131 yJ9_max_f86c9 cJ9_max_f86c9 4 (some .long) 2 ∧ Cond.static yJ9_max_f86c9 ∈ zTb := ⟨⟨zW4 232 rfl rfl, zW1 18 rfl rfl, zW4 234 rfl rfl, ⟨by decide +kernel, by decide +kernel, by decide +kernel⟩⟩, zW4 233 rfl rfl⟩
set_option maxRecDepth 20000 in
theorem cb_RX10_50 : zCB RX10 50 yJ9_max_7cf53 cJ9_max_7cf53 2 (some .int) 2 ∧ Cond.static yJ9_max_7cf53 ∈ zTb := ⟨⟨zW5 2 rfl rfl, zW1 18 rfl rfl, zW5 4 rfl rfl, ⟨by decide +kernel, by decide +kernel, by decide +kernel⟩⟩, zW5 3 rfl rfl⟩
set_option maxRecDepth 20000 in
theorem cb_RX10_44 : zCB RX10 44 yJ9_min_7cf53 cJ9_min_7cf53 2 (some .int) 2 ∧ Cond.static yJ9_min_7cf53 ∈ zTb := ⟨⟨zW5 1 rfl rfl, zW1 18 rfl rfl, zW3 129 rfl rfl, ⟨by decide +kernel, by decide +kernel, by decide +kernel⟩⟩, zW3 128 rfl rfl⟩
set_option maxRecDepth 20000 in
theorem cb_RX10_122 : zCB RX10 122 yJ9_floorMod_f86c9 cJ9_floorMod_f86c9 6 (some .long) 2 ∧ Cond.static yJ9_floorMod_f86c9 ∈ zTb := ⟨⟨zW4 238 rfl rfl, zW1 18 rfl rfl, zW5 0 rfl rfl, ⟨by decide +kernel, by decide +kernel, by decide +kernel⟩⟩, zW4 239 rfl rfl⟩
set_option maxRecDepth 20000 in
theorem cb_RX10_114 : zCB RX10 114 yX10_bounded cX10_bounded 2 (some .int) 1 ∧ Cond.static yX10_bounded ∈ zTb := ⟨⟨zW4 224 rfl rfl, zW1 2 rfl rfl, zW4 226 rfl rfl, ⟨by decide +kernel, by decide +kernel, by decide +kernel⟩⟩, zW4 225 rfl rfl⟩
set_option maxRecDepth 20000 in
theorem cb_RX10_118 : zCB RX10 118 yJ9_floorDiv_f86c9 cJ9_floorDiv_f86c9 6 (some .long) 2 ∧ Cond.static yJ9_floorDiv_f86c9 ∈ zTb := ⟨⟨zW4 235 rfl rfl, zW1 18 rfl rfl, zW4 237 rfl rfl, ⟨by decide +kernel, by decide +kernel, by decide +kernel⟩⟩, zW4 236 rfl rfl⟩
set_option maxRecDepth 20000 in
theorem cb_RX10_98 : zCB RX10 98 yX10_push cX10_push 2 none 1 ∧ Cond.instanceMethod yX10_push ∈ zTb ∧ Cond.selects yX10_push.cls yX10_push yX10_push ∈ zTb ∧ yX10_push.cls = zNm 10 ∧ 10 < 13 := ⟨⟨zW4 209 rfl rfl, zW1 2 rfl rfl, zW4 212 rfl rfl, ⟨by decide +kernel, by decide +kernel, by decide +kernel⟩⟩, zW4 211 rfl rfl, zSel 41 rfl rfl, rfl, by decide⟩
set_option maxRecDepth 20000 in
theorem cb_RX10_106 : zCB RX10 106 yX10_pop cX10_pop 1 (some .int) 0 ∧ Cond.instanceMethod yX10_pop ∈ zTb ∧ Cond.selects yX10_pop.cls yX10_pop yX10_pop ∈ zTb ∧ yX10_pop.cls = zNm 10 ∧ 10 < 13 := ⟨⟨zW4 217 rfl rfl, zW1 2 rfl rfl, zW4 220 rfl rfl, ⟨by decide +kernel, by decide +kernel, by decide +kernel⟩⟩, zW4 219 rfl rfl, zSel 43 rfl rfl, rfl, by decide⟩
set_option maxRecDepth 20000 in
theorem cb_RX10_110 : zCB RX10 110 yX10_joined cX10_joined 3 (some .int) 3 ∧ Cond.static yX10_joined ∈ zTb := ⟨⟨zW4 221 rfl rfl, zW1 2 rfl rfl, zW4 223 rfl rfl, ⟨by decide +kernel, by decide +kernel, by decide +kernel⟩⟩, zW4 222 rfl rfl⟩
set_option maxRecDepth 20000 in
theorem cb_RX10_102 : zCB RX10 102 yX10_valueOf cX10_valueOf 2 (some .int) 1 ∧ Cond.instanceMethod yX10_valueOf ∈ zTb ∧ Cond.selects yX10_valueOf.cls yX10_valueOf yX10_valueOf ∈ zTb ∧ yX10_valueOf.cls = zNm 10 ∧ 10 < 13 := ⟨⟨zW4 213 rfl rfl, zW1 2 rfl rfl, zW4 216 rfl rfl, ⟨by decide +kernel, by decide +kernel, by decide +kernel⟩⟩, zW4 215 rfl rfl, zSel 42 rfl rfl, rfl, by decide⟩
set_option maxRecDepth 20000 in
theorem cb_RX10_83 : zCB RX10 83 yX0_hasTries cX0_hasTries 1 (some .boolean) 0 ∧ Cond.instanceMethod yX0_hasTries ∈ zTb ∧ Cond.selects yX0_hasTries.cls yX0_hasTries yX0_hasTries ∈ zTb ∧ yX0_hasTries.cls = zNm 0 ∧ 0 < 13 := ⟨⟨zW5 105 rfl rfl, zW1 10 rfl rfl, zW4 42 rfl rfl, ⟨by decide +kernel, by decide +kernel, by decide +kernel⟩⟩, zW4 40 rfl rfl, zW4 41 rfl rfl, rfl, by decide⟩
set_option maxRecDepth 20000 in
theorem cb_RX10_40 : zCB RX10 40 yX10_run cX10_run 8 (some .int) 3 ∧ Cond.instanceMethod yX10_run ∈ zTb ∧ Cond.selects yX10_run.cls yX10_run yX10_run ∈ zTb ∧ yX10_run.cls = zNm 10 ∧ 10 < 13 := ⟨⟨zW4 205 rfl rfl, zW1 2 rfl rfl, zW4 208 rfl rfl, ⟨by decide +kernel, by decide +kernel, by decide +kernel⟩⟩, zW4 207 rfl rfl, zSel 40 rfl rfl, rfl, by decide⟩
set_option maxRecDepth 20000 in
theorem cb_RX3_95 : zCB RX3 95 yJ9_abs_0f7a4 cJ9_abs_0f7a4 1 (some .int) 1 ∧ Cond.static yJ9_abs_0f7a4 ∈ zTb := ⟨⟨zW5 98 rfl rfl, zW1 18 rfl rfl, zW5 100 rfl rfl, ⟨by decide +kernel, by decide +kernel, by decide +kernel⟩⟩, zW5 99 rfl rfl⟩
set_option maxRecDepth 20000 in
theorem cb_RX3_101 : zCB RX3 101 yX10_triesAgain cX10_triesAgain 5 (some .boolean) 4 ∧ Cond.instanceMethod yX10_triesAgain ∈ zTb ∧ Cond.selects yX10_triesAgain.cls yX10_triesAgain yX10_triesAgain ∈ zTb ∧ yX10_triesAgain.cls = zNm 10 ∧ 10 < 13 := ⟨⟨zW5 101 rfl rfl, zW1 2 rfl rfl, zW5 104 rfl rfl, ⟨by decide +kernel, by decide +kernel, by decide +kernel⟩⟩, zW5 102 rfl rfl, zW5 103 rfl rfl, rfl, by decide⟩
set_option maxRecDepth 20000 in
theorem cb_RX3_52 : zCB RX3 52 yX8_readBy cX8_readBy 6 (some .long) 2 ∧ Cond.instanceMethod yX8_readBy ∈ zTb ∧ Cond.selects yX8_readBy.cls yX8_readBy yX8_readBy ∈ zTb ∧ yX8_readBy.cls = zNm 8 ∧ 8 < 13 := ⟨⟨zW5 83 rfl rfl, zW1 6 rfl rfl, zW5 16 rfl rfl, ⟨by decide +kernel, by decide +kernel, by decide +kernel⟩⟩, zW5 14 rfl rfl, zW5 15 rfl rfl, rfl, by decide⟩
set_option maxRecDepth 20000 in
theorem cb_RX3_56 : zCB RX3 56 yX3_mend cX3_mend 5 none 3 ∧ Cond.instanceMethod yX3_mend ∈ zTb ∧ Cond.selects yX3_mend.cls yX3_mend yX3_mend ∈ zTb ∧ yX3_mend.cls = zNm 3 ∧ 3 < 13 := ⟨⟨zW5 84 rfl rfl, zW1 4 rfl rfl, zW5 87 rfl rfl, ⟨by decide +kernel, by decide +kernel, by decide +kernel⟩⟩, zW5 86 rfl rfl, zSel 51 rfl rfl, rfl, by decide⟩
set_option maxRecDepth 20000 in
theorem cb_RX3_63 : zCB RX3 63 yX3_nextThreshold cX3_nextThreshold 4 (some .int) 2 ∧ Cond.instanceMethod yX3_nextThreshold ∈ zTb ∧ Cond.selects yX3_nextThreshold.cls yX3_nextThreshold yX3_nextThreshold ∈ zTb ∧ yX3_nextThreshold.cls = zNm 3 ∧ 3 < 13 := ⟨⟨zW5 94 rfl rfl, zW1 4 rfl rfl, zW5 97 rfl rfl, ⟨by decide +kernel, by decide +kernel, by decide +kernel⟩⟩, zW5 96 rfl rfl, zSel 52 rfl rfl, rfl, by decide⟩
set_option maxRecDepth 20000 in
theorem cb_RX4_24 : zCB RX4 24 yX4_put cX4_put 2 none 1 ∧ Cond.instanceMethod yX4_put ∈ zTb ∧ Cond.selects yX4_put.cls yX4_put yX4_put ∈ zTb ∧ yX4_put.cls = zNm 4 ∧ 4 < 13 := ⟨⟨zW6 23 rfl rfl, zW1 9 rfl rfl, zW6 26 rfl rfl, ⟨by decide +kernel, by decide +kernel, by decide +kernel⟩⟩, zW6 25 rfl rfl, zSel 59 rfl rfl, rfl, by decide⟩
set_option maxRecDepth 20000 in
theorem cb_RX4_47 : zCB RX4 47 yX4_sumOf cX4_sumOf 4 (some .int) 2 ∧ Cond.static yX4_sumOf ∈ zTb := ⟨⟨zW6 32 rfl rfl, zW1 9 rfl rfl, zW6 34 rfl rfl, ⟨by decide +kernel, by decide +kernel, by decide +kernel⟩⟩, zW6 33 rfl rfl⟩
set_option maxRecDepth 20000 in
theorem cb_RX4_43 : zCB RX4 43 yX4_putRow cX4_putRow 4 none 2 ∧ Cond.instanceMethod yX4_putRow ∈ zTb ∧ Cond.selects yX4_putRow.cls yX4_putRow yX4_putRow ∈ zTb ∧ yX4_putRow.cls = zNm 4 ∧ 4 < 13 := ⟨⟨zW6 27 rfl rfl, zW1 9 rfl rfl, zW6 30 rfl rfl, ⟨by decide +kernel, by decide +kernel, by decide +kernel⟩⟩, zW6 29 rfl rfl, zSel 60 rfl rfl, rfl, by decide⟩
set_option maxRecDepth 20000 in
theorem cb_RX5_24 : zCB RX5 24 yX8_clear cX8_clear 1 none 0 ∧ Cond.instanceMethod yX8_clear ∈ zTb ∧ Cond.selects yX8_clear.cls yX8_clear yX8_clear ∈ zTb ∧ yX8_clear.cls = zNm 8 ∧ 8 < 13 := ⟨⟨zW4 51 rfl rfl, zW1 6 rfl rfl, zW4 54 rfl rfl, ⟨by decide +kernel, by decide +kernel, by decide +kernel⟩⟩, zW4 52 rfl rfl, zW4 53 rfl rfl, rfl, by decide⟩
set_option maxRecDepth 20000 in
theorem ac_RX8_30 : Cond.methodLink RX8 30 arraycopyName ∈ zTb ∧ Cond.native arraycopyName ∈ zTb ∧ Cond.static arraycopyName ∈ zTb ∧ Cond.initialized "java/lang/System" ∈ zTb := ⟨zW5 120 rfl rfl, zW5 45 rfl rfl, zW5 44 rfl rfl, zW1 21 rfl rfl⟩
set_option maxRecDepth 20000 in
theorem cb_RX5_27 : zCB RX5 27 yX8_copy cX8_copy 2 none 1 ∧ Cond.instanceMethod yX8_copy ∈ zTb ∧ Cond.selects yX8_copy.cls yX8_copy yX8_copy ∈ zTb ∧ yX8_copy.cls = zNm 8 ∧ 8 < 13 := ⟨⟨zW5 188 rfl rfl, zW1 6 rfl rfl, zW5 119 rfl rfl, ⟨by decide +kernel, by decide +kernel, by decide +kernel⟩⟩, zW5 117 rfl rfl, zW5 118 rfl rfl, rfl, by decide⟩
set_option maxRecDepth 20000 in
theorem cb_RX5_71 : zCB RX5 71 yX1_isCodeWord cX1_isCodeWord 3 (some .boolean) 1 ∧ Cond.instanceMethod yX1_isCodeWord ∈ zTb ∧ Cond.selects yX1_isCodeWord.cls yX1_isCodeWord yX1_isCodeWord ∈ zTb ∧ yX1_isCodeWord.cls = zNm 1 ∧ 1 < 13 := ⟨⟨zW6 53 rfl rfl, zW1 11 rfl rfl, zW6 56 rfl rfl, ⟨by decide +kernel, by decide +kernel, by decide +kernel⟩⟩, zW6 54 rfl rfl, zW6 55 rfl rfl, rfl, by decide⟩
set_option maxRecDepth 20000 in
theorem cb_RX5_56 : zCB RX5 56 yX5_takesRow cX5_takesRow 6 (some .boolean) 4 ∧ Cond.instanceMethod yX5_takesRow ∈ zTb ∧ Cond.selects yX5_takesRow.cls yX5_takesRow yX5_takesRow ∈ zTb ∧ yX5_takesRow.cls = zNm 5 ∧ 5 < 13 := ⟨⟨zW6 49 rfl rfl, zW1 5 rfl rfl, zW6 52 rfl rfl, ⟨by decide +kernel, by decide +kernel, by decide +kernel⟩⟩, zW6 51 rfl rfl, zSel 61 rfl rfl, rfl, by decide⟩
set_option maxRecDepth 20000 in
theorem cb_RX5_35 : zCB RX5 35 yX5_clear cX5_clear 2 none 0 ∧ Cond.instanceMethod yX5_clear ∈ zTb ∧ Cond.selects yX5_clear.cls yX5_clear yX5_clear ∈ zTb ∧ yX5_clear.cls = zNm 5 ∧ 5 < 13 := ⟨⟨zW6 47 rfl rfl, zW1 5 rfl rfl, zW4 50 rfl rfl, ⟨by decide +kernel, by decide +kernel, by decide +kernel⟩⟩, zW4 48 rfl rfl, zW4 49 rfl rfl, rfl, by decide⟩
set_option maxRecDepth 20000 in
theorem cb_RX5_36 : zCB RX5 36 yX4_sumOf cX4_sumOf 4 (some .int) 2 ∧ Cond.static yX4_sumOf ∈ zTb := ⟨⟨zW6 48 rfl rfl, zW1 9 rfl rfl, zW6 34 rfl rfl, ⟨by decide +kernel, by decide +kernel, by decide +kernel⟩⟩, zW6 33 rfl rfl⟩
set_option maxRecDepth 20000 in
theorem cb_RX6_106 : zCB RX6 106 yX6_isDigit cX6_isDigit 1 (some .boolean) 1 ∧ Cond.static yX6_isDigit ∈ zTb := ⟨⟨zW3 141 rfl rfl, zW1 12 rfl rfl, zW3 143 rfl rfl, ⟨by decide +kernel, by decide +kernel, by decide +kernel⟩⟩, zW3 142 rfl rfl⟩
set_option maxRecDepth 20000 in
theorem cb_RX6_40 : zCB RX6 40 yX6_packed cX6_packed 2 (some .int) 2 ∧ Cond.static yX6_packed ∈ zTb := ⟨⟨zW3 0 rfl rfl, zW1 12 rfl rfl, zW3 2 rfl rfl, ⟨by decide +kernel, by decide +kernel, by decide +kernel⟩⟩, zW3 1 rfl rfl⟩
set_option maxRecDepth 20000 in
theorem cb_RX6_103 : zCB RX6 103 yX6_isLetter cX6_isLetter 1 (some .boolean) 1 ∧ Cond.static yX6_isLetter ∈ zTb := ⟨⟨zW3 138 rfl rfl, zW1 12 rfl rfl, zW3 140 rfl rfl, ⟨by decide +kernel, by decide +kernel, by decide +kernel⟩⟩, zW3 139 rfl rfl⟩
set_option maxRecDepth 20000 in
theorem cb_RX6_112 : zCB RX6 112 yX6_lookAtNumber cX6_lookAtNumber 2 none 0 ∧ Cond.instanceMethod yX6_lookAtNumber ∈ zTb ∧ Cond.selects yX6_lookAtNumber.cls yX6_lookAtNumber yX6_lookAtNumber ∈ zTb ∧ yX6_lookAtNumber.cls = zNm 6 ∧ 6 < 13 := ⟨⟨zW3 148 rfl rfl, zW1 12 rfl rfl, zW3 151 rfl rfl, ⟨by decide +kernel, by decide +kernel, by decide +kernel⟩⟩, zW3 150 rfl rfl, zSel 5 rfl rfl, rfl, by decide⟩
set_option maxRecDepth 20000 in
theorem cb_RX6_109 : zCB RX6 109 yX6_lookAtWord cX6_lookAtWord 4 none 0 ∧ Cond.instanceMethod yX6_lookAtWord ∈ zTb ∧ Cond.selects yX6_lookAtWord.cls yX6_lookAtWord yX6_lookAtWord ∈ zTb ∧ yX6_lookAtWord.cls = zNm 6 ∧ 6 < 13 := ⟨⟨zW3 144 rfl rfl, zW1 12 rfl rfl, zW3 147 rfl rfl, ⟨by decide +kernel, by decide +kernel, by decide +kernel⟩⟩, zW3 146 rfl rfl, zSel 4 rfl rfl, rfl, by decide⟩
set_option maxRecDepth 20000 in
theorem cb_RX6_87 : zCB RX6 87 yX6_failBy cX6_failBy 3 (some .boolean) 2 ∧ Cond.instanceMethod yX6_failBy ∈ zTb ∧ Cond.selects yX6_failBy.cls yX6_failBy yX6_failBy ∈ zTb ∧ yX6_failBy.cls = zNm 6 ∧ 6 < 13 := ⟨⟨zW3 168 rfl rfl, zW1 12 rfl rfl, zW3 171 rfl rfl, ⟨by decide +kernel, by decide +kernel, by decide +kernel⟩⟩, zW3 170 rfl rfl, zSel 10 rfl rfl, rfl, by decide⟩
set_option maxRecDepth 20000 in
theorem cb_RX6_67 : zCB RX6 67 yX6_look cX6_look 2 none 0 ∧ Cond.instanceMethod yX6_look ∈ zTb ∧ Cond.selects yX6_look.cls yX6_look yX6_look ∈ zTb ∧ yX6_look.cls = zNm 6 ∧ 6 < 13 := ⟨⟨zW3 134 rfl rfl, zW1 12 rfl rfl, zW3 137 rfl rfl, ⟨by decide +kernel, by decide +kernel, by decide +kernel⟩⟩, zW3 136 rfl rfl, zSel 3 rfl rfl, rfl, by decide⟩
set_option maxRecDepth 20000 in
theorem cb_RX6_118 : zCB RX6 118 yX6_failHere cX6_failHere 1 (some .boolean) 0 ∧ Cond.instanceMethod yX6_failHere ∈ zTb ∧ Cond.selects yX6_failHere.cls yX6_failHere yX6_failHere ∈ zTb ∧ yX6_failHere.cls = zNm 6 ∧ 6 < 13 := ⟨⟨zW3 164 rfl rfl, zW1 12 rfl rfl, zW3 167 rfl rfl, ⟨by decide +kernel, by decide +kernel, by decide +kernel⟩⟩, zW3 166 rfl rfl, zSel 9 rfl rfl, rfl, by decide⟩
set_option maxRecDepth 20000 in
theorem cb_RX6_115 : zCB RX6 115 yX6_isOwn cX6_isOwn 2 (some .boolean) 1 ∧ Cond.instanceMethod yX6_isOwn ∈ zTb ∧ Cond.selects yX6_isOwn.cls yX6_isOwn yX6_isOwn ∈ zTb ∧ yX6_isOwn.cls = zNm 6 ∧ 6 < 13 := ⟨⟨zW3 160 rfl rfl, zW1 12 rfl rfl, zW3 163 rfl rfl, ⟨by decide +kernel, by decide +kernel, by decide +kernel⟩⟩, zW3 162 rfl rfl, zSel 8 rfl rfl, rfl, by decide⟩
set_option maxRecDepth 20000 in
theorem cb_RX6_124 : zCB RX6 124 yX6_readNumber cX6_readNumber 4 (some .int) 2 ∧ Cond.instanceMethod yX6_readNumber ∈ zTb ∧ Cond.selects yX6_readNumber.cls yX6_readNumber yX6_readNumber ∈ zTb ∧ yX6_readNumber.cls = zNm 6 ∧ 6 < 13 := ⟨⟨zW3 172 rfl rfl, zW1 12 rfl rfl, zW3 175 rfl rfl, ⟨by decide +kernel, by decide +kernel, by decide +kernel⟩⟩, zW3 174 rfl rfl, zSel 11 rfl rfl, rfl, by decide⟩
set_option maxRecDepth 20000 in
theorem cb_RX6_121 : zCB RX6 121 yX6_readOwn cX6_readOwn 2 (some .boolean) 1 ∧ Cond.instanceMethod yX6_readOwn ∈ zTb ∧ Cond.selects yX6_readOwn.cls yX6_readOwn yX6_readOwn ∈ zTb ∧ yX6_readOwn.cls = zNm 6 ∧ 6 < 13 := ⟨⟨zW3 156 rfl rfl, zW1 12 rfl rfl, zW3 159 rfl rfl, ⟨by decide +kernel, by decide +kernel, by decide +kernel⟩⟩, zW3 158 rfl rfl, zSel 7 rfl rfl, rfl, by decide⟩
set_option maxRecDepth 20000 in
theorem cb_RX6_136 : zCB RX6 136 yX1_takesMends cX1_takesMends 4 (some .boolean) 1 ∧ Cond.instanceMethod yX1_takesMends ∈ zTb ∧ Cond.selects yX1_takesMends.cls yX1_takesMends yX1_takesMends ∈ zTb ∧ yX1_takesMends.cls = zNm 1 ∧ 1 < 13 := ⟨⟨zW3 180 rfl rfl, zW1 11 rfl rfl, zW3 183 rfl rfl, ⟨by decide +kernel, by decide +kernel, by decide +kernel⟩⟩, zW3 181 rfl rfl, zW3 182 rfl rfl, rfl, by decide⟩
set_option maxRecDepth 20000 in
theorem cb_RX6_139 : zCB RX6 139 yX1_takesShort cX1_takesShort 2 (some .boolean) 1 ∧ Cond.instanceMethod yX1_takesShort ∈ zTb ∧ Cond.selects yX1_takesShort.cls yX1_takesShort yX1_takesShort ∈ zTb ∧ yX1_takesShort.cls = zNm 1 ∧ 1 < 13 := ⟨⟨zW3 196 rfl rfl, zW1 11 rfl rfl, zW3 199 rfl rfl, ⟨by decide +kernel, by decide +kernel, by decide +kernel⟩⟩, zW3 197 rfl rfl, zW3 198 rfl rfl, rfl, by decide⟩
set_option maxRecDepth 20000 in
theorem cb_RX6_131 : zCB RX6 131 yX1_takesPoly cX1_takesPoly 5 (some .boolean) 2 ∧ Cond.instanceMethod yX1_takesPoly ∈ zTb ∧ Cond.selects yX1_takesPoly.cls yX1_takesPoly yX1_takesPoly ∈ zTb ∧ yX1_takesPoly.cls = zNm 1 ∧ 1 < 13 := ⟨⟨zW3 176 rfl rfl, zW1 11 rfl rfl, zW3 179 rfl rfl, ⟨by decide +kernel, by decide +kernel, by decide +kernel⟩⟩, zW3 177 rfl rfl, zW3 178 rfl rfl, rfl, by decide⟩
set_option maxRecDepth 20000 in
theorem cb_RX6_178 : zCB RX6 178 yX0_hasDrifts cX0_hasDrifts 1 (some .boolean) 0 ∧ Cond.instanceMethod yX0_hasDrifts ∈ zTb ∧ Cond.selects yX0_hasDrifts.cls yX0_hasDrifts yX0_hasDrifts ∈ zTb ∧ yX0_hasDrifts.cls = zNm 0 ∧ 0 < 13 := ⟨⟨zW3 223 rfl rfl, zW1 10 rfl rfl, zW3 226 rfl rfl, ⟨by decide +kernel, by decide +kernel, by decide +kernel⟩⟩, zW3 224 rfl rfl, zW3 225 rfl rfl, rfl, by decide⟩
set_option maxRecDepth 20000 in
theorem cb_RX6_191 : zCB RX6 191 yX6_readSum cX6_readSum 4 (some .boolean) 1 ∧ Cond.instanceMethod yX6_readSum ∈ zTb ∧ Cond.selects yX6_readSum.cls yX6_readSum yX6_readSum ∈ zTb ∧ yX6_readSum.cls = zNm 6 ∧ 6 < 13 := ⟨⟨zW3 227 rfl rfl, zW1 12 rfl rfl, zW3 230 rfl rfl, ⟨by decide +kernel, by decide +kernel, by decide +kernel⟩⟩, zW3 229 rfl rfl, zSel 17 rfl rfl, rfl, by decide⟩
set_option maxRecDepth 20000 in
theorem cb_RX6_172 : zCB RX6 172 yX0_hasName cX0_hasName 3 (some .boolean) 1 ∧ Cond.instanceMethod yX0_hasName ∈ zTb ∧ Cond.selects yX0_hasName.cls yX0_hasName yX0_hasName ∈ zTb ∧ yX0_hasName.cls = zNm 0 ∧ 0 < 13 := ⟨⟨zW3 215 rfl rfl, zW1 10 rfl rfl, zW3 218 rfl rfl, ⟨by decide +kernel, by decide +kernel, by decide +kernel⟩⟩, zW3 216 rfl rfl, zW3 217 rfl rfl, rfl, by decide⟩
set_option maxRecDepth 20000 in
theorem cb_RX6_197 : zCB RX6 197 yX0_hasTries cX0_hasTries 1 (some .boolean) 0 ∧ Cond.instanceMethod yX0_hasTries ∈ zTb ∧ Cond.selects yX0_hasTries.cls yX0_hasTries yX0_hasTries ∈ zTb ∧ yX0_hasTries.cls = zNm 0 ∧ 0 < 13 := ⟨⟨zW4 39 rfl rfl, zW1 10 rfl rfl, zW4 42 rfl rfl, ⟨by decide +kernel, by decide +kernel, by decide +kernel⟩⟩, zW4 40 rfl rfl, zW4 41 rfl rfl, rfl, by decide⟩
set_option maxRecDepth 20000 in
theorem cb_RX6_203 : zCB RX6 203 yX6_readTest cX6_readTest 3 (some .boolean) 1 ∧ Cond.instanceMethod yX6_readTest ∈ zTb ∧ Cond.selects yX6_readTest.cls yX6_readTest yX6_readTest ∈ zTb ∧ yX6_readTest.cls = zNm 6 ∧ 6 < 13 := ⟨⟨zW4 15 rfl rfl, zW1 12 rfl rfl, zW4 18 rfl rfl, ⟨by decide +kernel, by decide +kernel, by decide +kernel⟩⟩, zW4 17 rfl rfl, zSel 23 rfl rfl, rfl, by decide⟩
set_option maxRecDepth 20000 in
theorem cb_RX6_142 : zCB RX6 142 yX6_readPage cX6_readPage 1 (some .boolean) 0 ∧ Cond.instanceMethod yX6_readPage ∈ zTb ∧ Cond.selects yX6_readPage.cls yX6_readPage yX6_readPage ∈ zTb ∧ yX6_readPage.cls = zNm 6 ∧ 6 < 13 := ⟨⟨zW3 211 rfl rfl, zW1 12 rfl rfl, zW3 214 rfl rfl, ⟨by decide +kernel, by decide +kernel, by decide +kernel⟩⟩, zW3 213 rfl rfl, zSel 15 rfl rfl, rfl, by decide⟩
set_option maxRecDepth 20000 in
theorem cb_RX6_145 : zCB RX6 145 yX6_readDrifts cX6_readDrifts 1 (some .boolean) 0 ∧ Cond.instanceMethod yX6_readDrifts ∈ zTb ∧ Cond.selects yX6_readDrifts.cls yX6_readDrifts yX6_readDrifts ∈ zTb ∧ yX6_readDrifts.cls = zNm 6 ∧ 6 < 13 := ⟨⟨zW3 219 rfl rfl, zW1 12 rfl rfl, zW3 222 rfl rfl, ⟨by decide +kernel, by decide +kernel, by decide +kernel⟩⟩, zW3 221 rfl rfl, zSel 16 rfl rfl, rfl, by decide⟩
set_option maxRecDepth 20000 in
theorem cb_RX6_148 : zCB RX6 148 yX6_readTries cX6_readTries 1 (some .boolean) 0 ∧ Cond.instanceMethod yX6_readTries ∈ zTb ∧ Cond.selects yX6_readTries.cls yX6_readTries yX6_readTries ∈ zTb ∧ yX6_readTries.cls = zNm 6 ∧ 6 < 13 := ⟨⟨zW4 35 rfl rfl, zW1 12 rfl rfl, zW4 38 rfl rfl, ⟨by decide +kernel, by decide +kernel, by decide +kernel⟩⟩, zW4 37 rfl rfl, zSel 28 rfl rfl, rfl, by decide⟩
set_option maxRecDepth 20000 in
theorem cb_RX6_151 : zCB RX6 151 yX6_readSetting cX6_readSetting 2 (some .boolean) 0 ∧ Cond.instanceMethod yX6_readSetting ∈ zTb ∧ Cond.selects yX6_readSetting.cls yX6_readSetting yX6_readSetting ∈ zTb ∧ yX6_readSetting.cls = zNm 6 ∧ 6 < 13 := ⟨⟨zW4 43 rfl rfl, zW1 12 rfl rfl, zW4 46 rfl rfl, ⟨by decide +kernel, by decide +kernel, by decide +kernel⟩⟩, zW4 45 rfl rfl, zSel 29 rfl rfl, rfl, by decide⟩
set_option maxRecDepth 20000 in
theorem cb_RX6_91 : zCB RX6 91 yX6_readStatement cX6_readStatement 1 (some .boolean) 0 ∧ Cond.instanceMethod yX6_readStatement ∈ zTb ∧ Cond.selects yX6_readStatement.cls yX6_readStatement yX6_readStatement ∈ zTb ∧ yX6_readStatement.cls = zNm 6 ∧ 6 < 13 := ⟨⟨zW3 207 rfl rfl, zW1 12 rfl rfl, zW3 210 rfl rfl, ⟨by decide +kernel, by decide +kernel, by decide +kernel⟩⟩, zW3 209 rfl rfl, zSel 14 rfl rfl, rfl, by decide⟩
set_option maxRecDepth 20000 in
theorem cb_RX6_74 : zCB RX6 74 yX6_readSign cX6_readSign 2 (some .boolean) 1 ∧ Cond.instanceMethod yX6_readSign ∈ zTb ∧ Cond.selects yX6_readSign.cls yX6_readSign yX6_readSign ∈ zTb ∧ yX6_readSign.cls = zNm 6 ∧ 6 < 13 := ⟨⟨zW3 203 rfl rfl, zW1 12 rfl rfl, zW3 206 rfl rfl, ⟨by decide +kernel, by decide +kernel, by decide +kernel⟩⟩, zW3 205 rfl rfl, zSel 13 rfl rfl, rfl, by decide⟩
set_option maxRecDepth 20000 in
theorem cb_RX6_44 : zCB RX6 44 yJ9_min_7cf53 cJ9_min_7cf53 2 (some .int) 2 ∧ Cond.static yJ9_min_7cf53 ∈ zTb := ⟨⟨zW3 127 rfl rfl, zW1 18 rfl rfl, zW3 129 rfl rfl, ⟨by decide +kernel, by decide +kernel, by decide +kernel⟩⟩, zW3 128 rfl rfl⟩
set_option maxRecDepth 20000 in
theorem cb_RX6_53 : zCB RX6 53 yX0_clear cX0_clear 1 none 0 ∧ Cond.instanceMethod yX0_clear ∈ zTb ∧ Cond.selects yX0_clear.cls yX0_clear yX0_clear ∈ zTb ∧ yX0_clear.cls = zNm 0 ∧ 0 < 13 := ⟨⟨zW3 130 rfl rfl, zW1 10 rfl rfl, zW3 133 rfl rfl, ⟨by decide +kernel, by decide +kernel, by decide +kernel⟩⟩, zW3 131 rfl rfl, zW3 132 rfl rfl, rfl, by decide⟩
set_option maxRecDepth 20000 in
theorem cb_RX6_70 : zCB RX6 70 yX6_readField cX6_readField 4 (some .boolean) 0 ∧ Cond.instanceMethod yX6_readField ∈ zTb ∧ Cond.selects yX6_readField.cls yX6_readField yX6_readField ∈ zTb ∧ yX6_readField.cls = zNm 6 ∧ 6 < 13 := ⟨⟨zW3 152 rfl rfl, zW1 12 rfl rfl, zW3 155 rfl rfl, ⟨by decide +kernel, by decide +kernel, by decide +kernel⟩⟩, zW3 154 rfl rfl, zSel 6 rfl rfl, rfl, by decide⟩
set_option maxRecDepth 20000 in
theorem cb_RX6_209 : zCB RX6 209 yX6_readProduct cX6_readProduct 4 (some .boolean) 1 ∧ Cond.instanceMethod yX6_readProduct ∈ zTb ∧ Cond.selects yX6_readProduct.cls yX6_readProduct yX6_readProduct ∈ zTb ∧ yX6_readProduct.cls = zNm 6 ∧ 6 < 13 := ⟨⟨zW3 231 rfl rfl, zW1 12 rfl rfl, zW3 234 rfl rfl, ⟨by decide +kernel, by decide +kernel, by decide +kernel⟩⟩, zW3 233 rfl rfl, zSel 18 rfl rfl, rfl, by decide⟩
set_option maxRecDepth 20000 in
theorem cb_RX6_212 : zCB RX6 212 yX0_addStep cX0_addStep 2 none 1 ∧ Cond.instanceMethod yX0_addStep ∈ zTb ∧ Cond.selects yX0_addStep.cls yX0_addStep yX0_addStep ∈ zTb ∧ yX0_addStep.cls = zNm 0 ∧ 0 < 13 := ⟨⟨zW3 239 rfl rfl, zW1 10 rfl rfl, zW4 2 rfl rfl, ⟨by decide +kernel, by decide +kernel, by decide +kernel⟩⟩, zW4 0 rfl rfl, zW4 1 rfl rfl, rfl, by decide⟩
set_option maxRecDepth 20000 in
theorem cb_RX6_216 : zCB RX6 216 yX6_readPart cX6_readPart 2 (some .boolean) 1 ∧ Cond.instanceMethod yX6_readPart ∈ zTb ∧ Cond.selects yX6_readPart.cls yX6_readPart yX6_readPart ∈ zTb ∧ yX6_readPart.cls = zNm 6 ∧ 6 < 13 := ⟨⟨zW3 235 rfl rfl, zW1 12 rfl rfl, zW3 238 rfl rfl, ⟨by decide +kernel, by decide +kernel, by decide +kernel⟩⟩, zW3 237 rfl rfl, zSel 19 rfl rfl, rfl, by decide⟩
set_option maxRecDepth 20000 in
theorem cb_RX6_222 : zCB RX6 222 yX6_readPair cX6_readPair 3 (some .boolean) 2 ∧ Cond.instanceMethod yX6_readPair ∈ zTb ∧ Cond.selects yX6_readPair.cls yX6_readPair yX6_readPair ∈ zTb ∧ yX6_readPair.cls = zNm 6 ∧ 6 < 13 := ⟨⟨zW4 7 rfl rfl, zW1 12 rfl rfl, zW4 10 rfl rfl, ⟨by decide +kernel, by decide +kernel, by decide +kernel⟩⟩, zW4 9 rfl rfl, zSel 21 rfl rfl, rfl, by decide⟩
set_option maxRecDepth 20000 in
theorem cb_RX6_228 : zCB RX6 228 yX6_isValue cX6_isValue 2 (some .boolean) 1 ∧ Cond.instanceMethod yX6_isValue ∈ zTb ∧ Cond.selects yX6_isValue.cls yX6_isValue yX6_isValue ∈ zTb ∧ yX6_isValue.cls = zNm 6 ∧ 6 < 13 := ⟨⟨zW4 31 rfl rfl, zW1 12 rfl rfl, zW4 34 rfl rfl, ⟨by decide +kernel, by decide +kernel, by decide +kernel⟩⟩, zW4 33 rfl rfl, zSel 27 rfl rfl, rfl, by decide⟩
set_option maxRecDepth 20000 in
theorem cb_RX6_225 : zCB RX6 225 yX6_readChoice cX6_readChoice 2 (some .boolean) 1 ∧ Cond.instanceMethod yX6_readChoice ∈ zTb ∧ Cond.selects yX6_readChoice.cls yX6_readChoice yX6_readChoice ∈ zTb ∧ yX6_readChoice.cls = zNm 6 ∧ 6 < 13 := ⟨⟨zW4 11 rfl rfl, zW1 12 rfl rfl, zW4 14 rfl rfl, ⟨by decide +kernel, by decide +kernel, by decide +kernel⟩⟩, zW4 13 rfl rfl, zSel 22 rfl rfl, rfl, by decide⟩
set_option maxRecDepth 20000 in
theorem cb_RX6_219 : zCB RX6 219 yX6_readOpening cX6_readOpening 3 (some .boolean) 2 ∧ Cond.instanceMethod yX6_readOpening ∈ zTb ∧ Cond.selects yX6_readOpening.cls yX6_readOpening yX6_readOpening ∈ zTb ∧ yX6_readOpening.cls = zNm 6 ∧ 6 < 13 := ⟨⟨zW4 3 rfl rfl, zW1 12 rfl rfl, zW4 6 rfl rfl, ⟨by decide +kernel, by decide +kernel, by decide +kernel⟩⟩, zW4 5 rfl rfl, zSel 20 rfl rfl, rfl, by decide⟩
set_option maxRecDepth 20000 in
theorem cb_RX6_231 : zCB RX6 231 yX6_readBoth cX6_readBoth 3 (some .boolean) 1 ∧ Cond.instanceMethod yX6_readBoth ∈ zTb ∧ Cond.selects yX6_readBoth.cls yX6_readBoth yX6_readBoth ∈ zTb ∧ yX6_readBoth.cls = zNm 6 ∧ 6 < 13 := ⟨⟨zW4 19 rfl rfl, zW1 12 rfl rfl, zW4 22 rfl rfl, ⟨by decide +kernel, by decide +kernel, by decide +kernel⟩⟩, zW4 21 rfl rfl, zSel 24 rfl rfl, rfl, by decide⟩
set_option maxRecDepth 20000 in
theorem cb_RX6_234 : zCB RX6 234 yX6_readFact cX6_readFact 2 (some .boolean) 1 ∧ Cond.instanceMethod yX6_readFact ∈ zTb ∧ Cond.selects yX6_readFact.cls yX6_readFact yX6_readFact ∈ zTb ∧ yX6_readFact.cls = zNm 6 ∧ 6 < 13 := ⟨⟨zW4 23 rfl rfl, zW1 12 rfl rfl, zW4 26 rfl rfl, ⟨by decide +kernel, by decide +kernel, by decide +kernel⟩⟩, zW4 25 rfl rfl, zSel 25 rfl rfl, rfl, by decide⟩
set_option maxRecDepth 20000 in
theorem cb_RX6_237 : zCB RX6 237 yX6_readComparison cX6_readComparison 3 (some .boolean) 1 ∧ Cond.instanceMethod yX6_readComparison ∈ zTb ∧ Cond.selects yX6_readComparison.cls yX6_readComparison yX6_readComparison ∈ zTb ∧ yX6_readComparison.cls = zNm 6 ∧ 6 < 13 := ⟨⟨zW4 27 rfl rfl, zW1 12 rfl rfl, zW4 30 rfl rfl, ⟨by decide +kernel, by decide +kernel, by decide +kernel⟩⟩, zW4 29 rfl rfl, zSel 26 rfl rfl, rfl, by decide⟩
set_option maxRecDepth 20000 in
theorem cb_RX7_35 : zCB RX7 35 yX5_copy cX5_copy 3 none 1 ∧ Cond.instanceMethod yX5_copy ∈ zTb ∧ Cond.selects yX5_copy.cls yX5_copy yX5_copy ∈ zTb ∧ yX5_copy.cls = zNm 5 ∧ 5 < 13 := ⟨⟨zW5 184 rfl rfl, zW1 5 rfl rfl, zW5 187 rfl rfl, ⟨by decide +kernel, by decide +kernel, by decide +kernel⟩⟩, zW5 185 rfl rfl, zW5 186 rfl rfl, rfl, by decide⟩
set_option maxRecDepth 20000 in
theorem cb_RX7_39 : zCB RX7 39 yJ9_min_7cf53 cJ9_min_7cf53 2 (some .int) 2 ∧ Cond.static yJ9_min_7cf53 ∈ zTb := ⟨⟨zW4 83 rfl rfl, zW1 18 rfl rfl, zW3 129 rfl rfl, ⟨by decide +kernel, by decide +kernel, by decide +kernel⟩⟩, zW3 128 rfl rfl⟩
set_option maxRecDepth 20000 in
theorem cb_RX7_45 : zCB RX7 45 yX7_told cX7_told 1 (some .int) 0 ∧ Cond.instanceMethod yX7_told ∈ zTb ∧ Cond.selects yX7_told.cls yX7_told yX7_told ∈ zTb ∧ yX7_told.cls = zNm 7 ∧ 7 < 13 := ⟨⟨zW6 14 rfl rfl, zW1 7 rfl rfl, zW4 82 rfl rfl, ⟨by decide +kernel, by decide +kernel, by decide +kernel⟩⟩, zW4 80 rfl rfl, zW4 81 rfl rfl, rfl, by decide⟩
set_option maxRecDepth 20000 in
theorem cb_RX8_47 : zCN RX8 47 yX11_bitOf cX11_bitOf 3 (some .int) 2 ∧ Cond.static yX11_bitOf ∈ zTb := ⟨⟨⟨_, List.mem_of_getElem? (i := 8) (by rfl)⟩, zW1 1 rfl rfl, zW4 103 rfl rfl, ⟨by decide +kernel, by decide +kernel, by decide +kernel⟩⟩, zW4 102 rfl rfl⟩
set_option maxRecDepth 20000 in
theorem cb_RX9_50 : zCB RX9 50 yX9_onesBy cX9_onesBy 3 (some .int) 2 ∧ Cond.instanceMethod yX9_onesBy ∈ zTb ∧ Cond.selects yX9_onesBy.cls yX9_onesBy yX9_onesBy ∈ zTb ∧ yX9_onesBy.cls = zNm 9 ∧ 9 < 13 := ⟨⟨zW5 158 rfl rfl, zW1 8 rfl rfl, zW5 161 rfl rfl, ⟨by decide +kernel, by decide +kernel, by decide +kernel⟩⟩, zW5 160 rfl rfl, zSel 54 rfl rfl, rfl, by decide⟩
set_option maxRecDepth 20000 in
theorem cb_RX9_46 : zCB RX9 46 yX9_isLeft cX9_isLeft 3 (some .boolean) 1 ∧ Cond.instanceMethod yX9_isLeft ∈ zTb ∧ Cond.selects yX9_isLeft.cls yX9_isLeft yX9_isLeft ∈ zTb ∧ yX9_isLeft.cls = zNm 9 ∧ 9 < 13 := ⟨⟨zW5 154 rfl rfl, zW1 8 rfl rfl, zW5 157 rfl rfl, ⟨by decide +kernel, by decide +kernel, by decide +kernel⟩⟩, zW5 156 rfl rfl, zSel 53 rfl rfl, rfl, by decide⟩
set_option maxRecDepth 20000 in
theorem cb_RX9_31 : zCB RX9 31 yX8_readBy cX8_readBy 6 (some .long) 2 ∧ Cond.instanceMethod yX8_readBy ∈ zTb ∧ Cond.selects yX8_readBy.cls yX8_readBy yX8_readBy ∈ zTb ∧ yX8_readBy.cls = zNm 8 ∧ 8 < 13 := ⟨⟨zW5 152 rfl rfl, zW1 6 rfl rfl, zW5 16 rfl rfl, ⟨by decide +kernel, by decide +kernel, by decide +kernel⟩⟩, zW5 14 rfl rfl, zW5 15 rfl rfl, rfl, by decide⟩
set_option maxRecDepth 20000 in
theorem cb_RX9_37 : zCB RX9 37 yJ13_bitCount_95d88 cJ13_bitCount_95d88 2 (some .int) 1 ∧ Cond.static yJ13_bitCount_95d88 ∈ zTb := ⟨⟨zW5 153 rfl rfl, zW1 20 rfl rfl, zW4 131 rfl rfl, ⟨by decide +kernel, by decide +kernel, by decide +kernel⟩⟩, zW4 130 rfl rfl⟩
set_option maxRecDepth 20000 in
theorem cb_RX9_70 : zCB RX9 70 yJ9_max_7cf53 cJ9_max_7cf53 2 (some .int) 2 ∧ Cond.static yJ9_max_7cf53 ∈ zTb := ⟨⟨zW5 175 rfl rfl, zW1 18 rfl rfl, zW5 4 rfl rfl, ⟨by decide +kernel, by decide +kernel, by decide +kernel⟩⟩, zW5 3 rfl rfl⟩
set_option maxRecDepth 20000 in
theorem cb_RX9_64 : zCB RX9 64 yJ7_fill_53178 cJ7_fill_53178 4 none 2 ∧ Cond.static yJ7_fill_53178 ∈ zTb := ⟨⟨zW5 174 rfl rfl, zW1 19 rfl rfl, zW3 202 rfl rfl, ⟨by decide +kernel, by decide +kernel, by decide +kernel⟩⟩, zW3 201 rfl rfl⟩
set_option maxRecDepth 20000 in
theorem cb_RX9_60 : zCB RX9 60 yX9_mostLeft cX9_mostLeft 5 (some .int) 1 ∧ Cond.instanceMethod yX9_mostLeft ∈ zTb ∧ Cond.selects yX9_mostLeft.cls yX9_mostLeft yX9_mostLeft ∈ zTb ∧ yX9_mostLeft.cls = zNm 9 ∧ 9 < 13 := ⟨⟨zW5 170 rfl rfl, zW1 8 rfl rfl, zW5 173 rfl rfl, ⟨by decide +kernel, by decide +kernel, by decide +kernel⟩⟩, zW5 172 rfl rfl, zSel 55 rfl rfl, rfl, by decide⟩
set_option maxRecDepth 20000 in
theorem cb_RX10_24 : zCB RX10 24 yX0_hasDrifts cX0_hasDrifts 1 (some .boolean) 0 ∧ Cond.instanceMethod yX0_hasDrifts ∈ zTb ∧ Cond.selects yX0_hasDrifts.cls yX0_hasDrifts yX0_hasDrifts ∈ zTb ∧ yX0_hasDrifts.cls = zNm 0 ∧ 0 < 13 := ⟨⟨zW4 203 rfl rfl, zW1 10 rfl rfl, zW3 226 rfl rfl, ⟨by decide +kernel, by decide +kernel, by decide +kernel⟩⟩, zW3 224 rfl rfl, zW3 225 rfl rfl, rfl, by decide⟩
set_option maxRecDepth 20000 in
theorem cb_RX10_30 : zCN RX10 30 yX11_bitOf cX11_bitOf 3 (some .int) 2 ∧ Cond.static yX11_bitOf ∈ zTb := ⟨⟨⟨_, List.mem_of_getElem? (i := 6) (by rfl)⟩, zW1 1 rfl rfl, zW4 103 rfl rfl, ⟨by decide +kernel, by decide +kernel, by decide +kernel⟩⟩, zW4 102 rfl rfl⟩
set_option maxRecDepth 20000 in
theorem cb_RX11_403 : zCB RX11 403 yJ9_min_7cf53 cJ9_min_7cf53 2 (some .int) 2 ∧ Cond.static yJ9_min_7cf53 ∈ zTb := ⟨⟨zW4 194 rfl rfl, zW1 18 rfl rfl, zW3 129 rfl rfl, ⟨by decide +kernel, by decide +kernel, by decide +kernel⟩⟩, zW3 128 rfl rfl⟩
set_option maxRecDepth 20000 in
theorem cb_RX10_80 : zCN RX10 80 yX11_older cX11_older 2 (some .int) 2 ∧ Cond.static yX11_older ∈ zTb := ⟨⟨⟨_, List.mem_of_getElem? (i := 7) (by rfl)⟩, zW1 1 rfl rfl, zW4 193 rfl rfl, ⟨by decide +kernel, by decide +kernel, by decide +kernel⟩⟩, zW4 192 rfl rfl⟩
set_option maxRecDepth 20000 in
theorem cb_RX10_76 : zCB RX10 76 yX10_drifted cX10_drifted 7 (some .int) 4 ∧ Cond.instanceMethod yX10_drifted ∈ zTb ∧ Cond.selects yX10_drifted.cls yX10_drifted yX10_drifted ∈ zTb ∧ yX10_drifted.cls = zNm 10 ∧ 10 < 13 := ⟨⟨zW5 126 rfl rfl, zW1 2 rfl rfl, zW4 202 rfl rfl, ⟨by decide +kernel, by decide +kernel, by decide +kernel⟩⟩, zW4 200 rfl rfl, zW4 201 rfl rfl, rfl, by decide⟩
set_option maxRecDepth 20000 in
theorem cb_RX10_56 : zCB RX10 56 yX10_setDay cX10_setDay 4 none 3 ∧ Cond.instanceMethod yX10_setDay ∈ zTb ∧ Cond.selects yX10_setDay.cls yX10_setDay yX10_setDay ∈ zTb ∧ yX10_setDay.cls = zNm 10 ∧ 10 < 13 := ⟨⟨zW5 125 rfl rfl, zW1 2 rfl rfl, zW4 198 rfl rfl, ⟨by decide +kernel, by decide +kernel, by decide +kernel⟩⟩, zW4 196 rfl rfl, zW4 197 rfl rfl, rfl, by decide⟩
set_option maxRecDepth 20000 in
theorem cb_RX11_109 : zCB RX11 109 yX11_putNumber cX11_putNumber 3 none 1 ∧ Cond.instanceMethod yX11_putNumber ∈ zTb ∧ Cond.selects yX11_putNumber.cls yX11_putNumber yX11_putNumber ∈ zTb ∧ yX11_putNumber.cls = zNm 11 ∧ 11 < 13 := ⟨⟨zW3 107 rfl rfl, zW1 1 rfl rfl, zW3 110 rfl rfl, ⟨by decide +kernel, by decide +kernel, by decide +kernel⟩⟩, zW3 109 rfl rfl, zSel 1 rfl rfl, rfl, by decide⟩
set_option maxRecDepth 20000 in
theorem cb_RX11_105 : zCB RX11 105 yX11_refuse cX11_refuse 2 (some .int) 1 ∧ Cond.instanceMethod yX11_refuse ∈ zTb ∧ Cond.selects yX11_refuse.cls yX11_refuse yX11_refuse ∈ zTb ∧ yX11_refuse.cls = zNm 11 ∧ 11 < 13 := ⟨⟨zW3 103 rfl rfl, zW1 1 rfl rfl, zW3 106 rfl rfl, ⟨by decide +kernel, by decide +kernel, by decide +kernel⟩⟩, zW3 105 rfl rfl, zSel 0 rfl rfl, rfl, by decide⟩
set_option maxRecDepth 20000 in
theorem cb_RX11_112 : zCB RX11 112 yX11_takeTape cX11_takeTape 2 (some .int) 0 ∧ Cond.instanceMethod yX11_takeTape ∈ zTb ∧ Cond.selects yX11_takeTape.cls yX11_takeTape yX11_takeTape ∈ zTb ∧ yX11_takeTape.cls = zNm 11 ∧ 11 < 13 := ⟨⟨zW3 119 rfl rfl, zW1 1 rfl rfl, zW3 122 rfl rfl, ⟨by decide +kernel, by decide +kernel, by decide +kernel⟩⟩, zW3 121 rfl rfl, zSel 2 rfl rfl, rfl, by decide⟩
set_option maxRecDepth 20000 in
theorem cb_RX11_116 : zCB RX11 116 yX6_reads cX6_reads 4 (some .boolean) 2 ∧ Cond.instanceMethod yX6_reads ∈ zTb ∧ Cond.selects yX6_reads.cls yX6_reads yX6_reads ∈ zTb ∧ yX6_reads.cls = zNm 6 ∧ 6 < 13 := ⟨⟨zW3 123 rfl rfl, zW1 12 rfl rfl, zW3 126 rfl rfl, ⟨by decide +kernel, by decide +kernel, by decide +kernel⟩⟩, zW3 124 rfl rfl, zW3 125 rfl rfl, rfl, by decide⟩
set_option maxRecDepth 20000 in
theorem cb_RX11_124 : zCB RX11 124 yX5_clear cX5_clear 2 none 0 ∧ Cond.instanceMethod yX5_clear ∈ zTb ∧ Cond.selects yX5_clear.cls yX5_clear yX5_clear ∈ zTb ∧ yX5_clear.cls = zNm 5 ∧ 5 < 13 := ⟨⟨zW4 47 rfl rfl, zW1 5 rfl rfl, zW4 50 rfl rfl, ⟨by decide +kernel, by decide +kernel, by decide +kernel⟩⟩, zW4 48 rfl rfl, zW4 49 rfl rfl, rfl, by decide⟩
set_option maxRecDepth 20000 in
theorem cb_RX11_127 : zCB RX11 127 yX7_clear cX7_clear 1 none 0 ∧ Cond.instanceMethod yX7_clear ∈ zTb ∧ Cond.selects yX7_clear.cls yX7_clear yX7_clear ∈ zTb ∧ yX7_clear.cls = zNm 7 ∧ 7 < 13 := ⟨⟨zW4 55 rfl rfl, zW1 7 rfl rfl, zW4 58 rfl rfl, ⟨by decide +kernel, by decide +kernel, by decide +kernel⟩⟩, zW4 56 rfl rfl, zW4 57 rfl rfl, rfl, by decide⟩
set_option maxRecDepth 20000 in
theorem cb_RX11_128 : zCB RX11 128 yX9_clear cX9_clear 1 none 0 ∧ Cond.instanceMethod yX9_clear ∈ zTb ∧ Cond.selects yX9_clear.cls yX9_clear yX9_clear ∈ zTb ∧ yX9_clear.cls = zNm 9 ∧ 9 < 13 := ⟨⟨zW4 59 rfl rfl, zW1 8 rfl rfl, zW4 62 rfl rfl, ⟨by decide +kernel, by decide +kernel, by decide +kernel⟩⟩, zW4 60 rfl rfl, zW4 61 rfl rfl, rfl, by decide⟩
set_option maxRecDepth 20000 in
theorem cb_RX11_129 : zCB RX11 129 yX2_forget cX2_forget 1 none 0 ∧ Cond.instanceMethod yX2_forget ∈ zTb ∧ Cond.selects yX2_forget.cls yX2_forget yX2_forget ∈ zTb ∧ yX2_forget.cls = zNm 2 ∧ 2 < 13 := ⟨⟨zW4 63 rfl rfl, zW1 3 rfl rfl, zW4 66 rfl rfl, ⟨by decide +kernel, by decide +kernel, by decide +kernel⟩⟩, zW4 64 rfl rfl, zW4 65 rfl rfl, rfl, by decide⟩
set_option maxRecDepth 20000 in
theorem cb_RX11_161 : zCB RX11 161 yX5_writtenCount cX5_writtenCount 3 (some .int) 0 ∧ Cond.instanceMethod yX5_writtenCount ∈ zTb ∧ Cond.selects yX5_writtenCount.cls yX5_writtenCount yX5_writtenCount ∈ zTb ∧ yX5_writtenCount.cls = zNm 5 ∧ 5 < 13 := ⟨⟨zW4 75 rfl rfl, zW1 5 rfl rfl, zW4 78 rfl rfl, ⟨by decide +kernel, by decide +kernel, by decide +kernel⟩⟩, zW4 76 rfl rfl, zW4 77 rfl rfl, rfl, by decide⟩
set_option maxRecDepth 20000 in
theorem cb_RX11_167 : zCB RX11 167 yX7_told cX7_told 1 (some .int) 0 ∧ Cond.instanceMethod yX7_told ∈ zTb ∧ Cond.selects yX7_told.cls yX7_told yX7_told ∈ zTb ∧ yX7_told.cls = zNm 7 ∧ 7 < 13 := ⟨⟨zW4 79 rfl rfl, zW1 7 rfl rfl, zW4 82 rfl rfl, ⟨by decide +kernel, by decide +kernel, by decide +kernel⟩⟩, zW4 80 rfl rfl, zW4 81 rfl rfl, rfl, by decide⟩
set_option maxRecDepth 20000 in
theorem cb_RX11_176 : zCB RX11 176 yX11_isPage cX11_isPage 2 (some .boolean) 1 ∧ Cond.instanceMethod yX11_isPage ∈ zTb ∧ Cond.selects yX11_isPage.cls yX11_isPage yX11_isPage ∈ zTb ∧ yX11_isPage.cls = zNm 11 ∧ 11 < 13 := ⟨⟨zW4 88 rfl rfl, zW1 1 rfl rfl, zW4 91 rfl rfl, ⟨by decide +kernel, by decide +kernel, by decide +kernel⟩⟩, zW4 90 rfl rfl, zSel 30 rfl rfl, rfl, by decide⟩
set_option maxRecDepth 20000 in
theorem cb_RX11_189 : zCB RX11 189 yX1_leastPolynomial cX1_leastPolynomial 3 (some .int) 1 ∧ Cond.instanceMethod yX1_leastPolynomial ∈ zTb ∧ Cond.selects yX1_leastPolynomial.cls yX1_leastPolynomial yX1_leastPolynomial ∈ zTb ∧ yX1_leastPolynomial.cls = zNm 1 ∧ 1 < 13 := ⟨⟨zW4 96 rfl rfl, zW1 11 rfl rfl, zW3 191 rfl rfl, ⟨by decide +kernel, by decide +kernel, by decide +kernel⟩⟩, zW3 189 rfl rfl, zW3 190 rfl rfl, rfl, by decide⟩
set_option maxRecDepth 20000 in
theorem cb_RX11_196 : zCB RX11 196 yX11_bitOf cX11_bitOf 3 (some .int) 2 ∧ Cond.static yX11_bitOf ∈ zTb := ⟨⟨zW4 101 rfl rfl, zW1 1 rfl rfl, zW4 103 rfl rfl, ⟨by decide +kernel, by decide +kernel, by decide +kernel⟩⟩, zW4 102 rfl rfl⟩
set_option maxRecDepth 20000 in
theorem cb_RX11_204 : zCB RX11 204 yX11_dataOf cX11_dataOf 2 (some .long) 2 ∧ Cond.static yX11_dataOf ∈ zTb := ⟨⟨zW4 113 rfl rfl, zW1 1 rfl rfl, zW4 115 rfl rfl, ⟨by decide +kernel, by decide +kernel, by decide +kernel⟩⟩, zW4 114 rfl rfl⟩
set_option maxRecDepth 20000 in
theorem cb_RX11_200 : zCB RX11 200 yX11_isData cX11_isData 3 (some .boolean) 2 ∧ Cond.instanceMethod yX11_isData ∈ zTb ∧ Cond.selects yX11_isData.cls yX11_isData yX11_isData ∈ zTb ∧ yX11_isData.cls = zNm 11 ∧ 11 < 13 := ⟨⟨zW4 108 rfl rfl, zW1 1 rfl rfl, zW4 111 rfl rfl, ⟨by decide +kernel, by decide +kernel, by decide +kernel⟩⟩, zW4 110 rfl rfl, zSel 31 rfl rfl, rfl, by decide⟩
set_option maxRecDepth 20000 in
theorem cb_RX11_208 : zCB RX11 208 yX1_encode cX1_encode 8 (some .long) 1 ∧ Cond.instanceMethod yX1_encode ∈ zTb ∧ Cond.selects yX1_encode.cls yX1_encode yX1_encode ∈ zTb ∧ yX1_encode.cls = zNm 1 ∧ 1 < 13 := ⟨⟨zW4 116 rfl rfl, zW1 11 rfl rfl, zW4 119 rfl rfl, ⟨by decide +kernel, by decide +kernel, by decide +kernel⟩⟩, zW4 117 rfl rfl, zW4 118 rfl rfl, rfl, by decide⟩
set_option maxRecDepth 20000 in
theorem cb_RX11_212 : zCB RX11 212 yX1_wordsOfWeight cX1_wordsOfWeight 3 (some .int) 1 ∧ Cond.instanceMethod yX1_wordsOfWeight ∈ zTb ∧ Cond.selects yX1_wordsOfWeight.cls yX1_wordsOfWeight yX1_wordsOfWeight ∈ zTb ∧ yX1_wordsOfWeight.cls = zNm 1 ∧ 1 < 13 := ⟨⟨zW4 124 rfl rfl, zW1 11 rfl rfl, zW4 127 rfl rfl, ⟨by decide +kernel, by decide +kernel, by decide +kernel⟩⟩, zW4 125 rfl rfl, zW4 126 rfl rfl, rfl, by decide⟩
set_option maxRecDepth 20000 in
theorem cb_RX11_215 : zCB RX11 215 yX1_patternCount cX1_patternCount 3 (some .int) 1 ∧ Cond.instanceMethod yX1_patternCount ∈ zTb ∧ Cond.selects yX1_patternCount.cls yX1_patternCount yX1_patternCount ∈ zTb ∧ yX1_patternCount.cls = zNm 1 ∧ 1 < 13 := ⟨⟨zW4 139 rfl rfl, zW1 11 rfl rfl, zW4 142 rfl rfl, ⟨by decide +kernel, by decide +kernel, by decide +kernel⟩⟩, zW4 140 rfl rfl, zW4 141 rfl rfl, rfl, by decide⟩
set_option maxRecDepth 20000 in
theorem cb_RX11_221 : zCB RX11 221 yX1_missedCount cX1_missedCount 2 (some .int) 1 ∧ Cond.instanceMethod yX1_missedCount ∈ zTb ∧ Cond.selects yX1_missedCount.cls yX1_missedCount yX1_missedCount ∈ zTb ∧ yX1_missedCount.cls = zNm 1 ∧ 1 < 13 := ⟨⟨zW4 143 rfl rfl, zW1 11 rfl rfl, zW4 146 rfl rfl, ⟨by decide +kernel, by decide +kernel, by decide +kernel⟩⟩, zW4 144 rfl rfl, zW4 145 rfl rfl, rfl, by decide⟩
set_option maxRecDepth 20000 in
theorem cb_RX11_236 : zCB RX11 236 yJ13_bitCount_95d88 cJ13_bitCount_95d88 2 (some .int) 1 ∧ Cond.static yJ13_bitCount_95d88 ∈ zTb := ⟨⟨zW4 174 rfl rfl, zW1 20 rfl rfl, zW4 131 rfl rfl, ⟨by decide +kernel, by decide +kernel, by decide +kernel⟩⟩, zW4 130 rfl rfl⟩
set_option maxRecDepth 20000 in
theorem cb_RX11_254 : zCB RX11 254 yX11_older cX11_older 2 (some .int) 2 ∧ Cond.static yX11_older ∈ zTb := ⟨⟨zW4 191 rfl rfl, zW1 1 rfl rfl, zW4 193 rfl rfl, ⟨by decide +kernel, by decide +kernel, by decide +kernel⟩⟩, zW4 192 rfl rfl⟩
set_option maxRecDepth 20000 in
theorem cb_RX11_258 : zCB RX11 258 yX10_setDay cX10_setDay 4 none 3 ∧ Cond.instanceMethod yX10_setDay ∈ zTb ∧ Cond.selects yX10_setDay.cls yX10_setDay yX10_setDay ∈ zTb ∧ yX10_setDay.cls = zNm 10 ∧ 10 < 13 := ⟨⟨zW4 195 rfl rfl, zW1 2 rfl rfl, zW4 198 rfl rfl, ⟨by decide +kernel, by decide +kernel, by decide +kernel⟩⟩, zW4 196 rfl rfl, zW4 197 rfl rfl, rfl, by decide⟩
set_option maxRecDepth 20000 in
theorem cb_RX11_262 : zCB RX11 262 yX10_drifted cX10_drifted 7 (some .int) 4 ∧ Cond.instanceMethod yX10_drifted ∈ zTb ∧ Cond.selects yX10_drifted.cls yX10_drifted yX10_drifted ∈ zTb ∧ yX10_drifted.cls = zNm 10 ∧ 10 < 13 := ⟨⟨zW4 199 rfl rfl, zW1 2 rfl rfl, zW4 202 rfl rfl, ⟨by decide +kernel, by decide +kernel, by decide +kernel⟩⟩, zW4 200 rfl rfl, zW4 201 rfl rfl, rfl, by decide⟩
set_option maxRecDepth 20000 in
theorem cb_RX11_242 : zCB RX11 242 yX11_isWritten cX11_isWritten 2 (some .boolean) 1 ∧ Cond.instanceMethod yX11_isWritten ∈ zTb ∧ Cond.selects yX11_isWritten.cls yX11_isWritten yX11_isWritten ∈ zTb ∧ yX11_isWritten.cls = zNm 11 ∧ 11 < 13 := ⟨⟨zW4 179 rfl rfl, zW1 1 rfl rfl, zW4 182 rfl rfl, ⟨by decide +kernel, by decide +kernel, by decide +kernel⟩⟩, zW4 181 rfl rfl, zSel 37 rfl rfl, rfl, by decide⟩
set_option maxRecDepth 20000 in
theorem cb_RX11_245 : zCB RX11 245 yX11_isCell cX11_isCell 2 (some .boolean) 1 ∧ Cond.instanceMethod yX11_isCell ∈ zTb ∧ Cond.selects yX11_isCell.cls yX11_isCell yX11_isCell ∈ zTb ∧ yX11_isCell.cls = zNm 11 ∧ 11 < 13 := ⟨⟨zW4 183 rfl rfl, zW1 1 rfl rfl, zW4 186 rfl rfl, ⟨by decide +kernel, by decide +kernel, by decide +kernel⟩⟩, zW4 185 rfl rfl, zSel 38 rfl rfl, rfl, by decide⟩
set_option maxRecDepth 20000 in
theorem cb_RX11_248 : zCB RX11 248 yX11_daysFit cX11_daysFit 2 (some .boolean) 1 ∧ Cond.instanceMethod yX11_daysFit ∈ zTb ∧ Cond.selects yX11_daysFit.cls yX11_daysFit yX11_daysFit ∈ zTb ∧ yX11_daysFit.cls = zNm 11 ∧ 11 < 13 := ⟨⟨zW4 187 rfl rfl, zW1 1 rfl rfl, zW4 190 rfl rfl, ⟨by decide +kernel, by decide +kernel, by decide +kernel⟩⟩, zW4 189 rfl rfl, zSel 39 rfl rfl, rfl, by decide⟩
set_option maxRecDepth 20000 in
theorem cb_RX11_266 : zCB RX11 266 yX11_isRead cX11_isRead 3 (some .boolean) 2 ∧ Cond.instanceMethod yX11_isRead ∈ zTb ∧ Cond.selects yX11_isRead.cls yX11_isRead yX11_isRead ∈ zTb ∧ yX11_isRead.cls = zNm 11 ∧ 11 < 13 := ⟨⟨zW5 9 rfl rfl, zW1 1 rfl rfl, zW5 12 rfl rfl, ⟨by decide +kernel, by decide +kernel, by decide +kernel⟩⟩, zW5 11 rfl rfl, zSel 44 rfl rfl, rfl, by decide⟩
set_option maxRecDepth 20000 in
theorem cb_RX11_269 : zCB RX11 269 yX8_readBy cX8_readBy 6 (some .long) 2 ∧ Cond.instanceMethod yX8_readBy ∈ zTb ∧ Cond.selects yX8_readBy.cls yX8_readBy yX8_readBy ∈ zTb ∧ yX8_readBy.cls = zNm 8 ∧ 8 < 13 := ⟨⟨zW5 13 rfl rfl, zW1 6 rfl rfl, zW5 16 rfl rfl, ⟨by decide +kernel, by decide +kernel, by decide +kernel⟩⟩, zW5 14 rfl rfl, zW5 15 rfl rfl, rfl, by decide⟩
set_option maxRecDepth 20000 in
theorem cb_RX11_391 : zCB RX11 391 yX2_decode cX2_decode 5 none 2 ∧ Cond.instanceMethod yX2_decode ∈ zTb ∧ Cond.selects yX2_decode.cls yX2_decode yX2_decode ∈ zTb ∧ yX2_decode.cls = zNm 2 ∧ 2 < 13 := ⟨⟨zW5 25 rfl rfl, zW1 3 rfl rfl, zW5 28 rfl rfl, ⟨by decide +kernel, by decide +kernel, by decide +kernel⟩⟩, zW5 26 rfl rfl, zW5 27 rfl rfl, rfl, by decide⟩
set_option maxRecDepth 20000 in
theorem cb_RX11_272 : zCB RX11 272 yX11_decode cX11_decode 3 none 2 ∧ Cond.instanceMethod yX11_decode ∈ zTb ∧ Cond.selects yX11_decode.cls yX11_decode yX11_decode ∈ zTb ∧ yX11_decode.cls = zNm 11 ∧ 11 < 13 := ⟨⟨zW5 21 rfl rfl, zW1 1 rfl rfl, zW5 24 rfl rfl, ⟨by decide +kernel, by decide +kernel, by decide +kernel⟩⟩, zW5 23 rfl rfl, zSel 45 rfl rfl, rfl, by decide⟩
set_option maxRecDepth 20000 in
theorem cb_RX11_291 : zCB RX11 291 yX3_get cX3_get 8 none 2 ∧ Cond.instanceMethod yX3_get ∈ zTb ∧ Cond.selects yX3_get.cls yX3_get yX3_get ∈ zTb ∧ yX3_get.cls = zNm 3 ∧ 3 < 13 := ⟨⟨zW5 78 rfl rfl, zW1 4 rfl rfl, zW5 81 rfl rfl, ⟨by decide +kernel, by decide +kernel, by decide +kernel⟩⟩, zW5 79 rfl rfl, zW5 80 rfl rfl, rfl, by decide⟩
set_option maxRecDepth 20000 in
theorem cb_RX11_312 : zCB RX11 312 yX8_isTrueRead cX8_isTrueRead 4 (some .boolean) 2 ∧ Cond.instanceMethod yX8_isTrueRead ∈ zTb ∧ Cond.selects yX8_isTrueRead.cls yX8_isTrueRead yX8_isTrueRead ∈ zTb ∧ yX8_isTrueRead.cls = zNm 8 ∧ 8 < 13 := ⟨⟨zW5 111 rfl rfl, zW1 6 rfl rfl, zW5 91 rfl rfl, ⟨by decide +kernel, by decide +kernel, by decide +kernel⟩⟩, zW5 89 rfl rfl, zW5 90 rfl rfl, rfl, by decide⟩
set_option maxRecDepth 20000 in
theorem cb_RX11_320 : zCB RX11 320 yX10_passDay cX10_passDay 5 none 3 ∧ Cond.instanceMethod yX10_passDay ∈ zTb ∧ Cond.selects yX10_passDay.cls yX10_passDay yX10_passDay ∈ zTb ∧ yX10_passDay.cls = zNm 10 ∧ 10 < 13 := ⟨⟨zW5 121 rfl rfl, zW1 2 rfl rfl, zW5 124 rfl rfl, ⟨by decide +kernel, by decide +kernel, by decide +kernel⟩⟩, zW5 122 rfl rfl, zW5 123 rfl rfl, rfl, by decide⟩
set_option maxRecDepth 20000 in
theorem cb_RX11_316 : zCB RX11 316 yX8_copy cX8_copy 2 none 1 ∧ Cond.instanceMethod yX8_copy ∈ zTb ∧ Cond.selects yX8_copy.cls yX8_copy yX8_copy ∈ zTb ∧ yX8_copy.cls = zNm 8 ∧ 8 < 13 := ⟨⟨zW5 116 rfl rfl, zW1 6 rfl rfl, zW5 119 rfl rfl, ⟨by decide +kernel, by decide +kernel, by decide +kernel⟩⟩, zW5 117 rfl rfl, zW5 118 rfl rfl, rfl, by decide⟩
set_option maxRecDepth 20000 in
theorem cb_RX11_324 : zCB RX11 324 yX8_turn cX8_turn 2 none 1 ∧ Cond.instanceMethod yX8_turn ∈ zTb ∧ Cond.selects yX8_turn.cls yX8_turn yX8_turn ∈ zTb ∧ yX8_turn.cls = zNm 8 ∧ 8 < 13 := ⟨⟨zW5 132 rfl rfl, zW1 6 rfl rfl, zW5 135 rfl rfl, ⟨by decide +kernel, by decide +kernel, by decide +kernel⟩⟩, zW5 133 rfl rfl, zW5 134 rfl rfl, rfl, by decide⟩
set_option maxRecDepth 20000 in
theorem cb_RX11_330 : zCB RX11 330 yX9_takes cX9_takes 4 (some .boolean) 2 ∧ Cond.instanceMethod yX9_takes ∈ zTb ∧ Cond.selects yX9_takes.cls yX9_takes yX9_takes ∈ zTb ∧ yX9_takes.cls = zNm 9 ∧ 9 < 13 := ⟨⟨zW5 140 rfl rfl, zW1 8 rfl rfl, zW5 143 rfl rfl, ⟨by decide +kernel, by decide +kernel, by decide +kernel⟩⟩, zW5 141 rfl rfl, zW5 142 rfl rfl, rfl, by decide⟩
set_option maxRecDepth 20000 in
theorem cb_RX11_334 : zCB RX11 334 yX9_find cX9_find 4 none 2 ∧ Cond.instanceMethod yX9_find ∈ zTb ∧ Cond.selects yX9_find.cls yX9_find yX9_find ∈ zTb ∧ yX9_find.cls = zNm 9 ∧ 9 < 13 := ⟨⟨zW5 148 rfl rfl, zW1 8 rfl rfl, zW5 151 rfl rfl, ⟨by decide +kernel, by decide +kernel, by decide +kernel⟩⟩, zW5 149 rfl rfl, zW5 150 rfl rfl, rfl, by decide⟩
set_option maxRecDepth 20000 in
theorem cb_RX11_344 : zCB RX11 344 yX9_findTelling cX9_findTelling 3 none 0 ∧ Cond.instanceMethod yX9_findTelling ∈ zTb ∧ Cond.selects yX9_findTelling.cls yX9_findTelling yX9_findTelling ∈ zTb ∧ yX9_findTelling.cls = zNm 9 ∧ 9 < 13 := ⟨⟨zW5 166 rfl rfl, zW1 8 rfl rfl, zW5 169 rfl rfl, ⟨by decide +kernel, by decide +kernel, by decide +kernel⟩⟩, zW5 167 rfl rfl, zW5 168 rfl rfl, rfl, by decide⟩
set_option maxRecDepth 20000 in
theorem cb_RX11_353 : zCB RX11 353 yX7_save cX7_save 2 none 1 ∧ Cond.instanceMethod yX7_save ∈ zTb ∧ Cond.selects yX7_save.cls yX7_save yX7_save ∈ zTb ∧ yX7_save.cls = zNm 7 ∧ 7 < 13 := ⟨⟨zW5 180 rfl rfl, zW1 7 rfl rfl, zW5 183 rfl rfl, ⟨by decide +kernel, by decide +kernel, by decide +kernel⟩⟩, zW5 181 rfl rfl, zW5 182 rfl rfl, rfl, by decide⟩
set_option maxRecDepth 20000 in
theorem cb_RX11_357 : zCB RX11 357 yX8_fill cX8_fill 5 none 2 ∧ Cond.instanceMethod yX8_fill ∈ zTb ∧ Cond.selects yX8_fill.cls yX8_fill yX8_fill ∈ zTb ∧ yX8_fill.cls = zNm 8 ∧ 8 < 13 := ⟨⟨zW5 189 rfl rfl, zW1 6 rfl rfl, zW5 192 rfl rfl, ⟨by decide +kernel, by decide +kernel, by decide +kernel⟩⟩, zW5 190 rfl rfl, zW5 191 rfl rfl, rfl, by decide⟩
set_option maxRecDepth 20000 in
theorem cb_RX11_361 : zCB RX11 361 yX7_add cX7_add 5 none 3 ∧ Cond.instanceMethod yX7_add ∈ zTb ∧ Cond.selects yX7_add.cls yX7_add yX7_add ∈ zTb ∧ yX7_add.cls = zNm 7 ∧ 7 < 13 := ⟨⟨zW5 194 rfl rfl, zW1 7 rfl rfl, zW5 197 rfl rfl, ⟨by decide +kernel, by decide +kernel, by decide +kernel⟩⟩, zW5 195 rfl rfl, zW5 196 rfl rfl, rfl, by decide⟩
set_option maxRecDepth 20000 in
theorem cb_RX11_365 : zCB RX11 365 yX8_clear cX8_clear 1 none 0 ∧ Cond.instanceMethod yX8_clear ∈ zTb ∧ Cond.selects yX8_clear.cls yX8_clear yX8_clear ∈ zTb ∧ yX8_clear.cls = zNm 8 ∧ 8 < 13 := ⟨⟨zW5 202 rfl rfl, zW1 6 rfl rfl, zW4 54 rfl rfl, ⟨by decide +kernel, by decide +kernel, by decide +kernel⟩⟩, zW4 52 rfl rfl, zW4 53 rfl rfl, rfl, by decide⟩
set_option maxRecDepth 20000 in
theorem cb_RX11_366 : zCB RX11 366 yX11_passDay cX11_passDay 2 none 0 ∧ Cond.instanceMethod yX11_passDay ∈ zTb ∧ Cond.selects yX11_passDay.cls yX11_passDay yX11_passDay ∈ zTb ∧ yX11_passDay.cls = zNm 11 ∧ 11 < 13 := ⟨⟨zW5 215 rfl rfl, zW1 1 rfl rfl, zW5 218 rfl rfl, ⟨by decide +kernel, by decide +kernel, by decide +kernel⟩⟩, zW5 217 rfl rfl, zSel 56 rfl rfl, rfl, by decide⟩
set_option maxRecDepth 20000 in
theorem cb_RX11_394 : zCB RX11 394 yX11_draw cX11_draw 2 (some .int) 1 ∧ Cond.instanceMethod yX11_draw ∈ zTb ∧ Cond.selects yX11_draw.cls yX11_draw yX11_draw ∈ zTb ∧ yX11_draw.cls = zNm 11 ∧ 11 < 13 := ⟨⟨zW5 227 rfl rfl, zW1 1 rfl rfl, zW5 230 rfl rfl, ⟨by decide +kernel, by decide +kernel, by decide +kernel⟩⟩, zW5 229 rfl rfl, zSel 58 rfl rfl, rfl, by decide⟩
set_option maxRecDepth 20000 in
theorem cb_RX11_368 : zCB RX11 368 yX11_addNoise cX11_addNoise 3 (some .int) 0 ∧ Cond.instanceMethod yX11_addNoise ∈ zTb ∧ Cond.selects yX11_addNoise.cls yX11_addNoise yX11_addNoise ∈ zTb ∧ yX11_addNoise.cls = zNm 11 ∧ 11 < 13 := ⟨⟨zW5 223 rfl rfl, zW1 1 rfl rfl, zW5 226 rfl rfl, ⟨by decide +kernel, by decide +kernel, by decide +kernel⟩⟩, zW5 225 rfl rfl, zSel 57 rfl rfl, rfl, by decide⟩
set_option maxRecDepth 20000 in
theorem cb_RX11_371 : zCB RX11 371 yX7_restore cX7_restore 2 none 1 ∧ Cond.instanceMethod yX7_restore ∈ zTb ∧ Cond.selects yX7_restore.cls yX7_restore yX7_restore ∈ zTb ∧ yX7_restore.cls = zNm 7 ∧ 7 < 13 := ⟨⟨zW5 238 rfl rfl, zW1 7 rfl rfl, zW6 1 rfl rfl, ⟨by decide +kernel, by decide +kernel, by decide +kernel⟩⟩, zW5 239 rfl rfl, zW6 0 rfl rfl, rfl, by decide⟩
set_option maxRecDepth 20000 in
theorem cb_RX11_374 : zCB RX11 374 yX7_entry cX7_entry 3 (some .int) 2 ∧ Cond.instanceMethod yX7_entry ∈ zTb ∧ Cond.selects yX7_entry.cls yX7_entry yX7_entry ∈ zTb ∧ yX7_entry.cls = zNm 7 ∧ 7 < 13 := ⟨⟨zW6 10 rfl rfl, zW1 7 rfl rfl, zW6 13 rfl rfl, ⟨by decide +kernel, by decide +kernel, by decide +kernel⟩⟩, zW6 11 rfl rfl, zW6 12 rfl rfl, rfl, by decide⟩
set_option maxRecDepth 20000 in
theorem cb_RX11_377 : zCB RX11 377 yX4_build cX4_build 5 none 3 ∧ Cond.instanceMethod yX4_build ∈ zTb ∧ Cond.selects yX4_build.cls yX4_build yX4_build ∈ zTb ∧ yX4_build.cls = zNm 4 ∧ 4 < 13 := ⟨⟨zW6 19 rfl rfl, zW1 9 rfl rfl, zW6 22 rfl rfl, ⟨by decide +kernel, by decide +kernel, by decide +kernel⟩⟩, zW6 20 rfl rfl, zW6 21 rfl rfl, rfl, by decide⟩
set_option maxRecDepth 20000 in
theorem cb_RX11_385 : zCB RX11 385 yX5_takes cX5_takes 7 (some .boolean) 3 ∧ Cond.instanceMethod yX5_takes ∈ zTb ∧ Cond.selects yX5_takes.cls yX5_takes yX5_takes ∈ zTb ∧ yX5_takes.cls = zNm 5 ∧ 5 < 13 := ⟨⟨zW6 43 rfl rfl, zW1 5 rfl rfl, zW6 46 rfl rfl, ⟨by decide +kernel, by decide +kernel, by decide +kernel⟩⟩, zW6 44 rfl rfl, zW6 45 rfl rfl, rfl, by decide⟩
set_option maxRecDepth 20000 in
theorem cb_RX11_388 : zCB RX11 388 yX5_copy cX5_copy 3 none 1 ∧ Cond.instanceMethod yX5_copy ∈ zTb ∧ Cond.selects yX5_copy.cls yX5_copy yX5_copy ∈ zTb ∧ yX5_copy.cls = zNm 5 ∧ 5 < 13 := ⟨⟨zW6 57 rfl rfl, zW1 5 rfl rfl, zW5 187 rfl rfl, ⟨by decide +kernel, by decide +kernel, by decide +kernel⟩⟩, zW5 185 rfl rfl, zW5 186 rfl rfl, rfl, by decide⟩
set_option maxRecDepth 20000 in
theorem cb_RX12_247 : zCB RX12 247 yX12_put cX12_put 3 none 1 ∧ Cond.instanceMethod yX12_put ∈ zTb ∧ Cond.selects yX12_put.cls yX12_put yX12_put ∈ zTb ∧ yX12_put.cls = zNm 12 ∧ 12 < 13 := ⟨⟨zW7 66 rfl rfl, zW1 17 rfl rfl, zW7 69 rfl rfl, ⟨by decide +kernel, by decide +kernel, by decide +kernel⟩⟩, zW7 68 rfl rfl, zSel 63 rfl rfl, rfl, by decide⟩
set_option maxRecDepth 20000 in
theorem cb_RX12_243 : zCB RX12 243 yX12_refuses cX12_refuses 2 (some .int) 1 ∧ Cond.instanceMethod yX12_refuses ∈ zTb ∧ Cond.selects yX12_refuses.cls yX12_refuses yX12_refuses ∈ zTb ∧ yX12_refuses.cls = zNm 12 ∧ 12 < 13 := ⟨⟨zW7 62 rfl rfl, zW1 17 rfl rfl, zW7 65 rfl rfl, ⟨by decide +kernel, by decide +kernel, by decide +kernel⟩⟩, zW7 64 rfl rfl, zSel 62 rfl rfl, rfl, by decide⟩
set_option maxRecDepth 20000 in
theorem cb_RX12_251 : zCB RX12 251 yX12_blame cX12_blame 3 none 2 ∧ Cond.instanceMethod yX12_blame ∈ zTb ∧ Cond.selects yX12_blame.cls yX12_blame yX12_blame ∈ zTb ∧ yX12_blame.cls = zNm 12 ∧ 12 < 13 := ⟨⟨zW7 105 rfl rfl, zW1 17 rfl rfl, zW7 108 rfl rfl, ⟨by decide +kernel, by decide +kernel, by decide +kernel⟩⟩, zW7 107 rfl rfl, zSel 69 rfl rfl, rfl, by decide⟩
set_option maxRecDepth 20000 in
theorem cb_RX12_259 : zCB RX12 259 yX12_isDigit cX12_isDigit 1 (some .boolean) 1 ∧ Cond.static yX12_isDigit ∈ zTb := ⟨⟨zW7 89 rfl rfl, zW1 17 rfl rfl, zW7 91 rfl rfl, ⟨by decide +kernel, by decide +kernel, by decide +kernel⟩⟩, zW7 90 rfl rfl⟩
set_option maxRecDepth 20000 in
theorem cb_RX12_255 : zCB RX12 255 yX12_isLetter cX12_isLetter 1 (some .boolean) 1 ∧ Cond.static yX12_isLetter ∈ zTb := ⟨⟨zW7 86 rfl rfl, zW1 17 rfl rfl, zW7 88 rfl rfl, ⟨by decide +kernel, by decide +kernel, by decide +kernel⟩⟩, zW7 87 rfl rfl⟩
set_option maxRecDepth 20000 in
theorem cb_RX12_268 : zCB RX12 268 yX12_ahead cX12_ahead 6 none 0 ∧ Cond.instanceMethod yX12_ahead ∈ zTb ∧ Cond.selects yX12_ahead.cls yX12_ahead yX12_ahead ∈ zTb ∧ yX12_ahead.cls = zNm 12 ∧ 12 < 13 := ⟨⟨zW7 82 rfl rfl, zW1 17 rfl rfl, zW7 85 rfl rfl, ⟨by decide +kernel, by decide +kernel, by decide +kernel⟩⟩, zW7 84 rfl rfl, zSel 65 rfl rfl, rfl, by decide⟩
set_option maxRecDepth 20000 in
theorem cb_RX12_262 : zCB RX12 262 yX12_lex cX12_lex 1 none 0 ∧ Cond.instanceMethod yX12_lex ∈ zTb ∧ Cond.selects yX12_lex.cls yX12_lex yX12_lex ∈ zTb ∧ yX12_lex.cls = zNm 12 ∧ 12 < 13 := ⟨⟨zW7 101 rfl rfl, zW1 17 rfl rfl, zW7 104 rfl rfl, ⟨by decide +kernel, by decide +kernel, by decide +kernel⟩⟩, zW7 103 rfl rfl, zSel 68 rfl rfl, rfl, by decide⟩
set_option maxRecDepth 20000 in
theorem cb_RX12_265 : zCB RX12 265 yX12_isSign cX12_isSign 2 (some .boolean) 1 ∧ Cond.instanceMethod yX12_isSign ∈ zTb ∧ Cond.selects yX12_isSign.cls yX12_isSign yX12_isSign ∈ zTb ∧ yX12_isSign.cls = zNm 12 ∧ 12 < 13 := ⟨⟨zW7 137 rfl rfl, zW1 17 rfl rfl, zW7 140 rfl rfl, ⟨by decide +kernel, by decide +kernel, by decide +kernel⟩⟩, zW7 139 rfl rfl, zSel 74 rfl rfl, rfl, by decide⟩
set_option maxRecDepth 20000 in
theorem cb_RX12_325 : zCB RX12 325 yX12_is cX12_is 3 (some .boolean) 3 ∧ Cond.static yX12_is ∈ zTb := ⟨⟨zW7 117 rfl rfl, zW1 17 rfl rfl, zW7 119 rfl rfl, ⟨by decide +kernel, by decide +kernel, by decide +kernel⟩⟩, zW7 118 rfl rfl⟩
set_option maxRecDepth 20000 in
theorem cb_RX12_329 : zCB RX12 329 yX12_rank cX12_rank 1 (some .int) 1 ∧ Cond.static yX12_rank ∈ zTb := ⟨⟨zW7 231 rfl rfl, zW1 17 rfl rfl, zW7 233 rfl rfl, ⟨by decide +kernel, by decide +kernel, by decide +kernel⟩⟩, zW7 232 rfl rfl⟩
set_option maxRecDepth 20000 in
theorem cb_RX12_332 : zCB RX12 332 yX12_add cX12_add 3 none 2 ∧ Cond.instanceMethod yX12_add ∈ zTb ∧ Cond.selects yX12_add.cls yX12_add yX12_add ∈ zTb ∧ yX12_add.cls = zNm 12 ∧ 12 < 13 := ⟨⟨zW7 219 rfl rfl, zW1 17 rfl rfl, zW7 222 rfl rfl, ⟨by decide +kernel, by decide +kernel, by decide +kernel⟩⟩, zW7 221 rfl rfl, zSel 88 rfl rfl, rfl, by decide⟩
set_option maxRecDepth 20000 in
theorem cb_RX12_335 : zCB RX12 335 yX12_pushes cX12_pushes 2 none 1 ∧ Cond.instanceMethod yX12_pushes ∈ zTb ∧ Cond.selects yX12_pushes.cls yX12_pushes yX12_pushes ∈ zTb ∧ yX12_pushes.cls = zNm 12 ∧ 12 < 13 := ⟨⟨zW7 200 rfl rfl, zW1 17 rfl rfl, zW7 203 rfl rfl, ⟨by decide +kernel, by decide +kernel, by decide +kernel⟩⟩, zW7 202 rfl rfl, zSel 84 rfl rfl, rfl, by decide⟩
set_option maxRecDepth 20000 in
theorem cb_RX12_345 : zCB RX12 345 yX12_holdsBack cX12_holdsBack 2 none 1 ∧ Cond.instanceMethod yX12_holdsBack ∈ zTb ∧ Cond.selects yX12_holdsBack.cls yX12_holdsBack yX12_holdsBack ∈ zTb ∧ yX12_holdsBack.cls = zNm 12 ∧ 12 < 13 := ⟨⟨zW7 211 rfl rfl, zW1 17 rfl rfl, zW7 214 rfl rfl, ⟨by decide +kernel, by decide +kernel, by decide +kernel⟩⟩, zW7 213 rfl rfl, zSel 86 rfl rfl, rfl, by decide⟩
set_option maxRecDepth 20000 in
theorem cb_RX12_348 : zCB RX12 348 yX12_opens cX12_opens 2 none 1 ∧ Cond.instanceMethod yX12_opens ∈ zTb ∧ Cond.selects yX12_opens.cls yX12_opens yX12_opens ∈ zTb ∧ yX12_opens.cls = zNm 12 ∧ 12 < 13 := ⟨⟨zW7 215 rfl rfl, zW1 17 rfl rfl, zW7 218 rfl rfl, ⟨by decide +kernel, by decide +kernel, by decide +kernel⟩⟩, zW7 217 rfl rfl, zSel 87 rfl rfl, rfl, by decide⟩
set_option maxRecDepth 20000 in
theorem cb_RX12_341 : zCB RX12 341 yX12_isWord cX12_isWord 3 (some .boolean) 1 ∧ Cond.instanceMethod yX12_isWord ∈ zTb ∧ Cond.selects yX12_isWord.cls yX12_isWord yX12_isWord ∈ zTb ∧ yX12_isWord.cls = zNm 12 ∧ 12 < 13 := ⟨⟨zW7 109 rfl rfl, zW1 17 rfl rfl, zW7 112 rfl rfl, ⟨by decide +kernel, by decide +kernel, by decide +kernel⟩⟩, zW7 111 rfl rfl, zSel 70 rfl rfl, rfl, by decide⟩
set_option maxRecDepth 20000 in
theorem cb_RX12_338 : zCB RX12 338 yX12_isTest cX12_isTest 1 (some .boolean) 1 ∧ Cond.static yX12_isTest ∈ zTb := ⟨⟨zW7 208 rfl rfl, zW1 17 rfl rfl, zW7 210 rfl rfl, ⟨by decide +kernel, by decide +kernel, by decide +kernel⟩⟩, zW7 209 rfl rfl⟩
set_option maxRecDepth 20000 in
theorem cb_RX12_351 : zCB RX12 351 yX12_joins cX12_joins 2 none 1 ∧ Cond.instanceMethod yX12_joins ∈ zTb ∧ Cond.selects yX12_joins.cls yX12_joins yX12_joins ∈ zTb ∧ yX12_joins.cls = zNm 12 ∧ 12 < 13 := ⟨⟨zW7 227 rfl rfl, zW1 17 rfl rfl, zW7 230 rfl rfl, ⟨by decide +kernel, by decide +kernel, by decide +kernel⟩⟩, zW7 229 rfl rfl, zSel 90 rfl rfl, rfl, by decide⟩
set_option maxRecDepth 20000 in
theorem cb_RX12_357 : zCB RX12 357 yX12_goesOn cX12_goesOn 5 (some .boolean) 0 ∧ Cond.instanceMethod yX12_goesOn ∈ zTb ∧ Cond.selects yX12_goesOn.cls yX12_goesOn yX12_goesOn ∈ zTb ∧ yX12_goesOn.cls = zNm 12 ∧ 12 < 13 := ⟨⟨zW7 223 rfl rfl, zW1 17 rfl rfl, zW7 226 rfl rfl, ⟨by decide +kernel, by decide +kernel, by decide +kernel⟩⟩, zW7 225 rfl rfl, zSel 89 rfl rfl, rfl, by decide⟩
set_option maxRecDepth 20000 in
theorem cb_RX12_354 : zCB RX12 354 yX12_operand cX12_operand 4 (some .boolean) 0 ∧ Cond.instanceMethod yX12_operand ∈ zTb ∧ Cond.selects yX12_operand.cls yX12_operand yX12_operand ∈ zTb ∧ yX12_operand.cls = zNm 12 ∧ 12 < 13 := ⟨⟨zW7 204 rfl rfl, zW1 17 rfl rfl, zW7 207 rfl rfl, ⟨by decide +kernel, by decide +kernel, by decide +kernel⟩⟩, zW7 206 rfl rfl, zSel 85 rfl rfl, rfl, by decide⟩
set_option maxRecDepth 20000 in
theorem cb_RX12_360 : zCB RX12 360 yX12_timesA cX12_timesA 4 (some .int) 3 ∧ Cond.static yX12_timesA ∈ zTb := ⟨⟨zW7 124 rfl rfl, zW1 17 rfl rfl, zW7 126 rfl rfl, ⟨by decide +kernel, by decide +kernel, by decide +kernel⟩⟩, zW7 125 rfl rfl⟩
set_option maxRecDepth 20000 in
theorem cb_RX12_364 : zCB RX12 364 yX12_mustWord cX12_mustWord 3 none 1 ∧ Cond.instanceMethod yX12_mustWord ∈ zTb ∧ Cond.selects yX12_mustWord.cls yX12_mustWord yX12_mustWord ∈ zTb ∧ yX12_mustWord.cls = zNm 12 ∧ 12 < 13 := ⟨⟨zW7 97 rfl rfl, zW1 17 rfl rfl, zW7 100 rfl rfl, ⟨by decide +kernel, by decide +kernel, by decide +kernel⟩⟩, zW7 99 rfl rfl, zSel 67 rfl rfl, rfl, by decide⟩
set_option maxRecDepth 20000 in
theorem cb_RX12_368 : zCB RX12 368 yX12_number cX12_number 4 (some .int) 2 ∧ Cond.instanceMethod yX12_number ∈ zTb ∧ Cond.selects yX12_number.cls yX12_number yX12_number ∈ zTb ∧ yX12_number.cls = zNm 12 ∧ 12 < 13 := ⟨⟨zW7 113 rfl rfl, zW1 17 rfl rfl, zW7 116 rfl rfl, ⟨by decide +kernel, by decide +kernel, by decide +kernel⟩⟩, zW7 115 rfl rfl, zSel 71 rfl rfl, rfl, by decide⟩
set_option maxRecDepth 20000 in
theorem cb_RX12_379 : zCB RX12 379 yX12_tellsAt cX12_tellsAt 3 none 2 ∧ Cond.instanceMethod yX12_tellsAt ∈ zTb ∧ Cond.selects yX12_tellsAt.cls yX12_tellsAt yX12_tellsAt ∈ zTb ∧ yX12_tellsAt.cls = zNm 12 ∧ 12 < 13 := ⟨⟨zW7 78 rfl rfl, zW1 17 rfl rfl, zW7 81 rfl rfl, ⟨by decide +kernel, by decide +kernel, by decide +kernel⟩⟩, zW7 80 rfl rfl, zSel 64 rfl rfl, rfl, by decide⟩
set_option maxRecDepth 20000 in
theorem cb_RX12_376 : zCB RX12 376 yX12_rootsFor cX12_rootsFor 8 (some .int) 2 ∧ Cond.instanceMethod yX12_rootsFor ∈ zTb ∧ Cond.selects yX12_rootsFor.cls yX12_rootsFor yX12_rootsFor ∈ zTb ∧ yX12_rootsFor.cls = zNm 12 ∧ 12 < 13 := ⟨⟨zW7 128 rfl rfl, zW1 17 rfl rfl, zW7 131 rfl rfl, ⟨by decide +kernel, by decide +kernel, by decide +kernel⟩⟩, zW7 130 rfl rfl, zSel 72 rfl rfl, rfl, by decide⟩
set_option maxRecDepth 20000 in
theorem cb_RX12_372 : zCB RX12 372 yX12_isPrimitive cX12_isPrimitive 4 (some .boolean) 2 ∧ Cond.static yX12_isPrimitive ∈ zTb := ⟨⟨zW7 121 rfl rfl, zW1 17 rfl rfl, zW7 123 rfl rfl, ⟨by decide +kernel, by decide +kernel, by decide +kernel⟩⟩, zW7 122 rfl rfl⟩
set_option maxRecDepth 20000 in
theorem cb_RX12_389 : zCB RX12 389 yX12_pageNamed cX12_pageNamed 4 (some .int) 1 ∧ Cond.instanceMethod yX12_pageNamed ∈ zTb ∧ Cond.selects yX12_pageNamed.cls yX12_pageNamed yX12_pageNamed ∈ zTb ∧ yX12_pageNamed.cls = zNm 12 ∧ 12 < 13 := ⟨⟨zW7 184 rfl rfl, zW1 17 rfl rfl, zW7 187 rfl rfl, ⟨by decide +kernel, by decide +kernel, by decide +kernel⟩⟩, zW7 186 rfl rfl, zSel 80 rfl rfl, rfl, by decide⟩
set_option maxRecDepth 20000 in
theorem cb_RX12_382 : zCB RX12 382 yX12_isCounted cX12_isCounted 2 (some .boolean) 1 ∧ Cond.instanceMethod yX12_isCounted ∈ zTb ∧ Cond.selects yX12_isCounted.cls yX12_isCounted yX12_isCounted ∈ zTb ∧ yX12_isCounted.cls = zNm 12 ∧ 12 < 13 := ⟨⟨zW7 154 rfl rfl, zW1 17 rfl rfl, zW7 157 rfl rfl, ⟨by decide +kernel, by decide +kernel, by decide +kernel⟩⟩, zW7 156 rfl rfl, zSel 78 rfl rfl, rfl, by decide⟩
set_option maxRecDepth 20000 in
theorem cb_RX12_386 : zCB RX12 386 yX12_isOwn cX12_isOwn 3 (some .boolean) 1 ∧ Cond.instanceMethod yX12_isOwn ∈ zTb ∧ Cond.selects yX12_isOwn.cls yX12_isOwn yX12_isOwn ∈ zTb ∧ yX12_isOwn.cls = zNm 12 ∧ 12 < 13 := ⟨⟨zW7 158 rfl rfl, zW1 17 rfl rfl, zW7 161 rfl rfl, ⟨by decide +kernel, by decide +kernel, by decide +kernel⟩⟩, zW7 160 rfl rfl, zSel 79 rfl rfl, rfl, by decide⟩
set_option maxRecDepth 20000 in
theorem cb_RX12_393 : zCB RX12 393 yX12_reads cX12_reads 3 none 1 ∧ Cond.instanceMethod yX12_reads ∈ zTb ∧ Cond.selects yX12_reads.cls yX12_reads yX12_reads ∈ zTb ∧ yX12_reads.cls = zNm 12 ∧ 12 < 13 := ⟨⟨zW7 196 rfl rfl, zW1 17 rfl rfl, zW7 199 rfl rfl, ⟨by decide +kernel, by decide +kernel, by decide +kernel⟩⟩, zW7 198 rfl rfl, zSel 83 rfl rfl, rfl, by decide⟩
set_option maxRecDepth 20000 in
theorem cb_RX12_404 : zCB RX12 404 yX12_reading cX12_reading 3 none 1 ∧ Cond.instanceMethod yX12_reading ∈ zTb ∧ Cond.selects yX12_reading.cls yX12_reading yX12_reading ∈ zTb ∧ yX12_reading.cls = zNm 12 ∧ 12 < 13 := ⟨⟨zW7 192 rfl rfl, zW1 17 rfl rfl, zW7 195 rfl rfl, ⟨by decide +kernel, by decide +kernel, by decide +kernel⟩⟩, zW7 194 rfl rfl, zSel 82 rfl rfl, rfl, by decide⟩
set_option maxRecDepth 20000 in
theorem cb_RX12_400 : zCB RX12 400 yX12_telling cX12_telling 5 none 3 ∧ Cond.instanceMethod yX12_telling ∈ zTb ∧ Cond.selects yX12_telling.cls yX12_telling yX12_telling ∈ zTb ∧ yX12_telling.cls = zNm 12 ∧ 12 < 13 := ⟨⟨zW7 188 rfl rfl, zW1 17 rfl rfl, zW7 191 rfl rfl, ⟨by decide +kernel, by decide +kernel, by decide +kernel⟩⟩, zW7 190 rfl rfl, zSel 81 rfl rfl, rfl, by decide⟩
set_option maxRecDepth 20000 in
theorem cb_RX12_397 : zCB RX12 397 yX12_pageIs cX12_pageIs 1 none 0 ∧ Cond.instanceMethod yX12_pageIs ∈ zTb ∧ Cond.selects yX12_pageIs.cls yX12_pageIs yX12_pageIs ∈ zTb ∧ yX12_pageIs.cls = zNm 12 ∧ 12 < 13 := ⟨⟨zW7 150 rfl rfl, zW1 17 rfl rfl, zW7 153 rfl rfl, ⟨by decide +kernel, by decide +kernel, by decide +kernel⟩⟩, zW7 152 rfl rfl, zSel 77 rfl rfl, rfl, by decide⟩
set_option maxRecDepth 20000 in
theorem cb_RX12_407 : zCB RX12 407 yX12_must cX12_must 2 none 1 ∧ Cond.instanceMethod yX12_must ∈ zTb ∧ Cond.selects yX12_must.cls yX12_must yX12_must ∈ zTb ∧ yX12_must.cls = zNm 12 ∧ 12 < 13 := ⟨⟨zW7 141 rfl rfl, zW1 17 rfl rfl, zW7 144 rfl rfl, ⟨by decide +kernel, by decide +kernel, by decide +kernel⟩⟩, zW7 143 rfl rfl, zSel 75 rfl rfl, rfl, by decide⟩
set_option maxRecDepth 20000 in
theorem cb_RX12_425 : zCB RX12 425 yX12_times cX12_times 3 (some .int) 2 ∧ Cond.instanceMethod yX12_times ∈ zTb ∧ Cond.selects yX12_times.cls yX12_times yX12_times ∈ zTb ∧ yX12_times.cls = zNm 12 ∧ 12 < 13 := ⟨⟨zW8 6 rfl rfl, zW1 17 rfl rfl, zW8 9 rfl rfl, ⟨by decide +kernel, by decide +kernel, by decide +kernel⟩⟩, zW8 8 rfl rfl, zSel 94 rfl rfl, rfl, by decide⟩
set_option maxRecDepth 20000 in
theorem cb_RX12_434 : zCB RX12 434 yX12_twoElements cX12_twoElements 5 (some .long) 1 ∧ Cond.instanceMethod yX12_twoElements ∈ zTb ∧ Cond.selects yX12_twoElements.cls yX12_twoElements yX12_twoElements ∈ zTb ∧ yX12_twoElements.cls = zNm 12 ∧ 12 < 13 := ⟨⟨zW8 10 rfl rfl, zW1 17 rfl rfl, zW8 13 rfl rfl, ⟨by decide +kernel, by decide +kernel, by decide +kernel⟩⟩, zW8 12 rfl rfl, zSel 95 rfl rfl, rfl, by decide⟩
set_option maxRecDepth 20000 in
theorem cb_RX12_431 : zCB RX12 431 yX12_multiplies cX12_multiplies 4 none 2 ∧ Cond.instanceMethod yX12_multiplies ∈ zTb ∧ Cond.selects yX12_multiplies.cls yX12_multiplies yX12_multiplies ∈ zTb ∧ yX12_multiplies.cls = zNm 12 ∧ 12 < 13 := ⟨⟨zW8 2 rfl rfl, zW1 17 rfl rfl, zW8 5 rfl rfl, ⟨by decide +kernel, by decide +kernel, by decide +kernel⟩⟩, zW8 4 rfl rfl, zSel 93 rfl rfl, rfl, by decide⟩
set_option maxRecDepth 20000 in
theorem cb_RX12_428 : zCB RX12 428 yX12_by cX12_by 2 (some .int) 1 ∧ Cond.instanceMethod yX12_by ∈ zTb ∧ Cond.selects yX12_by.cls yX12_by yX12_by ∈ zTb ∧ yX12_by.cls = zNm 12 ∧ 12 < 13 := ⟨⟨zW7 238 rfl rfl, zW1 17 rfl rfl, zW8 1 rfl rfl, ⟨by decide +kernel, by decide +kernel, by decide +kernel⟩⟩, zW8 0 rfl rfl, zSel 92 rfl rfl, rfl, by decide⟩
set_option maxRecDepth 20000 in
theorem cb_RX12_419 : zCB RX12 419 yX12_lays cX12_lays 4 none 0 ∧ Cond.instanceMethod yX12_lays ∈ zTb ∧ Cond.selects yX12_lays.cls yX12_lays yX12_lays ∈ zTb ∧ yX12_lays.cls = zNm 12 ∧ 12 < 13 := ⟨⟨zW7 234 rfl rfl, zW1 17 rfl rfl, zW7 237 rfl rfl, ⟨by decide +kernel, by decide +kernel, by decide +kernel⟩⟩, zW7 236 rfl rfl, zSel 91 rfl rfl, rfl, by decide⟩
set_option maxRecDepth 20000 in
theorem cb_RX12_422 : zCB RX12 422 yX12_begin cX12_begin 2 none 0 ∧ Cond.instanceMethod yX12_begin ∈ zTb ∧ Cond.selects yX12_begin.cls yX12_begin yX12_begin ∈ zTb ∧ yX12_begin.cls = zNm 12 ∧ 12 < 13 := ⟨⟨zW8 14 rfl rfl, zW1 17 rfl rfl, zW8 17 rfl rfl, ⟨by decide +kernel, by decide +kernel, by decide +kernel⟩⟩, zW8 16 rfl rfl, zSel 96 rfl rfl, rfl, by decide⟩
set_option maxRecDepth 20000 in
theorem cb_RX12_416 : zCB RX12 416 yX12_statement cX12_statement 1 none 0 ∧ Cond.instanceMethod yX12_statement ∈ zTb ∧ Cond.selects yX12_statement.cls yX12_statement yX12_statement ∈ zTb ∧ yX12_statement.cls = zNm 12 ∧ 12 < 13 := ⟨⟨zW7 145 rfl rfl, zW1 17 rfl rfl, zW7 148 rfl rfl, ⟨by decide +kernel, by decide +kernel, by decide +kernel⟩⟩, zW7 147 rfl rfl, zSel 76 rfl rfl, rfl, by decide⟩
set_option maxRecDepth 20000 in
theorem cb_RX12_413 : zCB RX12 413 yX12_finishes cX12_finishes 3 none 1 ∧ Cond.instanceMethod yX12_finishes ∈ zTb ∧ Cond.selects yX12_finishes.cls yX12_finishes yX12_finishes ∈ zTb ∧ yX12_finishes.cls = zNm 12 ∧ 12 < 13 := ⟨⟨zW7 133 rfl rfl, zW1 17 rfl rfl, zW7 136 rfl rfl, ⟨by decide +kernel, by decide +kernel, by decide +kernel⟩⟩, zW7 135 rfl rfl, zSel 73 rfl rfl, rfl, by decide⟩
set_option maxRecDepth 20000 in
theorem cb_RX12_410 : zCB RX12 410 yX12_chipIs cX12_chipIs 7 none 0 ∧ Cond.instanceMethod yX12_chipIs ∈ zTb ∧ Cond.selects yX12_chipIs.cls yX12_chipIs yX12_chipIs ∈ zTb ∧ yX12_chipIs.cls = zNm 12 ∧ 12 < 13 := ⟨⟨zW7 92 rfl rfl, zW1 17 rfl rfl, zW7 95 rfl rfl, ⟨by decide +kernel, by decide +kernel, by decide +kernel⟩⟩, zW7 94 rfl rfl, zSel 66 rfl rfl, rfl, by decide⟩
set_option maxRecDepth 20000 in
theorem cb_RX12_438 : zCB RX12 438 yX12_minimal cX12_minimal 5 (some .int) 1 ∧ Cond.instanceMethod yX12_minimal ∈ zTb ∧ Cond.selects yX12_minimal.cls yX12_minimal yX12_minimal ∈ zTb ∧ yX12_minimal.cls = zNm 12 ∧ 12 < 13 := ⟨⟨zW8 30 rfl rfl, zW1 17 rfl rfl, zW8 33 rfl rfl, ⟨by decide +kernel, by decide +kernel, by decide +kernel⟩⟩, zW8 32 rfl rfl, zSel 97 rfl rfl, rfl, by decide⟩
set_option maxRecDepth 20000 in
theorem cb_RX12_441 : zCB RX12 441 yX12_left cX12_left 6 (some .long) 1 ∧ Cond.instanceMethod yX12_left ∈ zTb ∧ Cond.selects yX12_left.cls yX12_left yX12_left ∈ zTb ∧ yX12_left.cls = zNm 12 ∧ 12 < 13 := ⟨⟨zW8 51 rfl rfl, zW1 17 rfl rfl, zW8 54 rfl rfl, ⟨by decide +kernel, by decide +kernel, by decide +kernel⟩⟩, zW8 53 rfl rfl, zSel 100 rfl rfl, rfl, by decide⟩
set_option maxRecDepth 20000 in
theorem cb_RX12_446 : zCB RX12 446 yX12_isData cX12_isData 3 (some .boolean) 2 ∧ Cond.instanceMethod yX12_isData ∈ zTb ∧ Cond.selects yX12_isData.cls yX12_isData yX12_isData ∈ zTb ∧ yX12_isData.cls = zNm 12 ∧ 12 < 13 := ⟨⟨zW8 42 rfl rfl, zW1 17 rfl rfl, zW8 45 rfl rfl, ⟨by decide +kernel, by decide +kernel, by decide +kernel⟩⟩, zW8 44 rfl rfl, zSel 98 rfl rfl, rfl, by decide⟩
set_option maxRecDepth 20000 in
theorem cb_RX12_449 : zCB RX12 449 yX12_wordOf cX12_wordOf 5 (some .long) 1 ∧ Cond.instanceMethod yX12_wordOf ∈ zTb ∧ Cond.selects yX12_wordOf.cls yX12_wordOf yX12_wordOf ∈ zTb ∧ yX12_wordOf.cls = zNm 12 ∧ 12 < 13 := ⟨⟨zW8 47 rfl rfl, zW1 17 rfl rfl, zW8 50 rfl rfl, ⟨by decide +kernel, by decide +kernel, by decide +kernel⟩⟩, zW8 49 rfl rfl, zSel 99 rfl rfl, rfl, by decide⟩
set_option maxRecDepth 20000 in
theorem cb_RX12_452 : zCB RX12 452 yX12_onesOf cX12_onesOf 5 (some .int) 1 ∧ Cond.static yX12_onesOf ∈ zTb := ⟨⟨zW8 59 rfl rfl, zW1 17 rfl rfl, zW8 61 rfl rfl, ⟨by decide +kernel, by decide +kernel, by decide +kernel⟩⟩, zW8 60 rfl rfl⟩
set_option maxRecDepth 20000 in
theorem cb_RX12_458 : zCB RX12 458 yX12_inverse cX12_inverse 2 (some .int) 1 ∧ Cond.instanceMethod yX12_inverse ∈ zTb ∧ Cond.selects yX12_inverse.cls yX12_inverse yX12_inverse ∈ zTb ∧ yX12_inverse.cls = zNm 12 ∧ 12 < 13 := ⟨⟨zW8 86 rfl rfl, zW1 17 rfl rfl, zW8 89 rfl rfl, ⟨by decide +kernel, by decide +kernel, by decide +kernel⟩⟩, zW8 88 rfl rfl, zSel 106 rfl rfl, rfl, by decide⟩
set_option maxRecDepth 20000 in
theorem cb_RX12_455 : zCB RX12 455 yX12_missing cX12_missing 4 (some .int) 1 ∧ Cond.instanceMethod yX12_missing ∈ zTb ∧ Cond.selects yX12_missing.cls yX12_missing yX12_missing ∈ zTb ∧ yX12_missing.cls = zNm 12 ∧ 12 < 13 := ⟨⟨zW8 82 rfl rfl, zW1 17 rfl rfl, zW8 85 rfl rfl, ⟨by decide +kernel, by decide +kernel, by decide +kernel⟩⟩, zW8 84 rfl rfl, zSel 105 rfl rfl, rfl, by decide⟩
set_option maxRecDepth 20000 in
theorem cb_RX12_467 : zCB RX12 467 yX12_isRootAt cX12_isRootAt 4 (some .boolean) 1 ∧ Cond.instanceMethod yX12_isRootAt ∈ zTb ∧ Cond.selects yX12_isRootAt.cls yX12_isRootAt yX12_isRootAt ∈ zTb ∧ yX12_isRootAt.cls = zNm 12 ∧ 12 < 13 := ⟨⟨zW8 90 rfl rfl, zW1 17 rfl rfl, zW8 93 rfl rfl, ⟨by decide +kernel, by decide +kernel, by decide +kernel⟩⟩, zW8 92 rfl rfl, zSel 107 rfl rfl, rfl, by decide⟩
set_option maxRecDepth 20000 in
theorem cb_RX12_461 : zCB RX12 461 yX12_syndromesOf cX12_syndromesOf 6 none 1 ∧ Cond.instanceMethod yX12_syndromesOf ∈ zTb ∧ Cond.selects yX12_syndromesOf.cls yX12_syndromesOf yX12_syndromesOf ∈ zTb ∧ yX12_syndromesOf.cls = zNm 12 ∧ 12 < 13 := ⟨⟨zW8 74 rfl rfl, zW1 17 rfl rfl, zW8 77 rfl rfl, ⟨by decide +kernel, by decide +kernel, by decide +kernel⟩⟩, zW8 76 rfl rfl, zSel 103 rfl rfl, rfl, by decide⟩
set_option maxRecDepth 20000 in
theorem cb_RX12_464 : zCB RX12 464 yX12_locates cX12_locates 7 none 0 ∧ Cond.instanceMethod yX12_locates ∈ zTb ∧ Cond.selects yX12_locates.cls yX12_locates yX12_locates ∈ zTb ∧ yX12_locates.cls = zNm 12 ∧ 12 < 13 := ⟨⟨zW8 78 rfl rfl, zW1 17 rfl rfl, zW8 81 rfl rfl, ⟨by decide +kernel, by decide +kernel, by decide +kernel⟩⟩, zW8 80 rfl rfl, zSel 104 rfl rfl, rfl, by decide⟩
set_option maxRecDepth 20000 in
theorem cb_RX12_470 : zCB RX12 470 yX12_readsBits cX12_readsBits 4 (some .int) 1 ∧ Cond.instanceMethod yX12_readsBits ∈ zTb ∧ Cond.selects yX12_readsBits.cls yX12_readsBits yX12_readsBits ∈ zTb ∧ yX12_readsBits.cls = zNm 12 ∧ 12 < 13 := ⟨⟨zW8 70 rfl rfl, zW1 17 rfl rfl, zW8 73 rfl rfl, ⟨by decide +kernel, by decide +kernel, by decide +kernel⟩⟩, zW8 72 rfl rfl, zSel 102 rfl rfl, rfl, by decide⟩
set_option maxRecDepth 20000 in
theorem cb_RX12_473 : zCB RX12 473 yX12_counts cX12_counts 4 none 1 ∧ Cond.instanceMethod yX12_counts ∈ zTb ∧ Cond.selects yX12_counts.cls yX12_counts yX12_counts ∈ zTb ∧ yX12_counts.cls = zNm 12 ∧ 12 < 13 := ⟨⟨zW8 66 rfl rfl, zW1 17 rfl rfl, zW8 69 rfl rfl, ⟨by decide +kernel, by decide +kernel, by decide +kernel⟩⟩, zW8 68 rfl rfl, zSel 101 rfl rfl, rfl, by decide⟩
set_option maxRecDepth 20000 in
theorem cb_RX12_476 : zCB RX12 476 yX12_slot cX12_slot 2 (some .int) 1 ∧ Cond.instanceMethod yX12_slot ∈ zTb ∧ Cond.selects yX12_slot.cls yX12_slot yX12_slot ∈ zTb ∧ yX12_slot.cls = zNm 12 ∧ 12 < 13 := ⟨⟨zW8 98 rfl rfl, zW1 17 rfl rfl, zW8 101 rfl rfl, ⟨by decide +kernel, by decide +kernel, by decide +kernel⟩⟩, zW8 100 rfl rfl, zSel 108 rfl rfl, rfl, by decide⟩
set_option maxRecDepth 20000 in
theorem cb_RX12_479 : zCB RX12 479 yX12_copies cX12_copies 5 none 2 ∧ Cond.instanceMethod yX12_copies ∈ zTb ∧ Cond.selects yX12_copies.cls yX12_copies yX12_copies ∈ zTb ∧ yX12_copies.cls = zNm 12 ∧ 12 < 13 := ⟨⟨zW8 102 rfl rfl, zW1 17 rfl rfl, zW8 105 rfl rfl, ⟨by decide +kernel, by decide +kernel, by decide +kernel⟩⟩, zW8 104 rfl rfl, zSel 109 rfl rfl, rfl, by decide⟩
set_option maxRecDepth 20000 in
theorem cb_RX12_486 : zCB RX12 486 yX12_within cX12_within 2 (some .long) 1 ∧ Cond.static yX12_within ∈ zTb := ⟨⟨zW8 162 rfl rfl, zW1 17 rfl rfl, zW8 164 rfl rfl, ⟨by decide +kernel, by decide +kernel, by decide +kernel⟩⟩, zW8 163 rfl rfl⟩
set_option maxRecDepth 20000 in
theorem cb_RX12_489 : zCB RX12 489 yX12_floor cX12_floor 6 (some .long) 2 ∧ Cond.static yX12_floor ∈ zTb := ⟨⟨zW8 167 rfl rfl, zW1 17 rfl rfl, zW8 169 rfl rfl, ⟨by decide +kernel, by decide +kernel, by decide +kernel⟩⟩, zW8 168 rfl rfl⟩
set_option maxRecDepth 20000 in
theorem cb_RX12_493 : zCB RX12 493 yX12_two cX12_two 5 (some .long) 3 ∧ Cond.static yX12_two ∈ zTb := ⟨⟨zW8 159 rfl rfl, zW1 17 rfl rfl, zW8 161 rfl rfl, ⟨by decide +kernel, by decide +kernel, by decide +kernel⟩⟩, zW8 160 rfl rfl⟩
set_option maxRecDepth 20000 in
theorem cb_RX12_497 : zCB RX12 497 yX12_isPage cX12_isPage 2 (some .boolean) 1 ∧ Cond.instanceMethod yX12_isPage ∈ zTb ∧ Cond.selects yX12_isPage.cls yX12_isPage yX12_isPage ∈ zTb ∧ yX12_isPage.cls = zNm 12 ∧ 12 < 13 := ⟨⟨zW8 114 rfl rfl, zW1 17 rfl rfl, zW8 117 rfl rfl, ⟨by decide +kernel, by decide +kernel, by decide +kernel⟩⟩, zW8 116 rfl rfl, zSel 110 rfl rfl, rfl, by decide⟩
set_option maxRecDepth 20000 in
theorem cb_RX12_500 : zCB RX12 500 yX12_levelAt cX12_levelAt 4 (some .int) 3 ∧ Cond.instanceMethod yX12_levelAt ∈ zTb ∧ Cond.selects yX12_levelAt.cls yX12_levelAt yX12_levelAt ∈ zTb ∧ yX12_levelAt.cls = zNm 12 ∧ 12 < 13 := ⟨⟨zW8 151 rfl rfl, zW1 17 rfl rfl, zW8 154 rfl rfl, ⟨by decide +kernel, by decide +kernel, by decide +kernel⟩⟩, zW8 153 rfl rfl, zSel 117 rfl rfl, rfl, by decide⟩
set_option maxRecDepth 20000 in
theorem cb_RX12_506 : zCB RX12 506 yX12_isTold cX12_isTold 2 (some .boolean) 1 ∧ Cond.instanceMethod yX12_isTold ∈ zTb ∧ Cond.selects yX12_isTold.cls yX12_isTold yX12_isTold ∈ zTb ∧ yX12_isTold.cls = zNm 12 ∧ 12 < 13 := ⟨⟨zW8 147 rfl rfl, zW1 17 rfl rfl, zW8 150 rfl rfl, ⟨by decide +kernel, by decide +kernel, by decide +kernel⟩⟩, zW8 149 rfl rfl, zSel 116 rfl rfl, rfl, by decide⟩
set_option maxRecDepth 20000 in
theorem cb_RX12_509 : zCB RX12 509 yX12_reckons cX12_reckons 5 (some .long) 1 ∧ Cond.instanceMethod yX12_reckons ∈ zTb ∧ Cond.selects yX12_reckons.cls yX12_reckons yX12_reckons ∈ zTb ∧ yX12_reckons.cls = zNm 12 ∧ 12 < 13 := ⟨⟨zW8 155 rfl rfl, zW1 17 rfl rfl, zW8 158 rfl rfl, ⟨by decide +kernel, by decide +kernel, by decide +kernel⟩⟩, zW8 157 rfl rfl, zSel 118 rfl rfl, rfl, by decide⟩
set_option maxRecDepth 20000 in
theorem cb_RX12_503 : zCB RX12 503 yX12_wantedOf cX12_wantedOf 3 (some .int) 2 ∧ Cond.instanceMethod yX12_wantedOf ∈ zTb ∧ Cond.selects yX12_wantedOf.cls yX12_wantedOf yX12_wantedOf ∈ zTb ∧ yX12_wantedOf.cls = zNm 12 ∧ 12 < 13 := ⟨⟨zW8 123 rfl rfl, zW1 17 rfl rfl, zW8 126 rfl rfl, ⟨by decide +kernel, by decide +kernel, by decide +kernel⟩⟩, zW8 125 rfl rfl, zSel 111 rfl rfl, rfl, by decide⟩
set_option maxRecDepth 20000 in
theorem cb_RX12_512 : zCB RX12 512 yX12_bitsBy cX12_bitsBy 8 (some .long) 4 ∧ Cond.instanceMethod yX12_bitsBy ∈ zTb ∧ Cond.selects yX12_bitsBy.cls yX12_bitsBy yX12_bitsBy ∈ zTb ∧ yX12_bitsBy.cls = zNm 12 ∧ 12 < 13 := ⟨⟨zW8 183 rfl rfl, zW1 17 rfl rfl, zW8 186 rfl rfl, ⟨by decide +kernel, by decide +kernel, by decide +kernel⟩⟩, zW8 185 rfl rfl, zSel 121 rfl rfl, rfl, by decide⟩
set_option maxRecDepth 20000 in
theorem cb_RX12_516 : zCB RX12 516 yX12_isTriedAgain cX12_isTriedAgain 6 (some .boolean) 3 ∧ Cond.instanceMethod yX12_isTriedAgain ∈ zTb ∧ Cond.selects yX12_isTriedAgain.cls yX12_isTriedAgain yX12_isTriedAgain ∈ zTb ∧ yX12_isTriedAgain.cls = zNm 12 ∧ 12 < 13 := ⟨⟨zW8 211 rfl rfl, zW1 17 rfl rfl, zW8 214 rfl rfl, ⟨by decide +kernel, by decide +kernel, by decide +kernel⟩⟩, zW8 213 rfl rfl, zSel 123 rfl rfl, rfl, by decide⟩
set_option maxRecDepth 20000 in
theorem cb_RX12_519 : zCB RX12 519 yX12_gets cX12_gets 6 (some .int) 2 ∧ Cond.instanceMethod yX12_gets ∈ zTb ∧ Cond.selects yX12_gets.cls yX12_gets yX12_gets ∈ zTb ∧ yX12_gets.cls = zNm 12 ∧ 12 < 13 := ⟨⟨zW8 207 rfl rfl, zW1 17 rfl rfl, zW8 210 rfl rfl, ⟨by decide +kernel, by decide +kernel, by decide +kernel⟩⟩, zW8 209 rfl rfl, zSel 122 rfl rfl, rfl, by decide⟩
set_option maxRecDepth 20000 in
theorem cb_RX12_522 : zCB RX12 522 yX12_puts cX12_puts 5 none 4 ∧ Cond.instanceMethod yX12_puts ∈ zTb ∧ Cond.selects yX12_puts.cls yX12_puts yX12_puts ∈ zTb ∧ yX12_puts.cls = zNm 12 ∧ 12 < 13 := ⟨⟨zW8 171 rfl rfl, zW1 17 rfl rfl, zW8 174 rfl rfl, ⟨by decide +kernel, by decide +kernel, by decide +kernel⟩⟩, zW8 173 rfl rfl, zSel 119 rfl rfl, rfl, by decide⟩
set_option maxRecDepth 20000 in
theorem cb_RX12_528 : zCB RX12 528 yX12_drifts cX12_drifts 7 none 2 ∧ Cond.instanceMethod yX12_drifts ∈ zTb ∧ Cond.selects yX12_drifts.cls yX12_drifts yX12_drifts ∈ zTb ∧ yX12_drifts.cls = zNm 12 ∧ 12 < 13 := ⟨⟨zW8 143 rfl rfl, zW1 17 rfl rfl, zW8 146 rfl rfl, ⟨by decide +kernel, by decide +kernel, by decide +kernel⟩⟩, zW8 145 rfl rfl, zSel 115 rfl rfl, rfl, by decide⟩
set_option maxRecDepth 20000 in
theorem cb_RX12_531 : zCB RX12 531 yX12_isTrue cX12_isTrue 3 (some .boolean) 2 ∧ Cond.instanceMethod yX12_isTrue ∈ zTb ∧ Cond.selects yX12_isTrue.cls yX12_isTrue yX12_isTrue ∈ zTb ∧ yX12_isTrue.cls = zNm 12 ∧ 12 < 13 := ⟨⟨zW8 224 rfl rfl, zW1 17 rfl rfl, zW8 227 rfl rfl, ⟨by decide +kernel, by decide +kernel, by decide +kernel⟩⟩, zW8 226 rfl rfl, zSel 124 rfl rfl, rfl, by decide⟩
set_option maxRecDepth 20000 in
theorem cb_RX12_542 : zCB RX12 542 yX12_passes cX12_passes 3 none 1 ∧ Cond.instanceMethod yX12_passes ∈ zTb ∧ Cond.selects yX12_passes.cls yX12_passes yX12_passes ∈ zTb ∧ yX12_passes.cls = zNm 12 ∧ 12 < 13 := ⟨⟨zW8 139 rfl rfl, zW1 17 rfl rfl, zW8 142 rfl rfl, ⟨by decide +kernel, by decide +kernel, by decide +kernel⟩⟩, zW8 141 rfl rfl, zSel 114 rfl rfl, rfl, by decide⟩
set_option maxRecDepth 20000 in
theorem cb_RX12_536 : zCB RX12 536 yX12_isThere cX12_isThere 2 (some .boolean) 1 ∧ Cond.instanceMethod yX12_isThere ∈ zTb ∧ Cond.selects yX12_isThere.cls yX12_isThere yX12_isThere ∈ zTb ∧ yX12_isThere.cls = zNm 12 ∧ 12 < 13 := ⟨⟨zW8 131 rfl rfl, zW1 17 rfl rfl, zW8 134 rfl rfl, ⟨by decide +kernel, by decide +kernel, by decide +kernel⟩⟩, zW8 133 rfl rfl, zSel 112 rfl rfl, rfl, by decide⟩
set_option maxRecDepth 20000 in
theorem cb_RX12_539 : zCB RX12 539 yX12_isAhead cX12_isAhead 4 (some .boolean) 3 ∧ Cond.instanceMethod yX12_isAhead ∈ zTb ∧ Cond.selects yX12_isAhead.cls yX12_isAhead yX12_isAhead ∈ zTb ∧ yX12_isAhead.cls = zNm 12 ∧ 12 < 13 := ⟨⟨zW8 135 rfl rfl, zW1 17 rfl rfl, zW8 138 rfl rfl, ⟨by decide +kernel, by decide +kernel, by decide +kernel⟩⟩, zW8 137 rfl rfl, zSel 113 rfl rfl, rfl, by decide⟩
set_option maxRecDepth 20000 in
theorem cb_RX12_545 : zCB RX12 545 yX12_isRead cX12_isRead 3 (some .boolean) 2 ∧ Cond.instanceMethod yX12_isRead ∈ zTb ∧ Cond.selects yX12_isRead.cls yX12_isRead yX12_isRead ∈ zTb ∧ yX12_isRead.cls = zNm 12 ∧ 12 < 13 := ⟨⟨zW8 179 rfl rfl, zW1 17 rfl rfl, zW8 182 rfl rfl, ⟨by decide +kernel, by decide +kernel, by decide +kernel⟩⟩, zW8 181 rfl rfl, zSel 120 rfl rfl, rfl, by decide⟩
set_option maxRecDepth 20000 in
theorem cb_RX12_550 : zCB RX12 550 yX12_leaves cX12_leaves 5 (some .int) 1 ∧ Cond.instanceMethod yX12_leaves ∈ zTb ∧ Cond.selects yX12_leaves.cls yX12_leaves yX12_leaves ∈ zTb ∧ yX12_leaves.cls = zNm 12 ∧ 12 < 13 := ⟨⟨zW9 0 rfl rfl, zW1 17 rfl rfl, zW9 3 rfl rfl, ⟨by decide +kernel, by decide +kernel, by decide +kernel⟩⟩, zW9 2 rfl rfl, zSel 125 rfl rfl, rfl, by decide⟩
set_option maxRecDepth 20000 in
theorem cb_RX12_554 : zCB RX12 554 yX12_mostBy cX12_mostBy 6 (some .int) 2 ∧ Cond.instanceMethod yX12_mostBy ∈ zTb ∧ Cond.selects yX12_mostBy.cls yX12_mostBy yX12_mostBy ∈ zTb ∧ yX12_mostBy.cls = zNm 12 ∧ 12 < 13 := ⟨⟨zW9 9 rfl rfl, zW1 17 rfl rfl, zW9 12 rfl rfl, ⟨by decide +kernel, by decide +kernel, by decide +kernel⟩⟩, zW9 11 rfl rfl, zSel 126 rfl rfl, rfl, by decide⟩
set_option maxRecDepth 20000 in
theorem cb_RX12_557 : zCB RX12 557 yX12_keeps cX12_keeps 1 none 0 ∧ Cond.instanceMethod yX12_keeps ∈ zTb ∧ Cond.selects yX12_keeps.cls yX12_keeps yX12_keeps ∈ zTb ∧ yX12_keeps.cls = zNm 12 ∧ 12 < 13 := ⟨⟨zW9 17 rfl rfl, zW1 17 rfl rfl, zW9 20 rfl rfl, ⟨by decide +kernel, by decide +kernel, by decide +kernel⟩⟩, zW9 19 rfl rfl, zSel 127 rfl rfl, rfl, by decide⟩
set_option maxRecDepth 20000 in
theorem cb_RX12_560 : zCB RX12 560 yX12_writesWord cX12_writesWord 5 none 2 ∧ Cond.instanceMethod yX12_writesWord ∈ zTb ∧ Cond.selects yX12_writesWord.cls yX12_writesWord yX12_writesWord ∈ zTb ∧ yX12_writesWord.cls = zNm 12 ∧ 12 < 13 := ⟨⟨zW9 21 rfl rfl, zW1 17 rfl rfl, zW9 24 rfl rfl, ⟨by decide +kernel, by decide +kernel, by decide +kernel⟩⟩, zW9 23 rfl rfl, zSel 128 rfl rfl, rfl, by decide⟩
set_option maxRecDepth 20000 in
theorem cb_RX12_564 : zCB RX12 564 yX12_writesDown cX12_writesDown 4 none 2 ∧ Cond.instanceMethod yX12_writesDown ∈ zTb ∧ Cond.selects yX12_writesDown.cls yX12_writesDown yX12_writesDown ∈ zTb ∧ yX12_writesDown.cls = zNm 12 ∧ 12 < 13 := ⟨⟨zW9 25 rfl rfl, zW1 17 rfl rfl, zW9 28 rfl rfl, ⟨by decide +kernel, by decide +kernel, by decide +kernel⟩⟩, zW9 27 rfl rfl, zSel 129 rfl rfl, rfl, by decide⟩
set_option maxRecDepth 20000 in
theorem cb_RX12_567 : zCB RX12 567 yX12_trueOnes cX12_trueOnes 3 (some .int) 0 ∧ Cond.instanceMethod yX12_trueOnes ∈ zTb ∧ Cond.selects yX12_trueOnes.cls yX12_trueOnes yX12_trueOnes ∈ zTb ∧ yX12_trueOnes.cls = zNm 12 ∧ 12 < 13 := ⟨⟨zW9 45 rfl rfl, zW1 17 rfl rfl, zW9 48 rfl rfl, ⟨by decide +kernel, by decide +kernel, by decide +kernel⟩⟩, zW9 47 rfl rfl, zSel 130 rfl rfl, rfl, by decide⟩
set_option maxRecDepth 20000 in
theorem cb_RX12_579 : zCB RX12 579 yX12_draw cX12_draw 2 (some .int) 1 ∧ Cond.instanceMethod yX12_draw ∈ zTb ∧ Cond.selects yX12_draw.cls yX12_draw yX12_draw ∈ zTb ∧ yX12_draw.cls = zNm 12 ∧ 12 < 13 := ⟨⟨zW9 53 rfl rfl, zW1 17 rfl rfl, zW9 56 rfl rfl, ⟨by decide +kernel, by decide +kernel, by decide +kernel⟩⟩, zW9 55 rfl rfl, zSel 131 rfl rfl, rfl, by decide⟩
set_option maxRecDepth 20000 in
theorem cb_RX12_582 : zCB RX12 582 yX12_writes cX12_writes 2 none 1 ∧ Cond.instanceMethod yX12_writes ∈ zTb ∧ Cond.selects yX12_writes.cls yX12_writes yX12_writes ∈ zTb ∧ yX12_writes.cls = zNm 12 ∧ 12 < 13 := ⟨⟨zW9 73 rfl rfl, zW1 17 rfl rfl, zW9 76 rfl rfl, ⟨by decide +kernel, by decide +kernel, by decide +kernel⟩⟩, zW9 75 rfl rfl, zSel 132 rfl rfl, rfl, by decide⟩
set_option maxRecDepth 20000 in
theorem cb_RX12_585 : zCB RX12 585 yX12_pageOn cX12_pageOn 8 (some .int) 3 ∧ Cond.instanceMethod yX12_pageOn ∈ zTb ∧ Cond.selects yX12_pageOn.cls yX12_pageOn yX12_pageOn ∈ zTb ∧ yX12_pageOn.cls = zNm 12 ∧ 12 < 13 := ⟨⟨zW9 89 rfl rfl, zW1 17 rfl rfl, zW9 92 rfl rfl, ⟨by decide +kernel, by decide +kernel, by decide +kernel⟩⟩, zW9 91 rfl rfl, zSel 134 rfl rfl, rfl, by decide⟩
set_option maxRecDepth 20000 in
theorem cb_RX12_588 : zCB RX12 588 yX12_comesOn cX12_comesOn 5 (some .boolean) 1 ∧ Cond.instanceMethod yX12_comesOn ∈ zTb ∧ Cond.selects yX12_comesOn.cls yX12_comesOn yX12_comesOn ∈ zTb ∧ yX12_comesOn.cls = zNm 12 ∧ 12 < 13 := ⟨⟨zW9 85 rfl rfl, zW1 17 rfl rfl, zW9 88 rfl rfl, ⟨by decide +kernel, by decide +kernel, by decide +kernel⟩⟩, zW9 87 rfl rfl, zSel 133 rfl rfl, rfl, by decide⟩
end
