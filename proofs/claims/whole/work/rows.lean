section
-- ===== PART A: goes FIRST, ahead of the names: the tables' words, and 'selects' of the private methods out of them =====
/-- a private method of a class that the tables say can be made, by its rows of tables_1 -/
def lw_okq (q : MethodName × Nat) : Prop := (q.1.cls ≠ "java/lang/invoke/MethodHandle" ∧ q.1.cls ≠ "java/lang/invoke/VarHandle") ∧ Cond.instantiable q.1.cls q.2 ∈ tables_1 ∧ Cond.privateMethod q.1 ∈ tables_1 ∧ Cond.instanceMethod q.1 ∈ tables_1
theorem lw_p0 : lw_okq (⟨"FlashPages", "refuse", "(I)I"⟩, 17) := ⟨⟨by decide +kernel, by decide +kernel⟩, List.mem_of_getElem? (i := 23) (by decide +kernel), List.mem_of_getElem? (i := 584) (by decide +kernel), List.mem_of_getElem? (i := 585) (by decide +kernel)⟩
theorem lw_p1 : lw_okq (⟨"FlashPages", "putNumber", "(I)V"⟩, 17) := ⟨⟨by decide +kernel, by decide +kernel⟩, List.mem_of_getElem? (i := 23) (by decide +kernel), List.mem_of_getElem? (i := 588) (by decide +kernel), List.mem_of_getElem? (i := 589) (by decide +kernel)⟩
theorem lw_p2 : lw_okq (⟨"FlashPages", "takeTape", "()I"⟩, 17) := ⟨⟨by decide +kernel, by decide +kernel⟩, List.mem_of_getElem? (i := 23) (by decide +kernel), List.mem_of_getElem? (i := 600) (by decide +kernel), List.mem_of_getElem? (i := 601) (by decide +kernel)⟩
theorem lw_p3 : lw_okq (⟨"FlashPages$Parser", "look", "()V"⟩, 13) := ⟨⟨by decide +kernel, by decide +kernel⟩, List.mem_of_getElem? (i := 423) (by decide +kernel), List.mem_of_getElem? (i := 615) (by decide +kernel), List.mem_of_getElem? (i := 616) (by decide +kernel)⟩
theorem lw_p4 : lw_okq (⟨"FlashPages$Parser", "lookAtWord", "()V"⟩, 13) := ⟨⟨by decide +kernel, by decide +kernel⟩, List.mem_of_getElem? (i := 423) (by decide +kernel), List.mem_of_getElem? (i := 625) (by decide +kernel), List.mem_of_getElem? (i := 626) (by decide +kernel)⟩
theorem lw_p5 : lw_okq (⟨"FlashPages$Parser", "lookAtNumber", "()V"⟩, 13) := ⟨⟨by decide +kernel, by decide +kernel⟩, List.mem_of_getElem? (i := 423) (by decide +kernel), List.mem_of_getElem? (i := 629) (by decide +kernel), List.mem_of_getElem? (i := 630) (by decide +kernel)⟩
theorem lw_p6 : lw_okq (⟨"FlashPages$Parser", "readField", "()Z"⟩, 13) := ⟨⟨by decide +kernel, by decide +kernel⟩, List.mem_of_getElem? (i := 423) (by decide +kernel), List.mem_of_getElem? (i := 633) (by decide +kernel), List.mem_of_getElem? (i := 634) (by decide +kernel)⟩
theorem lw_p7 : lw_okq (⟨"FlashPages$Parser", "readOwn", "(I)Z"⟩, 13) := ⟨⟨by decide +kernel, by decide +kernel⟩, List.mem_of_getElem? (i := 423) (by decide +kernel), List.mem_of_getElem? (i := 637) (by decide +kernel), List.mem_of_getElem? (i := 638) (by decide +kernel)⟩
theorem lw_p8 : lw_okq (⟨"FlashPages$Parser", "isOwn", "(I)Z"⟩, 13) := ⟨⟨by decide +kernel, by decide +kernel⟩, List.mem_of_getElem? (i := 423) (by decide +kernel), List.mem_of_getElem? (i := 641) (by decide +kernel), List.mem_of_getElem? (i := 642) (by decide +kernel)⟩
theorem lw_p9 : lw_okq (⟨"FlashPages$Parser", "failHere", "()Z"⟩, 13) := ⟨⟨by decide +kernel, by decide +kernel⟩, List.mem_of_getElem? (i := 423) (by decide +kernel), List.mem_of_getElem? (i := 645) (by decide +kernel), List.mem_of_getElem? (i := 646) (by decide +kernel)⟩
theorem lw_p10 : lw_okq (⟨"FlashPages$Parser", "failBy", "(II)Z"⟩, 13) := ⟨⟨by decide +kernel, by decide +kernel⟩, List.mem_of_getElem? (i := 423) (by decide +kernel), List.mem_of_getElem? (i := 649) (by decide +kernel), List.mem_of_getElem? (i := 650) (by decide +kernel)⟩
theorem lw_p11 : lw_okq (⟨"FlashPages$Parser", "readNumber", "(II)I"⟩, 13) := ⟨⟨by decide +kernel, by decide +kernel⟩, List.mem_of_getElem? (i := 423) (by decide +kernel), List.mem_of_getElem? (i := 653) (by decide +kernel), List.mem_of_getElem? (i := 654) (by decide +kernel)⟩
theorem lw_p12 : lw_okq (⟨"FlashPages$Code", "multiplyDivisor", "(I)V"⟩, 13) := ⟨⟨by decide +kernel, by decide +kernel⟩, List.mem_of_getElem? (i := 278) (by decide +kernel), List.mem_of_getElem? (i := 673) (by decide +kernel), List.mem_of_getElem? (i := 674) (by decide +kernel)⟩
theorem lw_p13 : lw_okq (⟨"FlashPages$Parser", "readSign", "(I)Z"⟩, 13) := ⟨⟨by decide +kernel, by decide +kernel⟩, List.mem_of_getElem? (i := 423) (by decide +kernel), List.mem_of_getElem? (i := 684) (by decide +kernel), List.mem_of_getElem? (i := 685) (by decide +kernel)⟩
theorem lw_p14 : lw_okq (⟨"FlashPages$Parser", "readStatement", "()Z"⟩, 13) := ⟨⟨by decide +kernel, by decide +kernel⟩, List.mem_of_getElem? (i := 423) (by decide +kernel), List.mem_of_getElem? (i := 688) (by decide +kernel), List.mem_of_getElem? (i := 689) (by decide +kernel)⟩
theorem lw_p15 : lw_okq (⟨"FlashPages$Parser", "readPage", "()Z"⟩, 13) := ⟨⟨by decide +kernel, by decide +kernel⟩, List.mem_of_getElem? (i := 423) (by decide +kernel), List.mem_of_getElem? (i := 692) (by decide +kernel), List.mem_of_getElem? (i := 693) (by decide +kernel)⟩
def lw_privs_1 : List (MethodName × Nat) := [(⟨"FlashPages", "refuse", "(I)I"⟩, 17), (⟨"FlashPages", "putNumber", "(I)V"⟩, 17), (⟨"FlashPages", "takeTape", "()I"⟩, 17), (⟨"FlashPages$Parser", "look", "()V"⟩, 13), (⟨"FlashPages$Parser", "lookAtWord", "()V"⟩, 13), (⟨"FlashPages$Parser", "lookAtNumber", "()V"⟩, 13), (⟨"FlashPages$Parser", "readField", "()Z"⟩, 13), (⟨"FlashPages$Parser", "readOwn", "(I)Z"⟩, 13), (⟨"FlashPages$Parser", "isOwn", "(I)Z"⟩, 13), (⟨"FlashPages$Parser", "failHere", "()Z"⟩, 13), (⟨"FlashPages$Parser", "failBy", "(II)Z"⟩, 13), (⟨"FlashPages$Parser", "readNumber", "(II)I"⟩, 13), (⟨"FlashPages$Code", "multiplyDivisor", "(I)V"⟩, 13), (⟨"FlashPages$Parser", "readSign", "(I)Z"⟩, 13), (⟨"FlashPages$Parser", "readStatement", "()Z"⟩, 13), (⟨"FlashPages$Parser", "readPage", "()Z"⟩, 13)]
theorem lw_r1 : ∀ q ∈ lw_privs_1, lw_okq q := List.forall_mem_cons.mpr ⟨lw_p0, List.forall_mem_cons.mpr ⟨lw_p1, List.forall_mem_cons.mpr ⟨lw_p2, List.forall_mem_cons.mpr ⟨lw_p3, List.forall_mem_cons.mpr ⟨lw_p4, List.forall_mem_cons.mpr ⟨lw_p5, List.forall_mem_cons.mpr ⟨lw_p6, List.forall_mem_cons.mpr ⟨lw_p7, List.forall_mem_cons.mpr ⟨lw_p8, List.forall_mem_cons.mpr ⟨lw_p9, List.forall_mem_cons.mpr ⟨lw_p10, List.forall_mem_cons.mpr ⟨lw_p11, List.forall_mem_cons.mpr ⟨lw_p12, List.forall_mem_cons.mpr ⟨lw_p13, List.forall_mem_cons.mpr ⟨lw_p14, List.forall_mem_cons.mpr ⟨lw_p15, fun _ h => absurd h List.not_mem_nil⟩⟩⟩⟩⟩⟩⟩⟩⟩⟩⟩⟩⟩⟩⟩⟩
theorem lw_p16 : lw_okq (⟨"FlashPages$Parser", "readDrifts", "()Z"⟩, 13) := ⟨⟨by decide +kernel, by decide +kernel⟩, List.mem_of_getElem? (i := 423) (by decide +kernel), List.mem_of_getElem? (i := 700) (by decide +kernel), List.mem_of_getElem? (i := 701) (by decide +kernel)⟩
theorem lw_p17 : lw_okq (⟨"FlashPages$Parser", "readSum", "(I)Z"⟩, 13) := ⟨⟨by decide +kernel, by decide +kernel⟩, List.mem_of_getElem? (i := 423) (by decide +kernel), List.mem_of_getElem? (i := 708) (by decide +kernel), List.mem_of_getElem? (i := 709) (by decide +kernel)⟩
theorem lw_p18 : lw_okq (⟨"FlashPages$Parser", "readProduct", "(I)Z"⟩, 13) := ⟨⟨by decide +kernel, by decide +kernel⟩, List.mem_of_getElem? (i := 423) (by decide +kernel), List.mem_of_getElem? (i := 712) (by decide +kernel), List.mem_of_getElem? (i := 713) (by decide +kernel)⟩
theorem lw_p19 : lw_okq (⟨"FlashPages$Parser", "readPart", "(I)Z"⟩, 13) := ⟨⟨by decide +kernel, by decide +kernel⟩, List.mem_of_getElem? (i := 423) (by decide +kernel), List.mem_of_getElem? (i := 716) (by decide +kernel), List.mem_of_getElem? (i := 717) (by decide +kernel)⟩
theorem lw_p20 : lw_okq (⟨"FlashPages$Parser", "readOpening", "(II)Z"⟩, 13) := ⟨⟨by decide +kernel, by decide +kernel⟩, List.mem_of_getElem? (i := 423) (by decide +kernel), List.mem_of_getElem? (i := 724) (by decide +kernel), List.mem_of_getElem? (i := 725) (by decide +kernel)⟩
theorem lw_p21 : lw_okq (⟨"FlashPages$Parser", "readPair", "(II)Z"⟩, 13) := ⟨⟨by decide +kernel, by decide +kernel⟩, List.mem_of_getElem? (i := 423) (by decide +kernel), List.mem_of_getElem? (i := 728) (by decide +kernel), List.mem_of_getElem? (i := 729) (by decide +kernel)⟩
theorem lw_p22 : lw_okq (⟨"FlashPages$Parser", "readChoice", "(I)Z"⟩, 13) := ⟨⟨by decide +kernel, by decide +kernel⟩, List.mem_of_getElem? (i := 423) (by decide +kernel), List.mem_of_getElem? (i := 732) (by decide +kernel), List.mem_of_getElem? (i := 733) (by decide +kernel)⟩
theorem lw_p23 : lw_okq (⟨"FlashPages$Parser", "readTest", "(I)Z"⟩, 13) := ⟨⟨by decide +kernel, by decide +kernel⟩, List.mem_of_getElem? (i := 423) (by decide +kernel), List.mem_of_getElem? (i := 736) (by decide +kernel), List.mem_of_getElem? (i := 737) (by decide +kernel)⟩
theorem lw_p24 : lw_okq (⟨"FlashPages$Parser", "readBoth", "(I)Z"⟩, 13) := ⟨⟨by decide +kernel, by decide +kernel⟩, List.mem_of_getElem? (i := 423) (by decide +kernel), List.mem_of_getElem? (i := 740) (by decide +kernel), List.mem_of_getElem? (i := 741) (by decide +kernel)⟩
theorem lw_p25 : lw_okq (⟨"FlashPages$Parser", "readFact", "(I)Z"⟩, 13) := ⟨⟨by decide +kernel, by decide +kernel⟩, List.mem_of_getElem? (i := 423) (by decide +kernel), List.mem_of_getElem? (i := 744) (by decide +kernel), List.mem_of_getElem? (i := 745) (by decide +kernel)⟩
theorem lw_p26 : lw_okq (⟨"FlashPages$Parser", "readComparison", "(I)Z"⟩, 13) := ⟨⟨by decide +kernel, by decide +kernel⟩, List.mem_of_getElem? (i := 423) (by decide +kernel), List.mem_of_getElem? (i := 748) (by decide +kernel), List.mem_of_getElem? (i := 749) (by decide +kernel)⟩
theorem lw_p27 : lw_okq (⟨"FlashPages$Parser", "isValue", "(I)Z"⟩, 13) := ⟨⟨by decide +kernel, by decide +kernel⟩, List.mem_of_getElem? (i := 423) (by decide +kernel), List.mem_of_getElem? (i := 752) (by decide +kernel), List.mem_of_getElem? (i := 753) (by decide +kernel)⟩
theorem lw_p28 : lw_okq (⟨"FlashPages$Parser", "readTries", "()Z"⟩, 13) := ⟨⟨by decide +kernel, by decide +kernel⟩, List.mem_of_getElem? (i := 423) (by decide +kernel), List.mem_of_getElem? (i := 756) (by decide +kernel), List.mem_of_getElem? (i := 757) (by decide +kernel)⟩
theorem lw_p29 : lw_okq (⟨"FlashPages$Parser", "readSetting", "()Z"⟩, 13) := ⟨⟨by decide +kernel, by decide +kernel⟩, List.mem_of_getElem? (i := 423) (by decide +kernel), List.mem_of_getElem? (i := 764) (by decide +kernel), List.mem_of_getElem? (i := 765) (by decide +kernel)⟩
theorem lw_p30 : lw_okq (⟨"FlashPages", "isPage", "(I)Z"⟩, 17) := ⟨⟨by decide +kernel, by decide +kernel⟩, List.mem_of_getElem? (i := 23) (by decide +kernel), List.mem_of_getElem? (i := 809) (by decide +kernel), List.mem_of_getElem? (i := 810) (by decide +kernel)⟩
theorem lw_p31 : lw_okq (⟨"FlashPages", "isData", "(II)Z"⟩, 17) := ⟨⟨by decide +kernel, by decide +kernel⟩, List.mem_of_getElem? (i := 23) (by decide +kernel), List.mem_of_getElem? (i := 829) (by decide +kernel), List.mem_of_getElem? (i := 830) (by decide +kernel)⟩
def lw_privs_2 : List (MethodName × Nat) := [(⟨"FlashPages$Parser", "readDrifts", "()Z"⟩, 13), (⟨"FlashPages$Parser", "readSum", "(I)Z"⟩, 13), (⟨"FlashPages$Parser", "readProduct", "(I)Z"⟩, 13), (⟨"FlashPages$Parser", "readPart", "(I)Z"⟩, 13), (⟨"FlashPages$Parser", "readOpening", "(II)Z"⟩, 13), (⟨"FlashPages$Parser", "readPair", "(II)Z"⟩, 13), (⟨"FlashPages$Parser", "readChoice", "(I)Z"⟩, 13), (⟨"FlashPages$Parser", "readTest", "(I)Z"⟩, 13), (⟨"FlashPages$Parser", "readBoth", "(I)Z"⟩, 13), (⟨"FlashPages$Parser", "readFact", "(I)Z"⟩, 13), (⟨"FlashPages$Parser", "readComparison", "(I)Z"⟩, 13), (⟨"FlashPages$Parser", "isValue", "(I)Z"⟩, 13), (⟨"FlashPages$Parser", "readTries", "()Z"⟩, 13), (⟨"FlashPages$Parser", "readSetting", "()Z"⟩, 13), (⟨"FlashPages", "isPage", "(I)Z"⟩, 17), (⟨"FlashPages", "isData", "(II)Z"⟩, 17)]
theorem lw_r2 : ∀ q ∈ lw_privs_2, lw_okq q := List.forall_mem_cons.mpr ⟨lw_p16, List.forall_mem_cons.mpr ⟨lw_p17, List.forall_mem_cons.mpr ⟨lw_p18, List.forall_mem_cons.mpr ⟨lw_p19, List.forall_mem_cons.mpr ⟨lw_p20, List.forall_mem_cons.mpr ⟨lw_p21, List.forall_mem_cons.mpr ⟨lw_p22, List.forall_mem_cons.mpr ⟨lw_p23, List.forall_mem_cons.mpr ⟨lw_p24, List.forall_mem_cons.mpr ⟨lw_p25, List.forall_mem_cons.mpr ⟨lw_p26, List.forall_mem_cons.mpr ⟨lw_p27, List.forall_mem_cons.mpr ⟨lw_p28, List.forall_mem_cons.mpr ⟨lw_p29, List.forall_mem_cons.mpr ⟨lw_p30, List.forall_mem_cons.mpr ⟨lw_p31, fun _ h => absurd h List.not_mem_nil⟩⟩⟩⟩⟩⟩⟩⟩⟩⟩⟩⟩⟩⟩⟩⟩
theorem lw_p32 : lw_okq (⟨"FlashPages$Code", "markMendable", "()V"⟩, 13) := ⟨⟨by decide +kernel, by decide +kernel⟩, List.mem_of_getElem? (i := 278) (by decide +kernel), List.mem_of_getElem? (i := 868) (by decide +kernel), List.mem_of_getElem? (i := 869) (by decide +kernel)⟩
theorem lw_p33 : lw_okq (⟨"FlashPages$Code", "mark", "(II)V"⟩, 13) := ⟨⟨by decide +kernel, by decide +kernel⟩, List.mem_of_getElem? (i := 278) (by decide +kernel), List.mem_of_getElem? (i := 875) (by decide +kernel), List.mem_of_getElem? (i := 876) (by decide +kernel)⟩
theorem lw_p34 : lw_okq (⟨"FlashPages$Code", "thirdOf", "(I)I"⟩, 13) := ⟨⟨by decide +kernel, by decide +kernel⟩, List.mem_of_getElem? (i := 278) (by decide +kernel), List.mem_of_getElem? (i := 879) (by decide +kernel), List.mem_of_getElem? (i := 880) (by decide +kernel)⟩
theorem lw_p35 : lw_okq (⟨"FlashPages$Code", "countMendable", "(I)I"⟩, 13) := ⟨⟨by decide +kernel, by decide +kernel⟩, List.mem_of_getElem? (i := 278) (by decide +kernel), List.mem_of_getElem? (i := 883) (by decide +kernel), List.mem_of_getElem? (i := 884) (by decide +kernel)⟩
theorem lw_p36 : lw_okq (⟨"FlashPages$Code", "marked", "(II)I"⟩, 13) := ⟨⟨by decide +kernel, by decide +kernel⟩, List.mem_of_getElem? (i := 278) (by decide +kernel), List.mem_of_getElem? (i := 887) (by decide +kernel), List.mem_of_getElem? (i := 888) (by decide +kernel)⟩
theorem lw_p37 : lw_okq (⟨"FlashPages", "isWritten", "(I)Z"⟩, 17) := ⟨⟨by decide +kernel, by decide +kernel⟩, List.mem_of_getElem? (i := 23) (by decide +kernel), List.mem_of_getElem? (i := 900) (by decide +kernel), List.mem_of_getElem? (i := 901) (by decide +kernel)⟩
theorem lw_p38 : lw_okq (⟨"FlashPages", "isCell", "(I)Z"⟩, 17) := ⟨⟨by decide +kernel, by decide +kernel⟩, List.mem_of_getElem? (i := 23) (by decide +kernel), List.mem_of_getElem? (i := 904) (by decide +kernel), List.mem_of_getElem? (i := 905) (by decide +kernel)⟩
theorem lw_p39 : lw_okq (⟨"FlashPages", "daysFit", "(I)Z"⟩, 17) := ⟨⟨by decide +kernel, by decide +kernel⟩, List.mem_of_getElem? (i := 23) (by decide +kernel), List.mem_of_getElem? (i := 908) (by decide +kernel), List.mem_of_getElem? (i := 909) (by decide +kernel)⟩
theorem lw_p40 : lw_okq (⟨"FlashPages$Terms", "run", "(LFlashPages$Chip;II)I"⟩, 3) := ⟨⟨by decide +kernel, by decide +kernel⟩, List.mem_of_getElem? (i := 31) (by decide +kernel), List.mem_of_getElem? (i := 926) (by decide +kernel), List.mem_of_getElem? (i := 927) (by decide +kernel)⟩
theorem lw_p41 : lw_okq (⟨"FlashPages$Terms", "push", "(I)V"⟩, 3) := ⟨⟨by decide +kernel, by decide +kernel⟩, List.mem_of_getElem? (i := 31) (by decide +kernel), List.mem_of_getElem? (i := 930) (by decide +kernel), List.mem_of_getElem? (i := 931) (by decide +kernel)⟩
theorem lw_p42 : lw_okq (⟨"FlashPages$Terms", "valueOf", "(I)I"⟩, 3) := ⟨⟨by decide +kernel, by decide +kernel⟩, List.mem_of_getElem? (i := 31) (by decide +kernel), List.mem_of_getElem? (i := 934) (by decide +kernel), List.mem_of_getElem? (i := 935) (by decide +kernel)⟩
theorem lw_p43 : lw_okq (⟨"FlashPages$Terms", "pop", "()I"⟩, 3) := ⟨⟨by decide +kernel, by decide +kernel⟩, List.mem_of_getElem? (i := 31) (by decide +kernel), List.mem_of_getElem? (i := 938) (by decide +kernel), List.mem_of_getElem? (i := 939) (by decide +kernel)⟩
theorem lw_p44 : lw_okq (⟨"FlashPages", "isRead", "(II)Z"⟩, 17) := ⟨⟨by decide +kernel, by decide +kernel⟩, List.mem_of_getElem? (i := 23) (by decide +kernel), List.mem_of_getElem? (i := 970) (by decide +kernel), List.mem_of_getElem? (i := 971) (by decide +kernel)⟩
theorem lw_p45 : lw_okq (⟨"FlashPages", "decode", "(II)V"⟩, 17) := ⟨⟨by decide +kernel, by decide +kernel⟩, List.mem_of_getElem? (i := 23) (by decide +kernel), List.mem_of_getElem? (i := 982) (by decide +kernel), List.mem_of_getElem? (i := 983) (by decide +kernel)⟩
theorem lw_p46 : lw_okq (⟨"FlashPages$Decoder", "findFactors", "(LFlashPages$Code;)V"⟩, 10) := ⟨⟨by decide +kernel, by decide +kernel⟩, List.mem_of_getElem? (i := 48) (by decide +kernel), List.mem_of_getElem? (i := 995) (by decide +kernel), List.mem_of_getElem? (i := 996) (by decide +kernel)⟩
theorem lw_p47 : lw_okq (⟨"FlashPages$Decoder", "gapAt", "(LFlashPages$Code;I)I"⟩, 10) := ⟨⟨by decide +kernel, by decide +kernel⟩, List.mem_of_getElem? (i := 48) (by decide +kernel), List.mem_of_getElem? (i := 1000) (by decide +kernel), List.mem_of_getElem? (i := 1001) (by decide +kernel)⟩
def lw_privs_3 : List (MethodName × Nat) := [(⟨"FlashPages$Code", "markMendable", "()V"⟩, 13), (⟨"FlashPages$Code", "mark", "(II)V"⟩, 13), (⟨"FlashPages$Code", "thirdOf", "(I)I"⟩, 13), (⟨"FlashPages$Code", "countMendable", "(I)I"⟩, 13), (⟨"FlashPages$Code", "marked", "(II)I"⟩, 13), (⟨"FlashPages", "isWritten", "(I)Z"⟩, 17), (⟨"FlashPages", "isCell", "(I)Z"⟩, 17), (⟨"FlashPages", "daysFit", "(I)Z"⟩, 17), (⟨"FlashPages$Terms", "run", "(LFlashPages$Chip;II)I"⟩, 3), (⟨"FlashPages$Terms", "push", "(I)V"⟩, 3), (⟨"FlashPages$Terms", "valueOf", "(I)I"⟩, 3), (⟨"FlashPages$Terms", "pop", "()I"⟩, 3), (⟨"FlashPages", "isRead", "(II)Z"⟩, 17), (⟨"FlashPages", "decode", "(II)V"⟩, 17), (⟨"FlashPages$Decoder", "findFactors", "(LFlashPages$Code;)V"⟩, 10), (⟨"FlashPages$Decoder", "gapAt", "(LFlashPages$Code;I)I"⟩, 10)]
theorem lw_r3 : ∀ q ∈ lw_privs_3, lw_okq q := List.forall_mem_cons.mpr ⟨lw_p32, List.forall_mem_cons.mpr ⟨lw_p33, List.forall_mem_cons.mpr ⟨lw_p34, List.forall_mem_cons.mpr ⟨lw_p35, List.forall_mem_cons.mpr ⟨lw_p36, List.forall_mem_cons.mpr ⟨lw_p37, List.forall_mem_cons.mpr ⟨lw_p38, List.forall_mem_cons.mpr ⟨lw_p39, List.forall_mem_cons.mpr ⟨lw_p40, List.forall_mem_cons.mpr ⟨lw_p41, List.forall_mem_cons.mpr ⟨lw_p42, List.forall_mem_cons.mpr ⟨lw_p43, List.forall_mem_cons.mpr ⟨lw_p44, List.forall_mem_cons.mpr ⟨lw_p45, List.forall_mem_cons.mpr ⟨lw_p46, List.forall_mem_cons.mpr ⟨lw_p47, fun _ h => absurd h List.not_mem_nil⟩⟩⟩⟩⟩⟩⟩⟩⟩⟩⟩⟩⟩⟩⟩⟩
theorem lw_p48 : lw_okq (⟨"FlashPages$Decoder", "correct", "(LFlashPages$Code;II)V"⟩, 10) := ⟨⟨by decide +kernel, by decide +kernel⟩, List.mem_of_getElem? (i := 48) (by decide +kernel), List.mem_of_getElem? (i := 1011) (by decide +kernel), List.mem_of_getElem? (i := 1012) (by decide +kernel)⟩
theorem lw_p49 : lw_okq (⟨"FlashPages$Decoder", "findRoots", "(LFlashPages$Code;)I"⟩, 10) := ⟨⟨by decide +kernel, by decide +kernel⟩, List.mem_of_getElem? (i := 48) (by decide +kernel), List.mem_of_getElem? (i := 1015) (by decide +kernel), List.mem_of_getElem? (i := 1016) (by decide +kernel)⟩
theorem lw_p50 : lw_okq (⟨"FlashPages$Decoder", "isRoot", "(LFlashPages$Code;I)Z"⟩, 10) := ⟨⟨by decide +kernel, by decide +kernel⟩, List.mem_of_getElem? (i := 48) (by decide +kernel), List.mem_of_getElem? (i := 1019) (by decide +kernel), List.mem_of_getElem? (i := 1020) (by decide +kernel)⟩
theorem lw_p51 : lw_okq (⟨"FlashPages$Getter", "mend", "(LFlashPages$Chip;LFlashPages$Row;J)V"⟩, 8) := ⟨⟨by decide +kernel, by decide +kernel⟩, List.mem_of_getElem? (i := 93) (by decide +kernel), List.mem_of_getElem? (i := 1045) (by decide +kernel), List.mem_of_getElem? (i := 1046) (by decide +kernel)⟩
theorem lw_p52 : lw_okq (⟨"FlashPages$Getter", "nextThreshold", "(LFlashPages$Chip;I)I"⟩, 8) := ⟨⟨by decide +kernel, by decide +kernel⟩, List.mem_of_getElem? (i := 93) (by decide +kernel), List.mem_of_getElem? (i := 1055) (by decide +kernel), List.mem_of_getElem? (i := 1056) (by decide +kernel)⟩
theorem lw_p53 : lw_okq (⟨"FlashPages$Shifts", "isLeft", "(I)Z"⟩, 9) := ⟨⟨by decide +kernel, by decide +kernel⟩, List.mem_of_getElem? (i := 218) (by decide +kernel), List.mem_of_getElem? (i := 1115) (by decide +kernel), List.mem_of_getElem? (i := 1116) (by decide +kernel)⟩
theorem lw_p54 : lw_okq (⟨"FlashPages$Shifts", "onesBy", "(II)I"⟩, 9) := ⟨⟨by decide +kernel, by decide +kernel⟩, List.mem_of_getElem? (i := 218) (by decide +kernel), List.mem_of_getElem? (i := 1119) (by decide +kernel), List.mem_of_getElem? (i := 1120) (by decide +kernel)⟩
theorem lw_p55 : lw_okq (⟨"FlashPages$Shifts", "mostLeft", "(I)I"⟩, 9) := ⟨⟨by decide +kernel, by decide +kernel⟩, List.mem_of_getElem? (i := 218) (by decide +kernel), List.mem_of_getElem? (i := 1131) (by decide +kernel), List.mem_of_getElem? (i := 1132) (by decide +kernel)⟩
theorem lw_p56 : lw_okq (⟨"FlashPages", "passDay", "()V"⟩, 17) := ⟨⟨by decide +kernel, by decide +kernel⟩, List.mem_of_getElem? (i := 23) (by decide +kernel), List.mem_of_getElem? (i := 1176) (by decide +kernel), List.mem_of_getElem? (i := 1177) (by decide +kernel)⟩
theorem lw_p57 : lw_okq (⟨"FlashPages", "addNoise", "()I"⟩, 17) := ⟨⟨by decide +kernel, by decide +kernel⟩, List.mem_of_getElem? (i := 23) (by decide +kernel), List.mem_of_getElem? (i := 1184) (by decide +kernel), List.mem_of_getElem? (i := 1185) (by decide +kernel)⟩
theorem lw_p58 : lw_okq (⟨"FlashPages", "draw", "(I)I"⟩, 17) := ⟨⟨by decide +kernel, by decide +kernel⟩, List.mem_of_getElem? (i := 23) (by decide +kernel), List.mem_of_getElem? (i := 1188) (by decide +kernel), List.mem_of_getElem? (i := 1189) (by decide +kernel)⟩
theorem lw_p59 : lw_okq (⟨"FlashPages$Image", "put", "(I)V"⟩, 2) := ⟨⟨by decide +kernel, by decide +kernel⟩, List.mem_of_getElem? (i := 257) (by decide +kernel), List.mem_of_getElem? (i := 1224) (by decide +kernel), List.mem_of_getElem? (i := 1225) (by decide +kernel)⟩
theorem lw_p60 : lw_okq (⟨"FlashPages$Image", "putRow", "(LFlashPages$Row;I)V"⟩, 2) := ⟨⟨by decide +kernel, by decide +kernel⟩, List.mem_of_getElem? (i := 257) (by decide +kernel), List.mem_of_getElem? (i := 1228) (by decide +kernel), List.mem_of_getElem? (i := 1229) (by decide +kernel)⟩
theorem lw_p61 : lw_okq (⟨"FlashPages$Pages", "takesRow", "(LFlashPages$Row;[IILFlashPages$Chip;)Z"⟩, 2) := ⟨⟨by decide +kernel, by decide +kernel⟩, List.mem_of_getElem? (i := 130) (by decide +kernel), List.mem_of_getElem? (i := 1250) (by decide +kernel), List.mem_of_getElem? (i := 1251) (by decide +kernel)⟩
theorem lw_p62 : lw_okq (⟨"FlashPagesModel", "refuses", "(I)I"⟩, 76) := ⟨⟨by decide +kernel, by decide +kernel⟩, List.mem_of_getElem? (i := 1263) (by decide +kernel), List.mem_of_getElem? (i := 1503) (by decide +kernel), List.mem_of_getElem? (i := 1504) (by decide +kernel)⟩
theorem lw_p63 : lw_okq (⟨"FlashPagesModel", "put", "(I)V"⟩, 76) := ⟨⟨by decide +kernel, by decide +kernel⟩, List.mem_of_getElem? (i := 1263) (by decide +kernel), List.mem_of_getElem? (i := 1507) (by decide +kernel), List.mem_of_getElem? (i := 1508) (by decide +kernel)⟩
def lw_privs_4 : List (MethodName × Nat) := [(⟨"FlashPages$Decoder", "correct", "(LFlashPages$Code;II)V"⟩, 10), (⟨"FlashPages$Decoder", "findRoots", "(LFlashPages$Code;)I"⟩, 10), (⟨"FlashPages$Decoder", "isRoot", "(LFlashPages$Code;I)Z"⟩, 10), (⟨"FlashPages$Getter", "mend", "(LFlashPages$Chip;LFlashPages$Row;J)V"⟩, 8), (⟨"FlashPages$Getter", "nextThreshold", "(LFlashPages$Chip;I)I"⟩, 8), (⟨"FlashPages$Shifts", "isLeft", "(I)Z"⟩, 9), (⟨"FlashPages$Shifts", "onesBy", "(II)I"⟩, 9), (⟨"FlashPages$Shifts", "mostLeft", "(I)I"⟩, 9), (⟨"FlashPages", "passDay", "()V"⟩, 17), (⟨"FlashPages", "addNoise", "()I"⟩, 17), (⟨"FlashPages", "draw", "(I)I"⟩, 17), (⟨"FlashPages$Image", "put", "(I)V"⟩, 2), (⟨"FlashPages$Image", "putRow", "(LFlashPages$Row;I)V"⟩, 2), (⟨"FlashPages$Pages", "takesRow", "(LFlashPages$Row;[IILFlashPages$Chip;)Z"⟩, 2), (⟨"FlashPagesModel", "refuses", "(I)I"⟩, 76), (⟨"FlashPagesModel", "put", "(I)V"⟩, 76)]
theorem lw_r4 : ∀ q ∈ lw_privs_4, lw_okq q := List.forall_mem_cons.mpr ⟨lw_p48, List.forall_mem_cons.mpr ⟨lw_p49, List.forall_mem_cons.mpr ⟨lw_p50, List.forall_mem_cons.mpr ⟨lw_p51, List.forall_mem_cons.mpr ⟨lw_p52, List.forall_mem_cons.mpr ⟨lw_p53, List.forall_mem_cons.mpr ⟨lw_p54, List.forall_mem_cons.mpr ⟨lw_p55, List.forall_mem_cons.mpr ⟨lw_p56, List.forall_mem_cons.mpr ⟨lw_p57, List.forall_mem_cons.mpr ⟨lw_p58, List.forall_mem_cons.mpr ⟨lw_p59, List.forall_mem_cons.mpr ⟨lw_p60, List.forall_mem_cons.mpr ⟨lw_p61, List.forall_mem_cons.mpr ⟨lw_p62, List.forall_mem_cons.mpr ⟨lw_p63, fun _ h => absurd h List.not_mem_nil⟩⟩⟩⟩⟩⟩⟩⟩⟩⟩⟩⟩⟩⟩⟩⟩
theorem lw_p64 : lw_okq (⟨"FlashPagesModel", "tellsAt", "(II)V"⟩, 76) := ⟨⟨by decide +kernel, by decide +kernel⟩, List.mem_of_getElem? (i := 1263) (by decide +kernel), List.mem_of_getElem? (i := 1519) (by decide +kernel), List.mem_of_getElem? (i := 1520) (by decide +kernel)⟩
theorem lw_p65 : lw_okq (⟨"FlashPagesModel", "ahead", "()V"⟩, 76) := ⟨⟨by decide +kernel, by decide +kernel⟩, List.mem_of_getElem? (i := 1263) (by decide +kernel), List.mem_of_getElem? (i := 1523) (by decide +kernel), List.mem_of_getElem? (i := 1524) (by decide +kernel)⟩
theorem lw_p66 : lw_okq (⟨"FlashPagesModel", "chipIs", "()V"⟩, 76) := ⟨⟨by decide +kernel, by decide +kernel⟩, List.mem_of_getElem? (i := 1263) (by decide +kernel), List.mem_of_getElem? (i := 1533) (by decide +kernel), List.mem_of_getElem? (i := 1534) (by decide +kernel)⟩
theorem lw_p67 : lw_okq (⟨"FlashPagesModel", "mustWord", "(J)V"⟩, 76) := ⟨⟨by decide +kernel, by decide +kernel⟩, List.mem_of_getElem? (i := 1263) (by decide +kernel), List.mem_of_getElem? (i := 1538) (by decide +kernel), List.mem_of_getElem? (i := 1539) (by decide +kernel)⟩
theorem lw_p68 : lw_okq (⟨"FlashPagesModel", "lex", "()V"⟩, 76) := ⟨⟨by decide +kernel, by decide +kernel⟩, List.mem_of_getElem? (i := 1263) (by decide +kernel), List.mem_of_getElem? (i := 1542) (by decide +kernel), List.mem_of_getElem? (i := 1543) (by decide +kernel)⟩
theorem lw_p69 : lw_okq (⟨"FlashPagesModel", "blame", "(II)V"⟩, 76) := ⟨⟨by decide +kernel, by decide +kernel⟩, List.mem_of_getElem? (i := 1263) (by decide +kernel), List.mem_of_getElem? (i := 1546) (by decide +kernel), List.mem_of_getElem? (i := 1547) (by decide +kernel)⟩
theorem lw_p70 : lw_okq (⟨"FlashPagesModel", "isWord", "(J)Z"⟩, 76) := ⟨⟨by decide +kernel, by decide +kernel⟩, List.mem_of_getElem? (i := 1263) (by decide +kernel), List.mem_of_getElem? (i := 1550) (by decide +kernel), List.mem_of_getElem? (i := 1551) (by decide +kernel)⟩
theorem lw_p71 : lw_okq (⟨"FlashPagesModel", "number", "(II)I"⟩, 76) := ⟨⟨by decide +kernel, by decide +kernel⟩, List.mem_of_getElem? (i := 1263) (by decide +kernel), List.mem_of_getElem? (i := 1554) (by decide +kernel), List.mem_of_getElem? (i := 1555) (by decide +kernel)⟩
theorem lw_p72 : lw_okq (⟨"FlashPagesModel", "rootsFor", "(II)I"⟩, 76) := ⟨⟨by decide +kernel, by decide +kernel⟩, List.mem_of_getElem? (i := 1263) (by decide +kernel), List.mem_of_getElem? (i := 1569) (by decide +kernel), List.mem_of_getElem? (i := 1570) (by decide +kernel)⟩
theorem lw_p73 : lw_okq (⟨"FlashPagesModel", "finishes", "(I)V"⟩, 76) := ⟨⟨by decide +kernel, by decide +kernel⟩, List.mem_of_getElem? (i := 1263) (by decide +kernel), List.mem_of_getElem? (i := 1574) (by decide +kernel), List.mem_of_getElem? (i := 1575) (by decide +kernel)⟩
theorem lw_p74 : lw_okq (⟨"FlashPagesModel", "isSign", "(I)Z"⟩, 76) := ⟨⟨by decide +kernel, by decide +kernel⟩, List.mem_of_getElem? (i := 1263) (by decide +kernel), List.mem_of_getElem? (i := 1578) (by decide +kernel), List.mem_of_getElem? (i := 1579) (by decide +kernel)⟩
theorem lw_p75 : lw_okq (⟨"FlashPagesModel", "must", "(I)V"⟩, 76) := ⟨⟨by decide +kernel, by decide +kernel⟩, List.mem_of_getElem? (i := 1263) (by decide +kernel), List.mem_of_getElem? (i := 1582) (by decide +kernel), List.mem_of_getElem? (i := 1583) (by decide +kernel)⟩
theorem lw_p76 : lw_okq (⟨"FlashPagesModel", "statement", "()V"⟩, 76) := ⟨⟨by decide +kernel, by decide +kernel⟩, List.mem_of_getElem? (i := 1263) (by decide +kernel), List.mem_of_getElem? (i := 1586) (by decide +kernel), List.mem_of_getElem? (i := 1587) (by decide +kernel)⟩
theorem lw_p77 : lw_okq (⟨"FlashPagesModel", "pageIs", "()V"⟩, 76) := ⟨⟨by decide +kernel, by decide +kernel⟩, List.mem_of_getElem? (i := 1263) (by decide +kernel), List.mem_of_getElem? (i := 1591) (by decide +kernel), List.mem_of_getElem? (i := 1592) (by decide +kernel)⟩
theorem lw_p78 : lw_okq (⟨"FlashPagesModel", "isCounted", "(Z)Z"⟩, 76) := ⟨⟨by decide +kernel, by decide +kernel⟩, List.mem_of_getElem? (i := 1263) (by decide +kernel), List.mem_of_getElem? (i := 1595) (by decide +kernel), List.mem_of_getElem? (i := 1596) (by decide +kernel)⟩
theorem lw_p79 : lw_okq (⟨"FlashPagesModel", "isOwn", "(J)Z"⟩, 76) := ⟨⟨by decide +kernel, by decide +kernel⟩, List.mem_of_getElem? (i := 1263) (by decide +kernel), List.mem_of_getElem? (i := 1599) (by decide +kernel), List.mem_of_getElem? (i := 1600) (by decide +kernel)⟩
def lw_privs_5 : List (MethodName × Nat) := [(⟨"FlashPagesModel", "tellsAt", "(II)V"⟩, 76), (⟨"FlashPagesModel", "ahead", "()V"⟩, 76), (⟨"FlashPagesModel", "chipIs", "()V"⟩, 76), (⟨"FlashPagesModel", "mustWord", "(J)V"⟩, 76), (⟨"FlashPagesModel", "lex", "()V"⟩, 76), (⟨"FlashPagesModel", "blame", "(II)V"⟩, 76), (⟨"FlashPagesModel", "isWord", "(J)Z"⟩, 76), (⟨"FlashPagesModel", "number", "(II)I"⟩, 76), (⟨"FlashPagesModel", "rootsFor", "(II)I"⟩, 76), (⟨"FlashPagesModel", "finishes", "(I)V"⟩, 76), (⟨"FlashPagesModel", "isSign", "(I)Z"⟩, 76), (⟨"FlashPagesModel", "must", "(I)V"⟩, 76), (⟨"FlashPagesModel", "statement", "()V"⟩, 76), (⟨"FlashPagesModel", "pageIs", "()V"⟩, 76), (⟨"FlashPagesModel", "isCounted", "(Z)Z"⟩, 76), (⟨"FlashPagesModel", "isOwn", "(J)Z"⟩, 76)]
theorem lw_r5 : ∀ q ∈ lw_privs_5, lw_okq q := List.forall_mem_cons.mpr ⟨lw_p64, List.forall_mem_cons.mpr ⟨lw_p65, List.forall_mem_cons.mpr ⟨lw_p66, List.forall_mem_cons.mpr ⟨lw_p67, List.forall_mem_cons.mpr ⟨lw_p68, List.forall_mem_cons.mpr ⟨lw_p69, List.forall_mem_cons.mpr ⟨lw_p70, List.forall_mem_cons.mpr ⟨lw_p71, List.forall_mem_cons.mpr ⟨lw_p72, List.forall_mem_cons.mpr ⟨lw_p73, List.forall_mem_cons.mpr ⟨lw_p74, List.forall_mem_cons.mpr ⟨lw_p75, List.forall_mem_cons.mpr ⟨lw_p76, List.forall_mem_cons.mpr ⟨lw_p77, List.forall_mem_cons.mpr ⟨lw_p78, List.forall_mem_cons.mpr ⟨lw_p79, fun _ h => absurd h List.not_mem_nil⟩⟩⟩⟩⟩⟩⟩⟩⟩⟩⟩⟩⟩⟩⟩⟩
theorem lw_p80 : lw_okq (⟨"FlashPagesModel", "pageNamed", "(J)I"⟩, 76) := ⟨⟨by decide +kernel, by decide +kernel⟩, List.mem_of_getElem? (i := 1263) (by decide +kernel), List.mem_of_getElem? (i := 1625) (by decide +kernel), List.mem_of_getElem? (i := 1626) (by decide +kernel)⟩
theorem lw_p81 : lw_okq (⟨"FlashPagesModel", "telling", "(III)V"⟩, 76) := ⟨⟨by decide +kernel, by decide +kernel⟩, List.mem_of_getElem? (i := 1263) (by decide +kernel), List.mem_of_getElem? (i := 1629) (by decide +kernel), List.mem_of_getElem? (i := 1630) (by decide +kernel)⟩
theorem lw_p82 : lw_okq (⟨"FlashPagesModel", "reading", "(I)V"⟩, 76) := ⟨⟨by decide +kernel, by decide +kernel⟩, List.mem_of_getElem? (i := 1263) (by decide +kernel), List.mem_of_getElem? (i := 1633) (by decide +kernel), List.mem_of_getElem? (i := 1634) (by decide +kernel)⟩
theorem lw_p83 : lw_okq (⟨"FlashPagesModel", "reads", "(Z)V"⟩, 76) := ⟨⟨by decide +kernel, by decide +kernel⟩, List.mem_of_getElem? (i := 1263) (by decide +kernel), List.mem_of_getElem? (i := 1637) (by decide +kernel), List.mem_of_getElem? (i := 1638) (by decide +kernel)⟩
theorem lw_p84 : lw_okq (⟨"FlashPagesModel", "pushes", "(I)V"⟩, 76) := ⟨⟨by decide +kernel, by decide +kernel⟩, List.mem_of_getElem? (i := 1263) (by decide +kernel), List.mem_of_getElem? (i := 1641) (by decide +kernel), List.mem_of_getElem? (i := 1642) (by decide +kernel)⟩
theorem lw_p85 : lw_okq (⟨"FlashPagesModel", "operand", "()Z"⟩, 76) := ⟨⟨by decide +kernel, by decide +kernel⟩, List.mem_of_getElem? (i := 1263) (by decide +kernel), List.mem_of_getElem? (i := 1645) (by decide +kernel), List.mem_of_getElem? (i := 1646) (by decide +kernel)⟩
theorem lw_p86 : lw_okq (⟨"FlashPagesModel", "holdsBack", "(I)V"⟩, 76) := ⟨⟨by decide +kernel, by decide +kernel⟩, List.mem_of_getElem? (i := 1263) (by decide +kernel), List.mem_of_getElem? (i := 1652) (by decide +kernel), List.mem_of_getElem? (i := 1653) (by decide +kernel)⟩
theorem lw_p87 : lw_okq (⟨"FlashPagesModel", "opens", "(I)V"⟩, 76) := ⟨⟨by decide +kernel, by decide +kernel⟩, List.mem_of_getElem? (i := 1263) (by decide +kernel), List.mem_of_getElem? (i := 1656) (by decide +kernel), List.mem_of_getElem? (i := 1657) (by decide +kernel)⟩
theorem lw_p88 : lw_okq (⟨"FlashPagesModel", "add", "(II)V"⟩, 76) := ⟨⟨by decide +kernel, by decide +kernel⟩, List.mem_of_getElem? (i := 1263) (by decide +kernel), List.mem_of_getElem? (i := 1660) (by decide +kernel), List.mem_of_getElem? (i := 1661) (by decide +kernel)⟩
theorem lw_p89 : lw_okq (⟨"FlashPagesModel", "goesOn", "()Z"⟩, 76) := ⟨⟨by decide +kernel, by decide +kernel⟩, List.mem_of_getElem? (i := 1263) (by decide +kernel), List.mem_of_getElem? (i := 1664) (by decide +kernel), List.mem_of_getElem? (i := 1665) (by decide +kernel)⟩
theorem lw_p90 : lw_okq (⟨"FlashPagesModel", "joins", "(I)V"⟩, 76) := ⟨⟨by decide +kernel, by decide +kernel⟩, List.mem_of_getElem? (i := 1263) (by decide +kernel), List.mem_of_getElem? (i := 1668) (by decide +kernel), List.mem_of_getElem? (i := 1669) (by decide +kernel)⟩
theorem lw_p91 : lw_okq (⟨"FlashPagesModel", "lays", "()V"⟩, 76) := ⟨⟨by decide +kernel, by decide +kernel⟩, List.mem_of_getElem? (i := 1263) (by decide +kernel), List.mem_of_getElem? (i := 1675) (by decide +kernel), List.mem_of_getElem? (i := 1676) (by decide +kernel)⟩
theorem lw_p92 : lw_okq (⟨"FlashPagesModel", "by", "(I)I"⟩, 76) := ⟨⟨by decide +kernel, by decide +kernel⟩, List.mem_of_getElem? (i := 1263) (by decide +kernel), List.mem_of_getElem? (i := 1679) (by decide +kernel), List.mem_of_getElem? (i := 1680) (by decide +kernel)⟩
theorem lw_p93 : lw_okq (⟨"FlashPagesModel", "multiplies", "(II)V"⟩, 76) := ⟨⟨by decide +kernel, by decide +kernel⟩, List.mem_of_getElem? (i := 1263) (by decide +kernel), List.mem_of_getElem? (i := 1683) (by decide +kernel), List.mem_of_getElem? (i := 1684) (by decide +kernel)⟩
theorem lw_p94 : lw_okq (⟨"FlashPagesModel", "times", "(II)I"⟩, 76) := ⟨⟨by decide +kernel, by decide +kernel⟩, List.mem_of_getElem? (i := 1263) (by decide +kernel), List.mem_of_getElem? (i := 1687) (by decide +kernel), List.mem_of_getElem? (i := 1688) (by decide +kernel)⟩
theorem lw_p95 : lw_okq (⟨"FlashPagesModel", "twoElements", "(I)J"⟩, 76) := ⟨⟨by decide +kernel, by decide +kernel⟩, List.mem_of_getElem? (i := 1263) (by decide +kernel), List.mem_of_getElem? (i := 1691) (by decide +kernel), List.mem_of_getElem? (i := 1692) (by decide +kernel)⟩
def lw_privs_6 : List (MethodName × Nat) := [(⟨"FlashPagesModel", "pageNamed", "(J)I"⟩, 76), (⟨"FlashPagesModel", "telling", "(III)V"⟩, 76), (⟨"FlashPagesModel", "reading", "(I)V"⟩, 76), (⟨"FlashPagesModel", "reads", "(Z)V"⟩, 76), (⟨"FlashPagesModel", "pushes", "(I)V"⟩, 76), (⟨"FlashPagesModel", "operand", "()Z"⟩, 76), (⟨"FlashPagesModel", "holdsBack", "(I)V"⟩, 76), (⟨"FlashPagesModel", "opens", "(I)V"⟩, 76), (⟨"FlashPagesModel", "add", "(II)V"⟩, 76), (⟨"FlashPagesModel", "goesOn", "()Z"⟩, 76), (⟨"FlashPagesModel", "joins", "(I)V"⟩, 76), (⟨"FlashPagesModel", "lays", "()V"⟩, 76), (⟨"FlashPagesModel", "by", "(I)I"⟩, 76), (⟨"FlashPagesModel", "multiplies", "(II)V"⟩, 76), (⟨"FlashPagesModel", "times", "(II)I"⟩, 76), (⟨"FlashPagesModel", "twoElements", "(I)J"⟩, 76)]
theorem lw_r6 : ∀ q ∈ lw_privs_6, lw_okq q := List.forall_mem_cons.mpr ⟨lw_p80, List.forall_mem_cons.mpr ⟨lw_p81, List.forall_mem_cons.mpr ⟨lw_p82, List.forall_mem_cons.mpr ⟨lw_p83, List.forall_mem_cons.mpr ⟨lw_p84, List.forall_mem_cons.mpr ⟨lw_p85, List.forall_mem_cons.mpr ⟨lw_p86, List.forall_mem_cons.mpr ⟨lw_p87, List.forall_mem_cons.mpr ⟨lw_p88, List.forall_mem_cons.mpr ⟨lw_p89, List.forall_mem_cons.mpr ⟨lw_p90, List.forall_mem_cons.mpr ⟨lw_p91, List.forall_mem_cons.mpr ⟨lw_p92, List.forall_mem_cons.mpr ⟨lw_p93, List.forall_mem_cons.mpr ⟨lw_p94, List.forall_mem_cons.mpr ⟨lw_p95, fun _ h => absurd h List.not_mem_nil⟩⟩⟩⟩⟩⟩⟩⟩⟩⟩⟩⟩⟩⟩⟩⟩
theorem lw_p96 : lw_okq (⟨"FlashPagesModel", "begin", "()V"⟩, 76) := ⟨⟨by decide +kernel, by decide +kernel⟩, List.mem_of_getElem? (i := 1263) (by decide +kernel), List.mem_of_getElem? (i := 1695) (by decide +kernel), List.mem_of_getElem? (i := 1696) (by decide +kernel)⟩
theorem lw_p97 : lw_okq (⟨"FlashPagesModel", "minimal", "(I)I"⟩, 76) := ⟨⟨by decide +kernel, by decide +kernel⟩, List.mem_of_getElem? (i := 1263) (by decide +kernel), List.mem_of_getElem? (i := 1711) (by decide +kernel), List.mem_of_getElem? (i := 1712) (by decide +kernel)⟩
theorem lw_p98 : lw_okq (⟨"FlashPagesModel", "isData", "(II)Z"⟩, 76) := ⟨⟨by decide +kernel, by decide +kernel⟩, List.mem_of_getElem? (i := 1263) (by decide +kernel), List.mem_of_getElem? (i := 1723) (by decide +kernel), List.mem_of_getElem? (i := 1724) (by decide +kernel)⟩
theorem lw_p99 : lw_okq (⟨"FlashPagesModel", "wordOf", "(J)J"⟩, 76) := ⟨⟨by decide +kernel, by decide +kernel⟩, List.mem_of_getElem? (i := 1263) (by decide +kernel), List.mem_of_getElem? (i := 1728) (by decide +kernel), List.mem_of_getElem? (i := 1729) (by decide +kernel)⟩
theorem lw_p100 : lw_okq (⟨"FlashPagesModel", "left", "(J)J"⟩, 76) := ⟨⟨by decide +kernel, by decide +kernel⟩, List.mem_of_getElem? (i := 1263) (by decide +kernel), List.mem_of_getElem? (i := 1732) (by decide +kernel), List.mem_of_getElem? (i := 1733) (by decide +kernel)⟩
theorem lw_p101 : lw_okq (⟨"FlashPagesModel", "counts", "(J)V"⟩, 76) := ⟨⟨by decide +kernel, by decide +kernel⟩, List.mem_of_getElem? (i := 1263) (by decide +kernel), List.mem_of_getElem? (i := 1747) (by decide +kernel), List.mem_of_getElem? (i := 1748) (by decide +kernel)⟩
theorem lw_p102 : lw_okq (⟨"FlashPagesModel", "readsBits", "(J)I"⟩, 76) := ⟨⟨by decide +kernel, by decide +kernel⟩, List.mem_of_getElem? (i := 1263) (by decide +kernel), List.mem_of_getElem? (i := 1751) (by decide +kernel), List.mem_of_getElem? (i := 1752) (by decide +kernel)⟩
theorem lw_p103 : lw_okq (⟨"FlashPagesModel", "syndromesOf", "(J)V"⟩, 76) := ⟨⟨by decide +kernel, by decide +kernel⟩, List.mem_of_getElem? (i := 1263) (by decide +kernel), List.mem_of_getElem? (i := 1755) (by decide +kernel), List.mem_of_getElem? (i := 1756) (by decide +kernel)⟩
theorem lw_p104 : lw_okq (⟨"FlashPagesModel", "locates", "()V"⟩, 76) := ⟨⟨by decide +kernel, by decide +kernel⟩, List.mem_of_getElem? (i := 1263) (by decide +kernel), List.mem_of_getElem? (i := 1759) (by decide +kernel), List.mem_of_getElem? (i := 1760) (by decide +kernel)⟩
theorem lw_p105 : lw_okq (⟨"FlashPagesModel", "missing", "(I)I"⟩, 76) := ⟨⟨by decide +kernel, by decide +kernel⟩, List.mem_of_getElem? (i := 1263) (by decide +kernel), List.mem_of_getElem? (i := 1763) (by decide +kernel), List.mem_of_getElem? (i := 1764) (by decide +kernel)⟩
theorem lw_p106 : lw_okq (⟨"FlashPagesModel", "inverse", "(I)I"⟩, 76) := ⟨⟨by decide +kernel, by decide +kernel⟩, List.mem_of_getElem? (i := 1263) (by decide +kernel), List.mem_of_getElem? (i := 1767) (by decide +kernel), List.mem_of_getElem? (i := 1768) (by decide +kernel)⟩
theorem lw_p107 : lw_okq (⟨"FlashPagesModel", "isRootAt", "(I)Z"⟩, 76) := ⟨⟨by decide +kernel, by decide +kernel⟩, List.mem_of_getElem? (i := 1263) (by decide +kernel), List.mem_of_getElem? (i := 1771) (by decide +kernel), List.mem_of_getElem? (i := 1772) (by decide +kernel)⟩
theorem lw_p108 : lw_okq (⟨"FlashPagesModel", "slot", "(I)I"⟩, 76) := ⟨⟨by decide +kernel, by decide +kernel⟩, List.mem_of_getElem? (i := 1263) (by decide +kernel), List.mem_of_getElem? (i := 1779) (by decide +kernel), List.mem_of_getElem? (i := 1780) (by decide +kernel)⟩
theorem lw_p109 : lw_okq (⟨"FlashPagesModel", "copies", "(II)V"⟩, 76) := ⟨⟨by decide +kernel, by decide +kernel⟩, List.mem_of_getElem? (i := 1263) (by decide +kernel), List.mem_of_getElem? (i := 1783) (by decide +kernel), List.mem_of_getElem? (i := 1784) (by decide +kernel)⟩
theorem lw_p110 : lw_okq (⟨"FlashPagesModel", "isPage", "(I)Z"⟩, 76) := ⟨⟨by decide +kernel, by decide +kernel⟩, List.mem_of_getElem? (i := 1263) (by decide +kernel), List.mem_of_getElem? (i := 1795) (by decide +kernel), List.mem_of_getElem? (i := 1796) (by decide +kernel)⟩
theorem lw_p111 : lw_okq (⟨"FlashPagesModel", "wantedOf", "(II)I"⟩, 76) := ⟨⟨by decide +kernel, by decide +kernel⟩, List.mem_of_getElem? (i := 1263) (by decide +kernel), List.mem_of_getElem? (i := 1804) (by decide +kernel), List.mem_of_getElem? (i := 1805) (by decide +kernel)⟩
def lw_privs_7 : List (MethodName × Nat) := [(⟨"FlashPagesModel", "begin", "()V"⟩, 76), (⟨"FlashPagesModel", "minimal", "(I)I"⟩, 76), (⟨"FlashPagesModel", "isData", "(II)Z"⟩, 76), (⟨"FlashPagesModel", "wordOf", "(J)J"⟩, 76), (⟨"FlashPagesModel", "left", "(J)J"⟩, 76), (⟨"FlashPagesModel", "counts", "(J)V"⟩, 76), (⟨"FlashPagesModel", "readsBits", "(J)I"⟩, 76), (⟨"FlashPagesModel", "syndromesOf", "(J)V"⟩, 76), (⟨"FlashPagesModel", "locates", "()V"⟩, 76), (⟨"FlashPagesModel", "missing", "(I)I"⟩, 76), (⟨"FlashPagesModel", "inverse", "(I)I"⟩, 76), (⟨"FlashPagesModel", "isRootAt", "(I)Z"⟩, 76), (⟨"FlashPagesModel", "slot", "(I)I"⟩, 76), (⟨"FlashPagesModel", "copies", "(II)V"⟩, 76), (⟨"FlashPagesModel", "isPage", "(I)Z"⟩, 76), (⟨"FlashPagesModel", "wantedOf", "(II)I"⟩, 76)]
theorem lw_r7 : ∀ q ∈ lw_privs_7, lw_okq q := List.forall_mem_cons.mpr ⟨lw_p96, List.forall_mem_cons.mpr ⟨lw_p97, List.forall_mem_cons.mpr ⟨lw_p98, List.forall_mem_cons.mpr ⟨lw_p99, List.forall_mem_cons.mpr ⟨lw_p100, List.forall_mem_cons.mpr ⟨lw_p101, List.forall_mem_cons.mpr ⟨lw_p102, List.forall_mem_cons.mpr ⟨lw_p103, List.forall_mem_cons.mpr ⟨lw_p104, List.forall_mem_cons.mpr ⟨lw_p105, List.forall_mem_cons.mpr ⟨lw_p106, List.forall_mem_cons.mpr ⟨lw_p107, List.forall_mem_cons.mpr ⟨lw_p108, List.forall_mem_cons.mpr ⟨lw_p109, List.forall_mem_cons.mpr ⟨lw_p110, List.forall_mem_cons.mpr ⟨lw_p111, fun _ h => absurd h List.not_mem_nil⟩⟩⟩⟩⟩⟩⟩⟩⟩⟩⟩⟩⟩⟩⟩⟩
theorem lw_p112 : lw_okq (⟨"FlashPagesModel", "isThere", "(I)Z"⟩, 76) := ⟨⟨by decide +kernel, by decide +kernel⟩, List.mem_of_getElem? (i := 1263) (by decide +kernel), List.mem_of_getElem? (i := 1812) (by decide +kernel), List.mem_of_getElem? (i := 1813) (by decide +kernel)⟩
theorem lw_p113 : lw_okq (⟨"FlashPagesModel", "isAhead", "(III)Z"⟩, 76) := ⟨⟨by decide +kernel, by decide +kernel⟩, List.mem_of_getElem? (i := 1263) (by decide +kernel), List.mem_of_getElem? (i := 1816) (by decide +kernel), List.mem_of_getElem? (i := 1817) (by decide +kernel)⟩
theorem lw_p114 : lw_okq (⟨"FlashPagesModel", "passes", "(I)V"⟩, 76) := ⟨⟨by decide +kernel, by decide +kernel⟩, List.mem_of_getElem? (i := 1263) (by decide +kernel), List.mem_of_getElem? (i := 1820) (by decide +kernel), List.mem_of_getElem? (i := 1821) (by decide +kernel)⟩
theorem lw_p115 : lw_okq (⟨"FlashPagesModel", "drifts", "(II)V"⟩, 76) := ⟨⟨by decide +kernel, by decide +kernel⟩, List.mem_of_getElem? (i := 1263) (by decide +kernel), List.mem_of_getElem? (i := 1824) (by decide +kernel), List.mem_of_getElem? (i := 1825) (by decide +kernel)⟩
theorem lw_p116 : lw_okq (⟨"FlashPagesModel", "isTold", "(I)Z"⟩, 76) := ⟨⟨by decide +kernel, by decide +kernel⟩, List.mem_of_getElem? (i := 1263) (by decide +kernel), List.mem_of_getElem? (i := 1828) (by decide +kernel), List.mem_of_getElem? (i := 1829) (by decide +kernel)⟩
theorem lw_p117 : lw_okq (⟨"FlashPagesModel", "levelAt", "(III)I"⟩, 76) := ⟨⟨by decide +kernel, by decide +kernel⟩, List.mem_of_getElem? (i := 1263) (by decide +kernel), List.mem_of_getElem? (i := 1832) (by decide +kernel), List.mem_of_getElem? (i := 1833) (by decide +kernel)⟩
theorem lw_p118 : lw_okq (⟨"FlashPagesModel", "reckons", "(I)J"⟩, 76) := ⟨⟨by decide +kernel, by decide +kernel⟩, List.mem_of_getElem? (i := 1263) (by decide +kernel), List.mem_of_getElem? (i := 1836) (by decide +kernel), List.mem_of_getElem? (i := 1837) (by decide +kernel)⟩
theorem lw_p119 : lw_okq (⟨"FlashPagesModel", "puts", "(IIII)V"⟩, 76) := ⟨⟨by decide +kernel, by decide +kernel⟩, List.mem_of_getElem? (i := 1263) (by decide +kernel), List.mem_of_getElem? (i := 1852) (by decide +kernel), List.mem_of_getElem? (i := 1853) (by decide +kernel)⟩
theorem lw_p120 : lw_okq (⟨"FlashPagesModel", "isRead", "(II)Z"⟩, 76) := ⟨⟨by decide +kernel, by decide +kernel⟩, List.mem_of_getElem? (i := 1263) (by decide +kernel), List.mem_of_getElem? (i := 1860) (by decide +kernel), List.mem_of_getElem? (i := 1861) (by decide +kernel)⟩
theorem lw_p121 : lw_okq (⟨"FlashPagesModel", "bitsBy", "(IIII)J"⟩, 76) := ⟨⟨by decide +kernel, by decide +kernel⟩, List.mem_of_getElem? (i := 1263) (by decide +kernel), List.mem_of_getElem? (i := 1864) (by decide +kernel), List.mem_of_getElem? (i := 1865) (by decide +kernel)⟩
theorem lw_p122 : lw_okq (⟨"FlashPagesModel", "gets", "(II)I"⟩, 76) := ⟨⟨by decide +kernel, by decide +kernel⟩, List.mem_of_getElem? (i := 1263) (by decide +kernel), List.mem_of_getElem? (i := 1888) (by decide +kernel), List.mem_of_getElem? (i := 1889) (by decide +kernel)⟩
theorem lw_p123 : lw_okq (⟨"FlashPagesModel", "isTriedAgain", "(III)Z"⟩, 76) := ⟨⟨by decide +kernel, by decide +kernel⟩, List.mem_of_getElem? (i := 1263) (by decide +kernel), List.mem_of_getElem? (i := 1892) (by decide +kernel), List.mem_of_getElem? (i := 1893) (by decide +kernel)⟩
theorem lw_p124 : lw_okq (⟨"FlashPagesModel", "isTrue", "(II)Z"⟩, 76) := ⟨⟨by decide +kernel, by decide +kernel⟩, List.mem_of_getElem? (i := 1263) (by decide +kernel), List.mem_of_getElem? (i := 1905) (by decide +kernel), List.mem_of_getElem? (i := 1906) (by decide +kernel)⟩
theorem lw_p125 : lw_okq (⟨"FlashPagesModel", "leaves", "(I)I"⟩, 76) := ⟨⟨by decide +kernel, by decide +kernel⟩, List.mem_of_getElem? (i := 1263) (by decide +kernel), List.mem_of_getElem? (i := 1921) (by decide +kernel), List.mem_of_getElem? (i := 1922) (by decide +kernel)⟩
theorem lw_p126 : lw_okq (⟨"FlashPagesModel", "mostBy", "(II)I"⟩, 76) := ⟨⟨by decide +kernel, by decide +kernel⟩, List.mem_of_getElem? (i := 1263) (by decide +kernel), List.mem_of_getElem? (i := 1930) (by decide +kernel), List.mem_of_getElem? (i := 1931) (by decide +kernel)⟩
theorem lw_p127 : lw_okq (⟨"FlashPagesModel", "keeps", "()V"⟩, 76) := ⟨⟨by decide +kernel, by decide +kernel⟩, List.mem_of_getElem? (i := 1263) (by decide +kernel), List.mem_of_getElem? (i := 1938) (by decide +kernel), List.mem_of_getElem? (i := 1939) (by decide +kernel)⟩
def lw_privs_8 : List (MethodName × Nat) := [(⟨"FlashPagesModel", "isThere", "(I)Z"⟩, 76), (⟨"FlashPagesModel", "isAhead", "(III)Z"⟩, 76), (⟨"FlashPagesModel", "passes", "(I)V"⟩, 76), (⟨"FlashPagesModel", "drifts", "(II)V"⟩, 76), (⟨"FlashPagesModel", "isTold", "(I)Z"⟩, 76), (⟨"FlashPagesModel", "levelAt", "(III)I"⟩, 76), (⟨"FlashPagesModel", "reckons", "(I)J"⟩, 76), (⟨"FlashPagesModel", "puts", "(IIII)V"⟩, 76), (⟨"FlashPagesModel", "isRead", "(II)Z"⟩, 76), (⟨"FlashPagesModel", "bitsBy", "(IIII)J"⟩, 76), (⟨"FlashPagesModel", "gets", "(II)I"⟩, 76), (⟨"FlashPagesModel", "isTriedAgain", "(III)Z"⟩, 76), (⟨"FlashPagesModel", "isTrue", "(II)Z"⟩, 76), (⟨"FlashPagesModel", "leaves", "(I)I"⟩, 76), (⟨"FlashPagesModel", "mostBy", "(II)I"⟩, 76), (⟨"FlashPagesModel", "keeps", "()V"⟩, 76)]
theorem lw_r8 : ∀ q ∈ lw_privs_8, lw_okq q := List.forall_mem_cons.mpr ⟨lw_p112, List.forall_mem_cons.mpr ⟨lw_p113, List.forall_mem_cons.mpr ⟨lw_p114, List.forall_mem_cons.mpr ⟨lw_p115, List.forall_mem_cons.mpr ⟨lw_p116, List.forall_mem_cons.mpr ⟨lw_p117, List.forall_mem_cons.mpr ⟨lw_p118, List.forall_mem_cons.mpr ⟨lw_p119, List.forall_mem_cons.mpr ⟨lw_p120, List.forall_mem_cons.mpr ⟨lw_p121, List.forall_mem_cons.mpr ⟨lw_p122, List.forall_mem_cons.mpr ⟨lw_p123, List.forall_mem_cons.mpr ⟨lw_p124, List.forall_mem_cons.mpr ⟨lw_p125, List.forall_mem_cons.mpr ⟨lw_p126, List.forall_mem_cons.mpr ⟨lw_p127, fun _ h => absurd h List.not_mem_nil⟩⟩⟩⟩⟩⟩⟩⟩⟩⟩⟩⟩⟩⟩⟩⟩
theorem lw_p128 : lw_okq (⟨"FlashPagesModel", "writesWord", "(IJ)V"⟩, 76) := ⟨⟨by decide +kernel, by decide +kernel⟩, List.mem_of_getElem? (i := 1263) (by decide +kernel), List.mem_of_getElem? (i := 1942) (by decide +kernel), List.mem_of_getElem? (i := 1943) (by decide +kernel)⟩
theorem lw_p129 : lw_okq (⟨"FlashPagesModel", "writesDown", "(II)V"⟩, 76) := ⟨⟨by decide +kernel, by decide +kernel⟩, List.mem_of_getElem? (i := 1263) (by decide +kernel), List.mem_of_getElem? (i := 1946) (by decide +kernel), List.mem_of_getElem? (i := 1947) (by decide +kernel)⟩
theorem lw_p130 : lw_okq (⟨"FlashPagesModel", "trueOnes", "()I"⟩, 76) := ⟨⟨by decide +kernel, by decide +kernel⟩, List.mem_of_getElem? (i := 1263) (by decide +kernel), List.mem_of_getElem? (i := 1966) (by decide +kernel), List.mem_of_getElem? (i := 1967) (by decide +kernel)⟩
theorem lw_p131 : lw_okq (⟨"FlashPagesModel", "draw", "(I)I"⟩, 76) := ⟨⟨by decide +kernel, by decide +kernel⟩, List.mem_of_getElem? (i := 1263) (by decide +kernel), List.mem_of_getElem? (i := 1974) (by decide +kernel), List.mem_of_getElem? (i := 1975) (by decide +kernel)⟩
theorem lw_p132 : lw_okq (⟨"FlashPagesModel", "writes", "(I)V"⟩, 76) := ⟨⟨by decide +kernel, by decide +kernel⟩, List.mem_of_getElem? (i := 1263) (by decide +kernel), List.mem_of_getElem? (i := 1994) (by decide +kernel), List.mem_of_getElem? (i := 1995) (by decide +kernel)⟩
theorem lw_p133 : lw_okq (⟨"FlashPagesModel", "comesOn", "(I)Z"⟩, 76) := ⟨⟨by decide +kernel, by decide +kernel⟩, List.mem_of_getElem? (i := 1263) (by decide +kernel), List.mem_of_getElem? (i := 2006) (by decide +kernel), List.mem_of_getElem? (i := 2007) (by decide +kernel)⟩
theorem lw_p134 : lw_okq (⟨"FlashPagesModel", "pageOn", "(III)I"⟩, 76) := ⟨⟨by decide +kernel, by decide +kernel⟩, List.mem_of_getElem? (i := 1263) (by decide +kernel), List.mem_of_getElem? (i := 2010) (by decide +kernel), List.mem_of_getElem? (i := 2011) (by decide +kernel)⟩
def lw_privs_9 : List (MethodName × Nat) := [(⟨"FlashPagesModel", "writesWord", "(IJ)V"⟩, 76), (⟨"FlashPagesModel", "writesDown", "(II)V"⟩, 76), (⟨"FlashPagesModel", "trueOnes", "()I"⟩, 76), (⟨"FlashPagesModel", "draw", "(I)I"⟩, 76), (⟨"FlashPagesModel", "writes", "(I)V"⟩, 76), (⟨"FlashPagesModel", "comesOn", "(I)Z"⟩, 76), (⟨"FlashPagesModel", "pageOn", "(III)I"⟩, 76)]
theorem lw_r9 : ∀ q ∈ lw_privs_9, lw_okq q := List.forall_mem_cons.mpr ⟨lw_p128, List.forall_mem_cons.mpr ⟨lw_p129, List.forall_mem_cons.mpr ⟨lw_p130, List.forall_mem_cons.mpr ⟨lw_p131, List.forall_mem_cons.mpr ⟨lw_p132, List.forall_mem_cons.mpr ⟨lw_p133, List.forall_mem_cons.mpr ⟨lw_p134, fun _ h => absurd h List.not_mem_nil⟩⟩⟩⟩⟩⟩⟩
def lw_privs : List (MethodName × Nat) := lw_privs_1 ++ (lw_privs_2 ++ (lw_privs_3 ++ (lw_privs_4 ++ (lw_privs_5 ++ (lw_privs_6 ++ (lw_privs_7 ++ (lw_privs_8 ++ (lw_privs_9))))))))
def lw_tbl : List Cond := k2_sels lw_privs ++ tables_1
theorem lw_privs_ok : ∀ q ∈ lw_privs, lw_okq q := by
  show ∀ q ∈ lw_privs_1 ++ (lw_privs_2 ++ (lw_privs_3 ++ (lw_privs_4 ++ (lw_privs_5 ++ (lw_privs_6 ++ (lw_privs_7 ++ (lw_privs_8 ++ (lw_privs_9)))))))), lw_okq q
  exact List.forall_mem_append.mpr ⟨lw_r1, List.forall_mem_append.mpr ⟨lw_r2, List.forall_mem_append.mpr ⟨lw_r3, List.forall_mem_append.mpr ⟨lw_r4, List.forall_mem_append.mpr ⟨lw_r5, List.forall_mem_append.mpr ⟨lw_r6, List.forall_mem_append.mpr ⟨lw_r7, List.forall_mem_append.mpr ⟨lw_r8, lw_r9⟩⟩⟩⟩⟩⟩⟩⟩
end
section
def RX0 : String := "FlashPages$Chip"
def TX0 : u_T := fun k => match k with
  | 0 => ("FlashPages$Chip", "code", "LFlashPages$Code;", true)
  | 1 => ("FlashPages$Chip", "names", "[I", true)
  | 2 => ("FlashPages$Chip", "program", "[I", true)
  | 3 => ("FlashPages$Chip", "programSize", "I", false)
  | 4 => ("FlashPages$Chip", "driftsFrom", "I", false)
  | 5 => ("FlashPages$Chip", "driftsTo", "I", false)
  | 6 => ("FlashPages$Chip", "triesFrom", "I", false)
  | 7 => ("FlashPages$Chip", "triesTo", "I", false)
  | 8 => ("FlashPages$Chip", "statements", "I", false)
  | 9 => ("FlashPages$Chip", "pages", "I", false)
  | 10 => ("FlashPages$Chip", "high", "I", false)
  | 11 => ("FlashPages$Chip", "low", "I", false)
  | 12 => ("FlashPages$Chip", "mid", "I", false)
  | 13 => ("FlashPages$Chip", "step", "I", false)
  | _ => ("FlashPages$Chip", "noise", "I", false)
def tyX0 : Nat → FieldType := fun k => match k with
  | 0 => .object "FlashPages$Code"
  | 1 => .array .int
  | 2 => .array .int
  | 3 => .int
  | 4 => .int
  | 5 => .int
  | 6 => .int
  | 7 => .int
  | 8 => .int
  | 9 => .int
  | 10 => .int
  | 11 => .int
  | 12 => .int
  | 13 => .int
  | _ => .int
theorem nmX0 : ∀ a, a < 15 → ∀ b, b < 15 → a ≠ b → (TX0 a).2.1 ≠ (TX0 b).2.1 := by decide +kernel
theorem tyX0_ok : ∀ k, k < 15 → parseFieldDescriptor (TX0 k).2.2.1 = some (tyX0 k) := by decide +kernel
def RX1 : String := "FlashPages$Code"
def TX1 : u_T := fun k => match k with
  | 0 => ("FlashPages$Code", "powers", "[I", true)
  | 1 => ("FlashPages$Code", "exponents", "[I", true)
  | 2 => ("FlashPages$Code", "weights", "[I", true)
  | 3 => ("FlashPages$Code", "mendable", "[J", true)
  | 4 => ("FlashPages$Code", "missed", "[I", true)
  | 5 => ("FlashPages$Code", "isWeighed", "Z", false)
  | 6 => ("FlashPages$Code", "degree", "I", false)
  | 7 => ("FlashPages$Code", "size", "I", false)
  | 8 => ("FlashPages$Code", "mends", "I", false)
  | 9 => ("FlashPages$Code", "checks", "I", false)
  | 10 => ("FlashPages$Code", "cells", "I", false)
  | 11 => ("FlashPages$Code", "bits", "I", false)
  | _ => ("FlashPages$Code", "divisor", "J", false)
def tyX1 : Nat → FieldType := fun k => match k with
  | 0 => .array .int
  | 1 => .array .int
  | 2 => .array .int
  | 3 => .array .long
  | 4 => .array .int
  | 5 => .boolean
  | 6 => .int
  | 7 => .int
  | 8 => .int
  | 9 => .int
  | 10 => .int
  | 11 => .int
  | _ => .long
theorem nmX1 : ∀ a, a < 13 → ∀ b, b < 13 → a ≠ b → (TX1 a).2.1 ≠ (TX1 b).2.1 := by decide +kernel
theorem tyX1_ok : ∀ k, k < 13 → parseFieldDescriptor (TX1 k).2.2.1 = some (tyX1 k) := by decide +kernel
def RX2 : String := "FlashPages$Decoder"
def TX2 : u_T := fun k => match k with
  | 0 => ("FlashPages$Decoder", "syndromes", "[I", true)
  | 1 => ("FlashPages$Decoder", "factors", "[I", true)
  | 2 => ("FlashPages$Decoder", "former", "[I", true)
  | 3 => ("FlashPages$Decoder", "saved", "[I", true)
  | 4 => ("FlashPages$Decoder", "roots", "[I", true)
  | 5 => ("FlashPages$Decoder", "isFresh", "Z", false)
  | 6 => ("FlashPages$Decoder", "read", "J", false)
  | 7 => ("FlashPages$Decoder", "result", "J", false)
  | 8 => ("FlashPages$Decoder", "length", "I", false)
  | _ => ("FlashPages$Decoder", "cause", "I", false)
def tyX2 : Nat → FieldType := fun k => match k with
  | 0 => .array .int
  | 1 => .array .int
  | 2 => .array .int
  | 3 => .array .int
  | 4 => .array .int
  | 5 => .boolean
  | 6 => .long
  | 7 => .long
  | 8 => .int
  | _ => .int
theorem nmX2 : ∀ a, a < 10 → ∀ b, b < 10 → a ≠ b → (TX2 a).2.1 ≠ (TX2 b).2.1 := by decide +kernel
theorem tyX2_ok : ∀ k, k < 10 → parseFieldDescriptor (TX2 k).2.2.1 = some (tyX2 k) := by decide +kernel
def RX3 : String := "FlashPages$Getter"
def TX3 : u_T := fun k => match k with
  | 0 => ("FlashPages$Getter", "decoder", "LFlashPages$Decoder;", true)
  | 1 => ("FlashPages$Getter", "terms", "LFlashPages$Terms;", true)
  | 2 => ("FlashPages$Getter", "reads", "I", false)
  | 3 => ("FlashPages$Getter", "threshold", "I", false)
  | 4 => ("FlashPages$Getter", "cause", "I", false)
  | 5 => ("FlashPages$Getter", "mended", "I", false)
  | 6 => ("FlashPages$Getter", "result", "J", false)
  | _ => ("FlashPages$Getter", "isTrue", "Z", false)
def tyX3 : Nat → FieldType := fun k => match k with
  | 0 => .object "FlashPages$Decoder"
  | 1 => .object "FlashPages$Terms"
  | 2 => .int
  | 3 => .int
  | 4 => .int
  | 5 => .int
  | 6 => .long
  | _ => .boolean
theorem nmX3 : ∀ a, a < 8 → ∀ b, b < 8 → a ≠ b → (TX3 a).2.1 ≠ (TX3 b).2.1 := by decide +kernel
theorem tyX3_ok : ∀ k, k < 8 → parseFieldDescriptor (TX3 k).2.2.1 = some (tyX3 k) := by decide +kernel
def RX4 : String := "FlashPages$Image"
def TX4 : u_T := fun k => match k with
  | 0 => ("FlashPages$Image", "bytes", "[I", true)
  | _ => ("FlashPages$Image", "size", "I", false)
def tyX4 : Nat → FieldType := fun k => match k with
  | 0 => .array .int
  | _ => .int
theorem nmX4 : ∀ a, a < 2 → ∀ b, b < 2 → a ≠ b → (TX4 a).2.1 ≠ (TX4 b).2.1 := by decide +kernel
theorem tyX4_ok : ∀ k, k < 2 → parseFieldDescriptor (TX4 k).2.2.1 = some (tyX4 k) := by decide +kernel
def RX5 : String := "FlashPages$Pages"
def TX5 : u_T := fun k => match k with
  | 0 => ("FlashPages$Pages", "rows", "[LFlashPages$Row;", true)
  | _ => ("FlashPages$Pages", "day", "I", false)
def tyX5 : Nat → FieldType := fun k => match k with
  | 0 => .array (.object "FlashPages$Row")
  | _ => .int
theorem nmX5 : ∀ a, a < 2 → ∀ b, b < 2 → a ≠ b → (TX5 a).2.1 ≠ (TX5 b).2.1 := by decide +kernel
theorem tyX5_ok : ∀ k, k < 2 → parseFieldDescriptor (TX5 k).2.2.1 = some (tyX5 k) := by decide +kernel
def RX6 : String := "FlashPages$Parser"
def TX6 : u_T := fun k => match k with
  | 0 => ("FlashPages$Parser", "ownWords", "[I", true)
  | 1 => ("FlashPages$Parser", "text", "[I", true)
  | 2 => ("FlashPages$Parser", "chip", "LFlashPages$Chip;", false)
  | 3 => ("FlashPages$Parser", "size", "I", false)
  | 4 => ("FlashPages$Parser", "fault", "I", false)
  | 5 => ("FlashPages$Parser", "place", "I", false)
  | 6 => ("FlashPages$Parser", "kind", "I", false)
  | 7 => ("FlashPages$Parser", "start", "I", false)
  | 8 => ("FlashPages$Parser", "badPlace", "I", false)
  | 9 => ("FlashPages$Parser", "after", "I", false)
  | 10 => ("FlashPages$Parser", "value", "I", false)
  | 11 => ("FlashPages$Parser", "own", "I", false)
  | _ => ("FlashPages$Parser", "inDrifts", "Z", false)
def tyX6 : Nat → FieldType := fun k => match k with
  | 0 => .array .int
  | 1 => .array .int
  | 2 => .object "FlashPages$Chip"
  | 3 => .int
  | 4 => .int
  | 5 => .int
  | 6 => .int
  | 7 => .int
  | 8 => .int
  | 9 => .int
  | 10 => .int
  | 11 => .int
  | _ => .boolean
theorem nmX6 : ∀ a, a < 13 → ∀ b, b < 13 → a ≠ b → (TX6 a).2.1 ≠ (TX6 b).2.1 := by decide +kernel
theorem tyX6_ok : ∀ k, k < 13 → parseFieldDescriptor (TX6 k).2.2.1 = some (tyX6 k) := by decide +kernel
def RX7 : String := "FlashPages$Past"
def TX7 : u_T := fun k => match k with
  | 0 => ("FlashPages$Past", "before", "[LFlashPages$Pages;", true)
  | 1 => ("FlashPages$Past", "totals", "[I", true)
  | 2 => ("FlashPages$Past", "entries", "[I", true)
  | 3 => ("FlashPages$Past", "count", "I", false)
  | 4 => ("FlashPages$Past", "last", "I", false)
  | _ => ("FlashPages$Past", "total", "I", false)
def tyX7 : Nat → FieldType := fun k => match k with
  | 0 => .array (.object "FlashPages$Pages")
  | 1 => .array .int
  | 2 => .array .int
  | 3 => .int
  | 4 => .int
  | _ => .int
theorem nmX7 : ∀ a, a < 6 → ∀ b, b < 6 → a ≠ b → (TX7 a).2.1 ≠ (TX7 b).2.1 := by decide +kernel
theorem tyX7_ok : ∀ k, k < 6 → parseFieldDescriptor (TX7 k).2.2.1 = some (tyX7 k) := by decide +kernel
def RX8 : String := "FlashPages$Row"
def TX8 : u_T := fun k => match k with
  | 0 => ("FlashPages$Row", "levels", "[I", true)
  | 1 => ("FlashPages$Row", "number", "I", false)
  | 2 => ("FlashPages$Row", "written", "Z", false)
  | 3 => ("FlashPages$Row", "age", "I", false)
  | _ => ("FlashPages$Row", "word", "J", false)
def tyX8 : Nat → FieldType := fun k => match k with
  | 0 => .array .int
  | 1 => .int
  | 2 => .boolean
  | 3 => .int
  | _ => .long
theorem nmX8 : ∀ a, a < 5 → ∀ b, b < 5 → a ≠ b → (TX8 a).2.1 ≠ (TX8 b).2.1 := by decide +kernel
theorem tyX8_ok : ∀ k, k < 5 → parseFieldDescriptor (TX8 k).2.2.1 = some (tyX8 k) := by decide +kernel
def RX9 : String := "FlashPages$Shifts"
def TX9 : u_T := fun k => match k with
  | 0 => ("FlashPages$Shifts", "thresholds", "[I", true)
  | 1 => ("FlashPages$Shifts", "seen", "[I", true)
  | 2 => ("FlashPages$Shifts", "fits", "[I", true)
  | 3 => ("FlashPages$Shifts", "atLeast", "[I", true)
  | 4 => ("FlashPages$Shifts", "groups", "[I", true)
  | 5 => ("FlashPages$Shifts", "rows", "I", false)
  | 6 => ("FlashPages$Shifts", "fitCount", "I", false)
  | 7 => ("FlashPages$Shifts", "telling", "I", false)
  | _ => ("FlashPages$Shifts", "leftAtMost", "I", false)
def tyX9 : Nat → FieldType := fun k => match k with
  | 0 => .array .int
  | 1 => .array .int
  | 2 => .array .int
  | 3 => .array .int
  | 4 => .array .int
  | 5 => .int
  | 6 => .int
  | 7 => .int
  | _ => .int
theorem nmX9 : ∀ a, a < 9 → ∀ b, b < 9 → a ≠ b → (TX9 a).2.1 ≠ (TX9 b).2.1 := by decide +kernel
theorem tyX9_ok : ∀ k, k < 9 → parseFieldDescriptor (TX9 k).2.2.1 = some (tyX9 k) := by decide +kernel
def RX10 : String := "FlashPages$Terms"
def TX10 : u_T := fun k => match k with
  | 0 => ("FlashPages$Terms", "values", "[I", true)
  | 1 => ("FlashPages$Terms", "stack", "[I", true)
  | _ => ("FlashPages$Terms", "top", "I", false)
def tyX10 : Nat → FieldType := fun k => match k with
  | 0 => .array .int
  | 1 => .array .int
  | _ => .int
theorem nmX10 : ∀ a, a < 3 → ∀ b, b < 3 → a ≠ b → (TX10 a).2.1 ≠ (TX10 b).2.1 := by decide +kernel
theorem tyX10_ok : ∀ k, k < 3 → parseFieldDescriptor (TX10 k).2.2.1 = some (tyX10 k) := by decide +kernel
def RX11 : String := "FlashPages"
def TX11 : u_T := fun k => match k with
  | 0 => ("FlashPages", "tape", "[I", true)
  | 1 => ("FlashPages", "refused", "[I", true)
  | 2 => ("FlashPages", "terms", "LFlashPages$Terms;", true)
  | 3 => ("FlashPages", "decoder", "LFlashPages$Decoder;", true)
  | 4 => ("FlashPages", "getter", "LFlashPages$Getter;", true)
  | 5 => ("FlashPages", "pages", "LFlashPages$Pages;", true)
  | 6 => ("FlashPages", "draft", "LFlashPages$Pages;", true)
  | 7 => ("FlashPages", "scratch", "LFlashPages$Row;", true)
  | 8 => ("FlashPages", "past", "LFlashPages$Past;", true)
  | 9 => ("FlashPages", "met", "LFlashPages$Shifts;", true)
  | 10 => ("FlashPages", "image", "LFlashPages$Image;", true)
  | 11 => ("FlashPages", "current", "LFlashPages$Chip;", false)
  | 12 => ("FlashPages", "spare", "LFlashPages$Chip;", false)
  | 13 => ("FlashPages", "parser", "LFlashPages$Parser;", true)
  | 14 => ("FlashPages", "loaded", "Z", false)
  | 15 => ("FlashPages", "tapeSize", "I", false)
  | _ => ("FlashPages", "drawn", "I", false)
def tyX11 : Nat → FieldType := fun k => match k with
  | 0 => .array .int
  | 1 => .array .int
  | 2 => .object "FlashPages$Terms"
  | 3 => .object "FlashPages$Decoder"
  | 4 => .object "FlashPages$Getter"
  | 5 => .object "FlashPages$Pages"
  | 6 => .object "FlashPages$Pages"
  | 7 => .object "FlashPages$Row"
  | 8 => .object "FlashPages$Past"
  | 9 => .object "FlashPages$Shifts"
  | 10 => .object "FlashPages$Image"
  | 11 => .object "FlashPages$Chip"
  | 12 => .object "FlashPages$Chip"
  | 13 => .object "FlashPages$Parser"
  | 14 => .boolean
  | 15 => .int
  | _ => .int
theorem nmX11 : ∀ a, a < 17 → ∀ b, b < 17 → a ≠ b → (TX11 a).2.1 ≠ (TX11 b).2.1 := by decide +kernel
theorem tyX11_ok : ∀ k, k < 17 → parseFieldDescriptor (TX11 k).2.2.1 = some (tyX11 k) := by decide +kernel
def RX12 : String := "FlashPagesModel"
def TX12 : u_T := fun k => match k with
  | 0 => ("FlashPagesModel", "tape", "[I", true)
  | 1 => ("FlashPagesModel", "taped", "I", false)
  | 2 => ("FlashPagesModel", "size", "I", false)
  | 3 => ("FlashPagesModel", "sign", "I", false)
  | 4 => ("FlashPagesModel", "signAt", "I", false)
  | 5 => ("FlashPagesModel", "signEnd", "I", false)
  | 6 => ("FlashPagesModel", "value", "I", false)
  | 7 => ("FlashPagesModel", "word", "J", false)
  | 8 => ("FlashPagesModel", "faultKind", "I", false)
  | 9 => ("FlashPagesModel", "faultPlace", "I", false)
  | 10 => ("FlashPagesModel", "toldKind", "I", false)
  | 11 => ("FlashPagesModel", "toldPlace", "I", false)
  | 12 => ("FlashPagesModel", "lexAt", "I", false)
  | 13 => ("FlashPagesModel", "bank", "I", false)
  | 14 => ("FlashPagesModel", "told", "[I", true)
  | 15 => ("FlashPagesModel", "pages", "[I", true)
  | 16 => ("FlashPagesModel", "sumFrom", "[I", true)
  | 17 => ("FlashPagesModel", "sumBehind", "[I", true)
  | 18 => ("FlashPagesModel", "codeSort", "[I", true)
  | 19 => ("FlashPagesModel", "codeValue", "[I", true)
  | 20 => ("FlashPagesModel", "pageName", "[J", true)
  | 21 => ("FlashPagesModel", "codes", "I", false)
  | 22 => ("FlashPagesModel", "in", "I", false)
  | 23 => ("FlashPagesModel", "law", "I", false)
  | 24 => ("FlashPagesModel", "frame", "[I", true)
  | 25 => ("FlashPagesModel", "phase", "[I", true)
  | 26 => ("FlashPagesModel", "begins", "[Z", true)
  | 27 => ("FlashPagesModel", "pair", "[I", true)
  | 28 => ("FlashPagesModel", "base", "[I", true)
  | 29 => ("FlashPagesModel", "deep", "I", false)
  | 30 => ("FlashPagesModel", "open", "I", false)
  | 31 => ("FlashPagesModel", "ops", "[I", true)
  | 32 => ("FlashPagesModel", "opMany", "I", false)
  | 33 => ("FlashPagesModel", "operand", "Z", false)
  | 34 => ("FlashPagesModel", "isRoot", "[I", true)
  | 35 => ("FlashPagesModel", "isChip", "Z", false)
  | 36 => ("FlashPagesModel", "refused", "[I", true)
  | 37 => ("FlashPagesModel", "whole", "I", false)
  | 38 => ("FlashPagesModel", "checks", "I", false)
  | 39 => ("FlashPagesModel", "cells", "I", false)
  | 40 => ("FlashPagesModel", "bits", "I", false)
  | 41 => ("FlashPagesModel", "generated", "J", false)
  | 42 => ("FlashPagesModel", "power", "[I", true)
  | 43 => ("FlashPagesModel", "log", "[I", true)
  | 44 => ("FlashPagesModel", "coefficient", "[I", true)
  | 45 => ("FlashPagesModel", "syndromes", "[I", true)
  | 46 => ("FlashPagesModel", "located", "[I", true)
  | 47 => ("FlashPagesModel", "earlier", "[I", true)
  | 48 => ("FlashPagesModel", "taken", "[I", true)
  | 49 => ("FlashPagesModel", "length", "I", false)
  | 50 => ("FlashPagesModel", "cause", "I", false)
  | 51 => ("FlashPagesModel", "wrongAt", "[I", true)
  | 52 => ("FlashPagesModel", "wrongMany", "I", false)
  | 53 => ("FlashPagesModel", "mended", "J", false)
  | 54 => ("FlashPagesModel", "counted", "[I", true)
  | 55 => ("FlashPagesModel", "dayOf", "[I", true)
  | 56 => ("FlashPagesModel", "isWritten", "[I", true)
  | 57 => ("FlashPagesModel", "ageOf", "[I", true)
  | 58 => ("FlashPagesModel", "wordIn", "[J", true)
  | 59 => ("FlashPagesModel", "levelOf", "[I", true)
  | 60 => ("FlashPagesModel", "keptMany", "[I", true)
  | 61 => ("FlashPagesModel", "keptRow", "[I", true)
  | 62 => ("FlashPagesModel", "undoFirst", "I", false)
  | 63 => ("FlashPagesModel", "undos", "I", false)
  | 64 => ("FlashPagesModel", "seeds", "J", false)
  | 65 => ("FlashPagesModel", "stack", "[J", true)
  | 66 => ("FlashPagesModel", "asked", "[I", true)
  | 67 => ("FlashPagesModel", "readMany", "I", false)
  | 68 => ("FlashPagesModel", "lastAt", "I", false)
  | 69 => ("FlashPagesModel", "metMany", "I", false)
  | 70 => ("FlashPagesModel", "metAt", "[I", true)
  | 71 => ("FlashPagesModel", "metOnes", "[I", true)
  | 72 => ("FlashPagesModel", "isLeft", "[I", true)
  | 73 => ("FlashPagesModel", "many", "[I", true)
  | 74 => ("FlashPagesModel", "out", "[I", true)
  | _ => ("FlashPagesModel", "outs", "I", false)
def tyX12 : Nat → FieldType := fun k => match k with
  | 0 => .array .int
  | 1 => .int
  | 2 => .int
  | 3 => .int
  | 4 => .int
  | 5 => .int
  | 6 => .int
  | 7 => .long
  | 8 => .int
  | 9 => .int
  | 10 => .int
  | 11 => .int
  | 12 => .int
  | 13 => .int
  | 14 => .array .int
  | 15 => .array .int
  | 16 => .array .int
  | 17 => .array .int
  | 18 => .array .int
  | 19 => .array .int
  | 20 => .array .long
  | 21 => .int
  | 22 => .int
  | 23 => .int
  | 24 => .array .int
  | 25 => .array .int
  | 26 => .array .boolean
  | 27 => .array .int
  | 28 => .array .int
  | 29 => .int
  | 30 => .int
  | 31 => .array .int
  | 32 => .int
  | 33 => .boolean
  | 34 => .array .int
  | 35 => .boolean
  | 36 => .array .int
  | 37 => .int
  | 38 => .int
  | 39 => .int
  | 40 => .int
  | 41 => .long
  | 42 => .array .int
  | 43 => .array .int
  | 44 => .array .int
  | 45 => .array .int
  | 46 => .array .int
  | 47 => .array .int
  | 48 => .array .int
  | 49 => .int
  | 50 => .int
  | 51 => .array .int
  | 52 => .int
  | 53 => .long
  | 54 => .array .int
  | 55 => .array .int
  | 56 => .array .int
  | 57 => .array .int
  | 58 => .array .long
  | 59 => .array .int
  | 60 => .array .int
  | 61 => .array .int
  | 62 => .int
  | 63 => .int
  | 64 => .long
  | 65 => .array .long
  | 66 => .array .int
  | 67 => .int
  | 68 => .int
  | 69 => .int
  | 70 => .array .int
  | 71 => .array .int
  | 72 => .array .int
  | 73 => .array .int
  | 74 => .array .int
  | _ => .int
theorem nmX12 : ∀ a, a < 76 → ∀ b, b < 76 → a ≠ b → (TX12 a).2.1 ≠ (TX12 b).2.1 := by decide +kernel
theorem tyX12_ok : ∀ k, k < 76 → parseFieldDescriptor (TX12 k).2.2.1 = some (tyX12 k) := by decide +kernel
def RJ13 : String := "java/lang/Long"
def RJ9 : String := "java/lang/Math"
def RJ0 : String := "java/lang/String"
def RJ1 : String := "java/lang/StringLatin1"
def RJ2 : String := "java/lang/StringUTF16"
def RJ10 : String := "java/lang/System"
def RJ7 : String := "java/util/Arrays"
def RJ3 : String := "jdk/internal/util/Preconditions"
def RL : String := "FlashPagesLaw"
abbrev cX0_init : ByteArray := prog_2_method_1_code
def yX0_init : MethodName := ⟨RX0, "<init>", "()V"⟩
abbrev cX0_clear : ByteArray := prog_2_method_2_code
def yX0_clear : MethodName := ⟨RX0, "clear", "()V"⟩
abbrev cX0_hasDrifts : ByteArray := prog_2_method_3_code
def yX0_hasDrifts : MethodName := ⟨RX0, "hasDrifts", "()Z"⟩
abbrev cX0_hasTries : ByteArray := prog_2_method_4_code
def yX0_hasTries : MethodName := ⟨RX0, "hasTries", "()Z"⟩
abbrev cX0_hasName : ByteArray := prog_2_method_5_code
def yX0_hasName : MethodName := ⟨RX0, "hasName", "(I)Z"⟩
abbrev cX0_addStep : ByteArray := prog_2_method_6_code
def yX0_addStep : MethodName := ⟨RX0, "addStep", "(I)V"⟩
abbrev cX1_init : ByteArray := prog_3_method_1_code
def yX1_init : MethodName := ⟨RX1, "<init>", "()V"⟩
abbrev cX1_takesPoly : ByteArray := prog_3_method_2_code
def yX1_takesPoly : MethodName := ⟨RX1, "takesPoly", "(II)Z"⟩
abbrev cX1_takesMends : ByteArray := prog_3_method_3_code
def yX1_takesMends : MethodName := ⟨RX1, "takesMends", "(I)Z"⟩
abbrev cX1_takesShort : ByteArray := prog_3_method_4_code
def yX1_takesShort : MethodName := ⟨RX1, "takesShort", "(I)Z"⟩
abbrev cX1_multiplyDivisor : ByteArray := prog_3_method_5_code
def yX1_multiplyDivisor : MethodName := ⟨RX1, "multiplyDivisor", "(I)V"⟩
abbrev cX1_product : ByteArray := prog_3_method_6_code
def yX1_product : MethodName := ⟨RX1, "product", "(II)I"⟩
abbrev cX1_inverse : ByteArray := prog_3_method_7_code
def yX1_inverse : MethodName := ⟨RX1, "inverse", "(I)I"⟩
abbrev cX1_valueAt : ByteArray := prog_3_method_8_code
def yX1_valueAt : MethodName := ⟨RX1, "valueAt", "(JI)I"⟩
abbrev cX1_leastPolynomial : ByteArray := prog_3_method_9_code
def yX1_leastPolynomial : MethodName := ⟨RX1, "leastPolynomial", "(I)I"⟩
abbrev cX1_encode : ByteArray := prog_3_method_10_code
def yX1_encode : MethodName := ⟨RX1, "encode", "(J)J"⟩
abbrev cX1_isCodeWord : ByteArray := prog_3_method_11_code
def yX1_isCodeWord : MethodName := ⟨RX1, "isCodeWord", "(J)Z"⟩
abbrev cX1_wordsOfWeight : ByteArray := prog_3_method_12_code
def yX1_wordsOfWeight : MethodName := ⟨RX1, "wordsOfWeight", "(I)I"⟩
abbrev cX1_patternCount : ByteArray := prog_3_method_13_code
def yX1_patternCount : MethodName := ⟨RX1, "patternCount", "(I)I"⟩
abbrev cX1_missedCount : ByteArray := prog_3_method_14_code
def yX1_missedCount : MethodName := ⟨RX1, "missedCount", "(I)I"⟩
abbrev cX1_markMendable : ByteArray := prog_3_method_15_code
def yX1_markMendable : MethodName := ⟨RX1, "markMendable", "()V"⟩
abbrev cX1_countMendable : ByteArray := prog_3_method_16_code
def yX1_countMendable : MethodName := ⟨RX1, "countMendable", "(I)I"⟩
abbrev cX1_thirdOf : ByteArray := prog_3_method_17_code
def yX1_thirdOf : MethodName := ⟨RX1, "thirdOf", "(I)I"⟩
abbrev cX1_mark : ByteArray := prog_3_method_18_code
def yX1_mark : MethodName := ⟨RX1, "mark", "(II)V"⟩
abbrev cX1_marked : ByteArray := prog_3_method_19_code
def yX1_marked : MethodName := ⟨RX1, "marked", "(II)I"⟩
abbrev cX2_init : ByteArray := prog_4_method_1_code
def yX2_init : MethodName := ⟨RX2, "<init>", "()V"⟩
abbrev cX2_forget : ByteArray := prog_4_method_2_code
def yX2_forget : MethodName := ⟨RX2, "forget", "()V"⟩
abbrev cX2_decode : ByteArray := prog_4_method_3_code
def yX2_decode : MethodName := ⟨RX2, "decode", "(LFlashPages$Code;J)V"⟩
abbrev cX2_findFactors : ByteArray := prog_4_method_4_code
def yX2_findFactors : MethodName := ⟨RX2, "findFactors", "(LFlashPages$Code;)V"⟩
abbrev cX2_gapAt : ByteArray := prog_4_method_5_code
def yX2_gapAt : MethodName := ⟨RX2, "gapAt", "(LFlashPages$Code;I)I"⟩
abbrev cX2_correct : ByteArray := prog_4_method_6_code
def yX2_correct : MethodName := ⟨RX2, "correct", "(LFlashPages$Code;II)V"⟩
abbrev cX2_findRoots : ByteArray := prog_4_method_7_code
def yX2_findRoots : MethodName := ⟨RX2, "findRoots", "(LFlashPages$Code;)I"⟩
abbrev cX2_isRoot : ByteArray := prog_4_method_8_code
def yX2_isRoot : MethodName := ⟨RX2, "isRoot", "(LFlashPages$Code;I)Z"⟩
abbrev cX3_init : ByteArray := prog_5_method_1_code
def yX3_init : MethodName := ⟨RX3, "<init>", "(LFlashPages$Decoder;LFlashPages$Terms;)V"⟩
abbrev cX3_get : ByteArray := prog_5_method_2_code
def yX3_get : MethodName := ⟨RX3, "get", "(LFlashPages$Chip;LFlashPages$Row;)V"⟩
abbrev cX3_mend : ByteArray := prog_5_method_3_code
def yX3_mend : MethodName := ⟨RX3, "mend", "(LFlashPages$Chip;LFlashPages$Row;J)V"⟩
abbrev cX3_nextThreshold : ByteArray := prog_5_method_4_code
def yX3_nextThreshold : MethodName := ⟨RX3, "nextThreshold", "(LFlashPages$Chip;I)I"⟩
abbrev cX4_init : ByteArray := prog_6_method_1_code
def yX4_init : MethodName := ⟨RX4, "<init>", "()V"⟩
abbrev cX4_build : ByteArray := prog_6_method_2_code
def yX4_build : MethodName := ⟨RX4, "build", "(LFlashPages$Pages;LFlashPages$Chip;I)V"⟩
abbrev cX4_putRow : ByteArray := prog_6_method_3_code
def yX4_putRow : MethodName := ⟨RX4, "putRow", "(LFlashPages$Row;I)V"⟩
abbrev cX4_put : ByteArray := prog_6_method_4_code
def yX4_put : MethodName := ⟨RX4, "put", "(I)V"⟩
abbrev cX4_sumOf : ByteArray := prog_6_method_5_code
def yX4_sumOf : MethodName := ⟨RX4, "sumOf", "([II)I"⟩
abbrev cX5_init : ByteArray := prog_7_method_1_code
def yX5_init : MethodName := ⟨RX5, "<init>", "()V"⟩
abbrev cX5_clear : ByteArray := prog_7_method_2_code
def yX5_clear : MethodName := ⟨RX5, "clear", "()V"⟩
abbrev cX5_copy : ByteArray := prog_7_method_3_code
def yX5_copy : MethodName := ⟨RX5, "copy", "(LFlashPages$Pages;)V"⟩
abbrev cX5_writtenCount : ByteArray := prog_7_method_4_code
def yX5_writtenCount : MethodName := ⟨RX5, "writtenCount", "()I"⟩
abbrev cX5_takes : ByteArray := prog_7_method_5_code
def yX5_takes : MethodName := ⟨RX5, "takes", "([IILFlashPages$Chip;)Z"⟩
abbrev cX5_takesRow : ByteArray := prog_7_method_6_code
def yX5_takesRow : MethodName := ⟨RX5, "takesRow", "(LFlashPages$Row;[IILFlashPages$Chip;)Z"⟩
abbrev cX6_init : ByteArray := prog_8_method_1_code
def yX6_init : MethodName := ⟨RX6, "<init>", "([ILFlashPages$Chip;)V"⟩
abbrev cX6_listWords : ByteArray := prog_8_method_2_code
def yX6_listWords : MethodName := ⟨RX6, "listWords", "(Ljava/lang/String;I[I)I"⟩
abbrev cX6_reads : ByteArray := prog_8_method_3_code
def yX6_reads : MethodName := ⟨RX6, "reads", "(ILFlashPages$Chip;)Z"⟩
abbrev cX6_look : ByteArray := prog_8_method_4_code
def yX6_look : MethodName := ⟨RX6, "look", "()V"⟩
abbrev cX6_lookAtWord : ByteArray := prog_8_method_5_code
def yX6_lookAtWord : MethodName := ⟨RX6, "lookAtWord", "()V"⟩
abbrev cX6_lookAtNumber : ByteArray := prog_8_method_6_code
def yX6_lookAtNumber : MethodName := ⟨RX6, "lookAtNumber", "()V"⟩
abbrev cX6_isLetter : ByteArray := prog_8_method_7_code
def yX6_isLetter : MethodName := ⟨RX6, "isLetter", "(I)Z"⟩
abbrev cX6_isDigit : ByteArray := prog_8_method_8_code
def yX6_isDigit : MethodName := ⟨RX6, "isDigit", "(I)Z"⟩
abbrev cX6_packed : ByteArray := prog_8_method_9_code
def yX6_packed : MethodName := ⟨RX6, "packed", "(II)I"⟩
abbrev cX6_failBy : ByteArray := prog_8_method_10_code
def yX6_failBy : MethodName := ⟨RX6, "failBy", "(II)Z"⟩
abbrev cX6_failHere : ByteArray := prog_8_method_11_code
def yX6_failHere : MethodName := ⟨RX6, "failHere", "()Z"⟩
abbrev cX6_isOwn : ByteArray := prog_8_method_12_code
def yX6_isOwn : MethodName := ⟨RX6, "isOwn", "(I)Z"⟩
abbrev cX6_readOwn : ByteArray := prog_8_method_13_code
def yX6_readOwn : MethodName := ⟨RX6, "readOwn", "(I)Z"⟩
abbrev cX6_readSign : ByteArray := prog_8_method_14_code
def yX6_readSign : MethodName := ⟨RX6, "readSign", "(I)Z"⟩
abbrev cX6_readNumber : ByteArray := prog_8_method_15_code
def yX6_readNumber : MethodName := ⟨RX6, "readNumber", "(II)I"⟩
abbrev cX6_readField : ByteArray := prog_8_method_16_code
def yX6_readField : MethodName := ⟨RX6, "readField", "()Z"⟩
abbrev cX6_readStatement : ByteArray := prog_8_method_17_code
def yX6_readStatement : MethodName := ⟨RX6, "readStatement", "()Z"⟩
abbrev cX6_readSetting : ByteArray := prog_8_method_18_code
def yX6_readSetting : MethodName := ⟨RX6, "readSetting", "()Z"⟩
abbrev cX6_readPage : ByteArray := prog_8_method_19_code
def yX6_readPage : MethodName := ⟨RX6, "readPage", "()Z"⟩
abbrev cX6_readDrifts : ByteArray := prog_8_method_20_code
def yX6_readDrifts : MethodName := ⟨RX6, "readDrifts", "()Z"⟩
abbrev cX6_readTries : ByteArray := prog_8_method_21_code
def yX6_readTries : MethodName := ⟨RX6, "readTries", "()Z"⟩
abbrev cX6_readOpening : ByteArray := prog_8_method_22_code
def yX6_readOpening : MethodName := ⟨RX6, "readOpening", "(II)Z"⟩
abbrev cX6_readSum : ByteArray := prog_8_method_23_code
def yX6_readSum : MethodName := ⟨RX6, "readSum", "(I)Z"⟩
abbrev cX6_readProduct : ByteArray := prog_8_method_24_code
def yX6_readProduct : MethodName := ⟨RX6, "readProduct", "(I)Z"⟩
abbrev cX6_readPart : ByteArray := prog_8_method_25_code
def yX6_readPart : MethodName := ⟨RX6, "readPart", "(I)Z"⟩
abbrev cX6_isValue : ByteArray := prog_8_method_26_code
def yX6_isValue : MethodName := ⟨RX6, "isValue", "(I)Z"⟩
abbrev cX6_readPair : ByteArray := prog_8_method_27_code
def yX6_readPair : MethodName := ⟨RX6, "readPair", "(II)Z"⟩
abbrev cX6_readChoice : ByteArray := prog_8_method_28_code
def yX6_readChoice : MethodName := ⟨RX6, "readChoice", "(I)Z"⟩
abbrev cX6_readTest : ByteArray := prog_8_method_29_code
def yX6_readTest : MethodName := ⟨RX6, "readTest", "(I)Z"⟩
abbrev cX6_readBoth : ByteArray := prog_8_method_30_code
def yX6_readBoth : MethodName := ⟨RX6, "readBoth", "(I)Z"⟩
abbrev cX6_readFact : ByteArray := prog_8_method_31_code
def yX6_readFact : MethodName := ⟨RX6, "readFact", "(I)Z"⟩
abbrev cX6_readComparison : ByteArray := prog_8_method_32_code
def yX6_readComparison : MethodName := ⟨RX6, "readComparison", "(I)Z"⟩
abbrev cX7_init : ByteArray := prog_9_method_1_code
def yX7_init : MethodName := ⟨RX7, "<init>", "()V"⟩
abbrev cX7_clear : ByteArray := prog_9_method_2_code
def yX7_clear : MethodName := ⟨RX7, "clear", "()V"⟩
abbrev cX7_save : ByteArray := prog_9_method_3_code
def yX7_save : MethodName := ⟨RX7, "save", "(LFlashPages$Pages;)V"⟩
abbrev cX7_restore : ByteArray := prog_9_method_4_code
def yX7_restore : MethodName := ⟨RX7, "restore", "(LFlashPages$Pages;)V"⟩
abbrev cX7_told : ByteArray := prog_9_method_5_code
def yX7_told : MethodName := ⟨RX7, "told", "()I"⟩
abbrev cX7_add : ByteArray := prog_9_method_6_code
def yX7_add : MethodName := ⟨RX7, "add", "(III)V"⟩
abbrev cX7_entry : ByteArray := prog_9_method_7_code
def yX7_entry : MethodName := ⟨RX7, "entry", "(II)I"⟩
abbrev cX8_init : ByteArray := prog_10_method_1_code
def yX8_init : MethodName := ⟨RX8, "<init>", "(I)V"⟩
abbrev cX8_clear : ByteArray := prog_10_method_2_code
def yX8_clear : MethodName := ⟨RX8, "clear", "()V"⟩
abbrev cX8_copy : ByteArray := prog_10_method_3_code
def yX8_copy : MethodName := ⟨RX8, "copy", "(LFlashPages$Row;)V"⟩
abbrev cX8_fill : ByteArray := prog_10_method_4_code
def yX8_fill : MethodName := ⟨RX8, "fill", "(LFlashPages$Chip;J)V"⟩
abbrev cX8_turn : ByteArray := prog_10_method_5_code
def yX8_turn : MethodName := ⟨RX8, "turn", "(I)V"⟩
abbrev cX8_readBy : ByteArray := prog_10_method_6_code
def yX8_readBy : MethodName := ⟨RX8, "readBy", "(II)J"⟩
abbrev cX8_isTrueRead : ByteArray := prog_10_method_7_code
def yX8_isTrueRead : MethodName := ⟨RX8, "isTrueRead", "(JI)Z"⟩
abbrev cX9_init : ByteArray := prog_11_method_1_code
def yX9_init : MethodName := ⟨RX9, "<init>", "()V"⟩
abbrev cX9_clear : ByteArray := prog_11_method_2_code
def yX9_clear : MethodName := ⟨RX9, "clear", "()V"⟩
abbrev cX9_takes : ByteArray := prog_11_method_3_code
def yX9_takes : MethodName := ⟨RX9, "takes", "([II)Z"⟩
abbrev cX9_find : ByteArray := prog_11_method_4_code
def yX9_find : MethodName := ⟨RX9, "find", "(LFlashPages$Row;I)V"⟩
abbrev cX9_isLeft : ByteArray := prog_11_method_5_code
def yX9_isLeft : MethodName := ⟨RX9, "isLeft", "(I)Z"⟩
abbrev cX9_onesBy : ByteArray := prog_11_method_6_code
def yX9_onesBy : MethodName := ⟨RX9, "onesBy", "(II)I"⟩
abbrev cX9_findTelling : ByteArray := prog_11_method_7_code
def yX9_findTelling : MethodName := ⟨RX9, "findTelling", "()V"⟩
abbrev cX9_mostLeft : ByteArray := prog_11_method_8_code
def yX9_mostLeft : MethodName := ⟨RX9, "mostLeft", "(I)I"⟩
abbrev cX10_init : ByteArray := prog_12_method_1_code
def yX10_init : MethodName := ⟨RX10, "<init>", "()V"⟩
abbrev cX10_setDay : ByteArray := prog_12_method_2_code
def yX10_setDay : MethodName := ⟨RX10, "setDay", "(LFlashPages$Row;II)V"⟩
abbrev cX10_drifted : ByteArray := prog_12_method_3_code
def yX10_drifted : MethodName := ⟨RX10, "drifted", "(LFlashPages$Chip;JII)I"⟩
abbrev cX10_passDay : ByteArray := prog_12_method_4_code
def yX10_passDay : MethodName := ⟨RX10, "passDay", "(LFlashPages$Chip;LFlashPages$Row;I)V"⟩
abbrev cX10_triesAgain : ByteArray := prog_12_method_5_code
def yX10_triesAgain : MethodName := ⟨RX10, "triesAgain", "(LFlashPages$Chip;III)Z"⟩
abbrev cX10_run : ByteArray := prog_12_method_6_code
def yX10_run : MethodName := ⟨RX10, "run", "(LFlashPages$Chip;II)I"⟩
abbrev cX10_valueOf : ByteArray := prog_12_method_7_code
def yX10_valueOf : MethodName := ⟨RX10, "valueOf", "(I)I"⟩
abbrev cX10_push : ByteArray := prog_12_method_8_code
def yX10_push : MethodName := ⟨RX10, "push", "(I)V"⟩
abbrev cX10_pop : ByteArray := prog_12_method_9_code
def yX10_pop : MethodName := ⟨RX10, "pop", "()I"⟩
abbrev cX10_joined : ByteArray := prog_12_method_10_code
def yX10_joined : MethodName := ⟨RX10, "joined", "(III)I"⟩
abbrev cX10_bounded : ByteArray := prog_12_method_11_code
def yX10_bounded : MethodName := ⟨RX10, "bounded", "(J)I"⟩
abbrev cX11_init : ByteArray := prog_1_method_1_code
def yX11_init : MethodName := ⟨RX11, "<init>", "()V"⟩
abbrev cX11_feed : ByteArray := prog_1_method_2_code
def yX11_feed : MethodName := ⟨RX11, "feed", "(IIIII)I"⟩
abbrev cX11_end : ByteArray := prog_1_method_3_code
def yX11_end : MethodName := ⟨RX11, "end", "(I)Z"⟩
abbrev cX11_chip : ByteArray := prog_1_method_4_code
def yX11_chip : MethodName := ⟨RX11, "chip", "()I"⟩
abbrev cX11_fault : ByteArray := prog_1_method_5_code
def yX11_fault : MethodName := ⟨RX11, "fault", "(I)I"⟩
abbrev cX11_has : ByteArray := prog_1_method_6_code
def yX11_has : MethodName := ⟨RX11, "has", "(I)I"⟩
abbrev cX11_letter : ByteArray := prog_1_method_7_code
def yX11_letter : MethodName := ⟨RX11, "letter", "(II)I"⟩
abbrev cX11_field : ByteArray := prog_1_method_8_code
def yX11_field : MethodName := ⟨RX11, "field", "(II)I"⟩
abbrev cX11_generator : ByteArray := prog_1_method_9_code
def yX11_generator : MethodName := ⟨RX11, "generator", "(I)I"⟩
abbrev cX11_word : ByteArray := prog_1_method_10_code
def yX11_word : MethodName := ⟨RX11, "word", "(III)I"⟩
abbrev cX11_weight : ByteArray := prog_1_method_11_code
def yX11_weight : MethodName := ⟨RX11, "weight", "(I)I"⟩
abbrev cX11_patterns : ByteArray := prog_1_method_12_code
def yX11_patterns : MethodName := ⟨RX11, "patterns", "(II)I"⟩
abbrev cX11_page : ByteArray := prog_1_method_13_code
def yX11_page : MethodName := ⟨RX11, "page", "(II)I"⟩
abbrev cX11_level : ByteArray := prog_1_method_14_code
def yX11_level : MethodName := ⟨RX11, "level", "(III)I"⟩
abbrev cX11_ones : ByteArray := prog_1_method_15_code
def yX11_ones : MethodName := ⟨RX11, "ones", "(II)I"⟩
abbrev cX11_syndrome : ByteArray := prog_1_method_16_code
def yX11_syndrome : MethodName := ⟨RX11, "syndrome", "(III)I"⟩
abbrev cX11_locator : ByteArray := prog_1_method_17_code
def yX11_locator : MethodName := ⟨RX11, "locator", "(III)I"⟩
abbrev cX11_wrong : ByteArray := prog_1_method_18_code
def yX11_wrong : MethodName := ⟨RX11, "wrong", "(III)I"⟩
abbrev cX11_why : ByteArray := prog_1_method_19_code
def yX11_why : MethodName := ⟨RX11, "why", "(II)I"⟩
abbrev cX11_got : ByteArray := prog_1_method_20_code
def yX11_got : MethodName := ⟨RX11, "got", "(II)I"⟩
abbrev cX11_span : ByteArray := prog_1_method_21_code
def yX11_span : MethodName := ⟨RX11, "span", "(II)I"⟩
abbrev cX11_lost : ByteArray := prog_1_method_22_code
def yX11_lost : MethodName := ⟨RX11, "lost", "(I)I"⟩
abbrev cX11_odds : ByteArray := prog_1_method_23_code
def yX11_odds : MethodName := ⟨RX11, "odds", "(I)I"⟩
abbrev cX11_meet : ByteArray := prog_1_method_24_code
def yX11_meet : MethodName := ⟨RX11, "meet", "()I"⟩
abbrev cX11_shifts : ByteArray := prog_1_method_25_code
def yX11_shifts : MethodName := ⟨RX11, "shifts", "(II)I"⟩
abbrev cX11_tells : ByteArray := prog_1_method_26_code
def yX11_tells : MethodName := ⟨RX11, "tells", "(II)I"⟩
abbrev cX11_write : ByteArray := prog_1_method_27_code
def yX11_write : MethodName := ⟨RX11, "write", "(III)Z"⟩
abbrev cX11_erase : ByteArray := prog_1_method_28_code
def yX11_erase : MethodName := ⟨RX11, "erase", "(I)Z"⟩
abbrev cX11_flip : ByteArray := prog_1_method_29_code
def yX11_flip : MethodName := ⟨RX11, "flip", "(II)Z"⟩
abbrev cX11_refresh : ByteArray := prog_1_method_30_code
def yX11_refresh : MethodName := ⟨RX11, "refresh", "(I)I"⟩
abbrev cX11_days : ByteArray := prog_1_method_31_code
def yX11_days : MethodName := ⟨RX11, "days", "(I)I"⟩
abbrev cX11_chance : ByteArray := prog_1_method_32_code
def yX11_chance : MethodName := ⟨RX11, "chance", "(I)I"⟩
abbrev cX11_undo : ByteArray := prog_1_method_33_code
def yX11_undo : MethodName := ⟨RX11, "undo", "()Z"⟩
abbrev cX11_seed : ByteArray := prog_1_method_34_code
def yX11_seed : MethodName := ⟨RX11, "seed", "(I)Z"⟩
abbrev cX11_kept : ByteArray := prog_1_method_35_code
def yX11_kept : MethodName := ⟨RX11, "kept", "(II)I"⟩
abbrev cX11_image : ByteArray := prog_1_method_36_code
def yX11_image : MethodName := ⟨RX11, "image", "()I"⟩
abbrev cX11_octet : ByteArray := prog_1_method_37_code
def yX11_octet : MethodName := ⟨RX11, "octet", "(I)I"⟩
abbrev cX11_on : ByteArray := prog_1_method_38_code
def yX11_on : MethodName := ⟨RX11, "on", "()Z"⟩
abbrev cX11_status : ByteArray := prog_1_method_39_code
def yX11_status : MethodName := ⟨RX11, "status", "(I)I"⟩
abbrev cX11_refuse : ByteArray := prog_1_method_40_code
def yX11_refuse : MethodName := ⟨RX11, "refuse", "(I)I"⟩
abbrev cX11_putNumber : ByteArray := prog_1_method_41_code
def yX11_putNumber : MethodName := ⟨RX11, "putNumber", "(I)V"⟩
abbrev cX11_takeTape : ByteArray := prog_1_method_42_code
def yX11_takeTape : MethodName := ⟨RX11, "takeTape", "()I"⟩
abbrev cX11_isPage : ByteArray := prog_1_method_43_code
def yX11_isPage : MethodName := ⟨RX11, "isPage", "(I)Z"⟩
abbrev cX11_isWritten : ByteArray := prog_1_method_44_code
def yX11_isWritten : MethodName := ⟨RX11, "isWritten", "(I)Z"⟩
abbrev cX11_isCell : ByteArray := prog_1_method_45_code
def yX11_isCell : MethodName := ⟨RX11, "isCell", "(I)Z"⟩
abbrev cX11_isRead : ByteArray := prog_1_method_46_code
def yX11_isRead : MethodName := ⟨RX11, "isRead", "(II)Z"⟩
abbrev cX11_isData : ByteArray := prog_1_method_47_code
def yX11_isData : MethodName := ⟨RX11, "isData", "(II)Z"⟩
abbrev cX11_daysFit : ByteArray := prog_1_method_48_code
def yX11_daysFit : MethodName := ⟨RX11, "daysFit", "(I)Z"⟩
abbrev cX11_decode : ByteArray := prog_1_method_49_code
def yX11_decode : MethodName := ⟨RX11, "decode", "(II)V"⟩
abbrev cX11_passDay : ByteArray := prog_1_method_50_code
def yX11_passDay : MethodName := ⟨RX11, "passDay", "()V"⟩
abbrev cX11_addNoise : ByteArray := prog_1_method_51_code
def yX11_addNoise : MethodName := ⟨RX11, "addNoise", "()I"⟩
abbrev cX11_draw : ByteArray := prog_1_method_52_code
def yX11_draw : MethodName := ⟨RX11, "draw", "(I)I"⟩
abbrev cX11_dataOf : ByteArray := prog_1_method_53_code
def yX11_dataOf : MethodName := ⟨RX11, "dataOf", "(II)J"⟩
abbrev cX11_bitOf : ByteArray := prog_1_method_54_code
def yX11_bitOf : MethodName := ⟨RX11, "bitOf", "(JI)I"⟩
abbrev cX11_older : ByteArray := prog_1_method_55_code
def yX11_older : MethodName := ⟨RX11, "older", "(II)I"⟩
abbrev cX12_init : ByteArray := prog_14_method_1_code
def yX12_init : MethodName := ⟨RX12, "<init>", "()V"⟩
abbrev cX12_is : ByteArray := prog_14_method_2_code
def yX12_is : MethodName := ⟨RX12, "is", "(III)Z"⟩
abbrev cX12_put : ByteArray := prog_14_method_3_code
def yX12_put : MethodName := ⟨RX12, "put", "(I)V"⟩
abbrev cX12_feed : ByteArray := prog_14_method_4_code
def yX12_feed : MethodName := ⟨RX12, "feed", "(IIIII)I"⟩
abbrev cX12_end : ByteArray := prog_14_method_5_code
def yX12_end : MethodName := ⟨RX12, "end", "(I)Z"⟩
abbrev cX12_blame : ByteArray := prog_14_method_6_code
def yX12_blame : MethodName := ⟨RX12, "blame", "(II)V"⟩
abbrev cX12_isLetter : ByteArray := prog_14_method_7_code
def yX12_isLetter : MethodName := ⟨RX12, "isLetter", "(I)Z"⟩
abbrev cX12_isDigit : ByteArray := prog_14_method_8_code
def yX12_isDigit : MethodName := ⟨RX12, "isDigit", "(I)Z"⟩
abbrev cX12_lex : ByteArray := prog_14_method_9_code
def yX12_lex : MethodName := ⟨RX12, "lex", "()V"⟩
abbrev cX12_ahead : ByteArray := prog_14_method_10_code
def yX12_ahead : MethodName := ⟨RX12, "ahead", "()V"⟩
abbrev cX12_isSign : ByteArray := prog_14_method_11_code
def yX12_isSign : MethodName := ⟨RX12, "isSign", "(I)Z"⟩
abbrev cX12_isWord : ByteArray := prog_14_method_12_code
def yX12_isWord : MethodName := ⟨RX12, "isWord", "(J)Z"⟩
abbrev cX12_must : ByteArray := prog_14_method_13_code
def yX12_must : MethodName := ⟨RX12, "must", "(I)V"⟩
abbrev cX12_isOwn : ByteArray := prog_14_method_14_code
def yX12_isOwn : MethodName := ⟨RX12, "isOwn", "(J)Z"⟩
abbrev cX12_pageNamed : ByteArray := prog_14_method_15_code
def yX12_pageNamed : MethodName := ⟨RX12, "pageNamed", "(J)I"⟩
abbrev cX12_number : ByteArray := prog_14_method_16_code
def yX12_number : MethodName := ⟨RX12, "number", "(II)I"⟩
abbrev cX12_add : ByteArray := prog_14_method_17_code
def yX12_add : MethodName := ⟨RX12, "add", "(II)V"⟩
abbrev cX12_rank : ByteArray := prog_14_method_18_code
def yX12_rank : MethodName := ⟨RX12, "rank", "(I)I"⟩
abbrev cX12_joins : ByteArray := prog_14_method_19_code
def yX12_joins : MethodName := ⟨RX12, "joins", "(I)V"⟩
abbrev cX12_holdsBack : ByteArray := prog_14_method_20_code
def yX12_holdsBack : MethodName := ⟨RX12, "holdsBack", "(I)V"⟩
abbrev cX12_pushes : ByteArray := prog_14_method_21_code
def yX12_pushes : MethodName := ⟨RX12, "pushes", "(I)V"⟩
abbrev cX12_opens : ByteArray := prog_14_method_22_code
def yX12_opens : MethodName := ⟨RX12, "opens", "(I)V"⟩
abbrev cX12_isTest : ByteArray := prog_14_method_23_code
def yX12_isTest : MethodName := ⟨RX12, "isTest", "(I)Z"⟩
abbrev cX12_operand : ByteArray := prog_14_method_24_code
def yX12_operand : MethodName := ⟨RX12, "operand", "()Z"⟩
abbrev cX12_goesOn : ByteArray := prog_14_method_25_code
def yX12_goesOn : MethodName := ⟨RX12, "goesOn", "()Z"⟩
abbrev cX12_reads : ByteArray := prog_14_method_26_code
def yX12_reads : MethodName := ⟨RX12, "reads", "(Z)V"⟩
abbrev cX12_isCounted : ByteArray := prog_14_method_27_code
def yX12_isCounted : MethodName := ⟨RX12, "isCounted", "(Z)Z"⟩
abbrev cX12_mustWord : ByteArray := prog_14_method_28_code
def yX12_mustWord : MethodName := ⟨RX12, "mustWord", "(J)V"⟩
abbrev cX12_tellsAt : ByteArray := prog_14_method_29_code
def yX12_tellsAt : MethodName := ⟨RX12, "tellsAt", "(II)V"⟩
abbrev cX12_timesA : ByteArray := prog_14_method_30_code
def yX12_timesA : MethodName := ⟨RX12, "timesA", "(III)I"⟩
abbrev cX12_isPrimitive : ByteArray := prog_14_method_31_code
def yX12_isPrimitive : MethodName := ⟨RX12, "isPrimitive", "(II)Z"⟩
abbrev cX12_rootsFor : ByteArray := prog_14_method_32_code
def yX12_rootsFor : MethodName := ⟨RX12, "rootsFor", "(II)I"⟩
abbrev cX12_chipIs : ByteArray := prog_14_method_33_code
def yX12_chipIs : MethodName := ⟨RX12, "chipIs", "()V"⟩
abbrev cX12_pageIs : ByteArray := prog_14_method_34_code
def yX12_pageIs : MethodName := ⟨RX12, "pageIs", "()V"⟩
abbrev cX12_telling : ByteArray := prog_14_method_35_code
def yX12_telling : MethodName := ⟨RX12, "telling", "(III)V"⟩
abbrev cX12_reading : ByteArray := prog_14_method_36_code
def yX12_reading : MethodName := ⟨RX12, "reading", "(I)V"⟩
abbrev cX12_statement : ByteArray := prog_14_method_37_code
def yX12_statement : MethodName := ⟨RX12, "statement", "()V"⟩
abbrev cX12_finishes : ByteArray := prog_14_method_38_code
def yX12_finishes : MethodName := ⟨RX12, "finishes", "(I)V"⟩
abbrev cX12_chip : ByteArray := prog_14_method_39_code
def yX12_chip : MethodName := ⟨RX12, "chip", "()I"⟩
abbrev cX12_by : ByteArray := prog_14_method_40_code
def yX12_by : MethodName := ⟨RX12, "by", "(I)I"⟩
abbrev cX12_fault : ByteArray := prog_14_method_41_code
def yX12_fault : MethodName := ⟨RX12, "fault", "(I)I"⟩
abbrev cX12_refuses : ByteArray := prog_14_method_42_code
def yX12_refuses : MethodName := ⟨RX12, "refuses", "(I)I"⟩
abbrev cX12_status : ByteArray := prog_14_method_43_code
def yX12_status : MethodName := ⟨RX12, "status", "(I)I"⟩
abbrev cX12_times : ByteArray := prog_14_method_44_code
def yX12_times : MethodName := ⟨RX12, "times", "(II)I"⟩
abbrev cX12_inverse : ByteArray := prog_14_method_45_code
def yX12_inverse : MethodName := ⟨RX12, "inverse", "(I)I"⟩
abbrev cX12_multiplies : ByteArray := prog_14_method_46_code
def yX12_multiplies : MethodName := ⟨RX12, "multiplies", "(II)V"⟩
abbrev cX12_twoElements : ByteArray := prog_14_method_47_code
def yX12_twoElements : MethodName := ⟨RX12, "twoElements", "(I)J"⟩
abbrev cX12_lays : ByteArray := prog_14_method_48_code
def yX12_lays : MethodName := ⟨RX12, "lays", "()V"⟩
abbrev cX12_minimal : ByteArray := prog_14_method_49_code
def yX12_minimal : MethodName := ⟨RX12, "minimal", "(I)I"⟩
abbrev cX12_field : ByteArray := prog_14_method_50_code
def yX12_field : MethodName := ⟨RX12, "field", "(II)I"⟩
abbrev cX12_generator : ByteArray := prog_14_method_51_code
def yX12_generator : MethodName := ⟨RX12, "generator", "(I)I"⟩
abbrev cX12_left : ByteArray := prog_14_method_52_code
def yX12_left : MethodName := ⟨RX12, "left", "(J)J"⟩
abbrev cX12_wordOf : ByteArray := prog_14_method_53_code
def yX12_wordOf : MethodName := ⟨RX12, "wordOf", "(J)J"⟩
abbrev cX12_isData : ByteArray := prog_14_method_54_code
def yX12_isData : MethodName := ⟨RX12, "isData", "(II)Z"⟩
abbrev cX12_word : ByteArray := prog_14_method_55_code
def yX12_word : MethodName := ⟨RX12, "word", "(III)I"⟩
abbrev cX12_onesOf : ByteArray := prog_14_method_56_code
def yX12_onesOf : MethodName := ⟨RX12, "onesOf", "(J)I"⟩
abbrev cX12_weight : ByteArray := prog_14_method_57_code
def yX12_weight : MethodName := ⟨RX12, "weight", "(I)I"⟩
abbrev cX12_syndromesOf : ByteArray := prog_14_method_58_code
def yX12_syndromesOf : MethodName := ⟨RX12, "syndromesOf", "(J)V"⟩
abbrev cX12_missing : ByteArray := prog_14_method_59_code
def yX12_missing : MethodName := ⟨RX12, "missing", "(I)I"⟩
abbrev cX12_locates : ByteArray := prog_14_method_60_code
def yX12_locates : MethodName := ⟨RX12, "locates", "()V"⟩
abbrev cX12_isRootAt : ByteArray := prog_14_method_61_code
def yX12_isRootAt : MethodName := ⟨RX12, "isRootAt", "(I)Z"⟩
abbrev cX12_readsBits : ByteArray := prog_14_method_62_code
def yX12_readsBits : MethodName := ⟨RX12, "readsBits", "(J)I"⟩
abbrev cX12_counts : ByteArray := prog_14_method_63_code
def yX12_counts : MethodName := ⟨RX12, "counts", "(J)V"⟩
abbrev cX12_patterns : ByteArray := prog_14_method_64_code
def yX12_patterns : MethodName := ⟨RX12, "patterns", "(II)I"⟩
abbrev cX12_copies : ByteArray := prog_14_method_65_code
def yX12_copies : MethodName := ⟨RX12, "copies", "(II)V"⟩
abbrev cX12_begin : ByteArray := prog_14_method_66_code
def yX12_begin : MethodName := ⟨RX12, "begin", "()V"⟩
abbrev cX12_slot : ByteArray := prog_14_method_67_code
def yX12_slot : MethodName := ⟨RX12, "slot", "(I)I"⟩
abbrev cX12_keeps : ByteArray := prog_14_method_68_code
def yX12_keeps : MethodName := ⟨RX12, "keeps", "()V"⟩
abbrev cX12_undo : ByteArray := prog_14_method_69_code
def yX12_undo : MethodName := ⟨RX12, "undo", "()Z"⟩
abbrev cX12_within : ByteArray := prog_14_method_70_code
def yX12_within : MethodName := ⟨RX12, "within", "(J)J"⟩
abbrev cX12_floor : ByteArray := prog_14_method_71_code
def yX12_floor : MethodName := ⟨RX12, "floor", "(JJ)J"⟩
abbrev cX12_two : ByteArray := prog_14_method_72_code
def yX12_two : MethodName := ⟨RX12, "two", "(IJJ)J"⟩
abbrev cX12_reckons : ByteArray := prog_14_method_73_code
def yX12_reckons : MethodName := ⟨RX12, "reckons", "(I)J"⟩
abbrev cX12_isTold : ByteArray := prog_14_method_74_code
def yX12_isTold : MethodName := ⟨RX12, "isTold", "(I)Z"⟩
abbrev cX12_isPage : ByteArray := prog_14_method_75_code
def yX12_isPage : MethodName := ⟨RX12, "isPage", "(I)Z"⟩
abbrev cX12_isThere : ByteArray := prog_14_method_76_code
def yX12_isThere : MethodName := ⟨RX12, "isThere", "(I)Z"⟩
abbrev cX12_levelAt : ByteArray := prog_14_method_77_code
def yX12_levelAt : MethodName := ⟨RX12, "levelAt", "(III)I"⟩
abbrev cX12_puts : ByteArray := prog_14_method_78_code
def yX12_puts : MethodName := ⟨RX12, "puts", "(IIII)V"⟩
abbrev cX12_bitsBy : ByteArray := prog_14_method_79_code
def yX12_bitsBy : MethodName := ⟨RX12, "bitsBy", "(IIII)J"⟩
abbrev cX12_wantedOf : ByteArray := prog_14_method_80_code
def yX12_wantedOf : MethodName := ⟨RX12, "wantedOf", "(II)I"⟩
abbrev cX12_isTriedAgain : ByteArray := prog_14_method_81_code
def yX12_isTriedAgain : MethodName := ⟨RX12, "isTriedAgain", "(III)Z"⟩
abbrev cX12_gets : ByteArray := prog_14_method_82_code
def yX12_gets : MethodName := ⟨RX12, "gets", "(II)I"⟩
abbrev cX12_isTrue : ByteArray := prog_14_method_83_code
def yX12_isTrue : MethodName := ⟨RX12, "isTrue", "(II)Z"⟩
abbrev cX12_writesDown : ByteArray := prog_14_method_84_code
def yX12_writesDown : MethodName := ⟨RX12, "writesDown", "(II)V"⟩
abbrev cX12_writesWord : ByteArray := prog_14_method_85_code
def yX12_writesWord : MethodName := ⟨RX12, "writesWord", "(IJ)V"⟩
abbrev cX12_drifts : ByteArray := prog_14_method_86_code
def yX12_drifts : MethodName := ⟨RX12, "drifts", "(II)V"⟩
abbrev cX12_passes : ByteArray := prog_14_method_87_code
def yX12_passes : MethodName := ⟨RX12, "passes", "(I)V"⟩
abbrev cX12_trueOnes : ByteArray := prog_14_method_88_code
def yX12_trueOnes : MethodName := ⟨RX12, "trueOnes", "()I"⟩
abbrev cX12_has : ByteArray := prog_14_method_89_code
def yX12_has : MethodName := ⟨RX12, "has", "(I)I"⟩
abbrev cX12_letter : ByteArray := prog_14_method_90_code
def yX12_letter : MethodName := ⟨RX12, "letter", "(II)I"⟩
abbrev cX12_page : ByteArray := prog_14_method_91_code
def yX12_page : MethodName := ⟨RX12, "page", "(II)I"⟩
abbrev cX12_isAhead : ByteArray := prog_14_method_92_code
def yX12_isAhead : MethodName := ⟨RX12, "isAhead", "(III)Z"⟩
abbrev cX12_level : ByteArray := prog_14_method_93_code
def yX12_level : MethodName := ⟨RX12, "level", "(III)I"⟩
abbrev cX12_isRead : ByteArray := prog_14_method_94_code
def yX12_isRead : MethodName := ⟨RX12, "isRead", "(II)Z"⟩
abbrev cX12_ones : ByteArray := prog_14_method_95_code
def yX12_ones : MethodName := ⟨RX12, "ones", "(II)I"⟩
abbrev cX12_syndrome : ByteArray := prog_14_method_96_code
def yX12_syndrome : MethodName := ⟨RX12, "syndrome", "(III)I"⟩
abbrev cX12_locator : ByteArray := prog_14_method_97_code
def yX12_locator : MethodName := ⟨RX12, "locator", "(III)I"⟩
abbrev cX12_wrong : ByteArray := prog_14_method_98_code
def yX12_wrong : MethodName := ⟨RX12, "wrong", "(III)I"⟩
abbrev cX12_why : ByteArray := prog_14_method_99_code
def yX12_why : MethodName := ⟨RX12, "why", "(II)I"⟩
abbrev cX12_got : ByteArray := prog_14_method_100_code
def yX12_got : MethodName := ⟨RX12, "got", "(II)I"⟩
abbrev cX12_span : ByteArray := prog_14_method_101_code
def yX12_span : MethodName := ⟨RX12, "span", "(II)I"⟩
abbrev cX12_lost : ByteArray := prog_14_method_102_code
def yX12_lost : MethodName := ⟨RX12, "lost", "(I)I"⟩
abbrev cX12_odds : ByteArray := prog_14_method_103_code
def yX12_odds : MethodName := ⟨RX12, "odds", "(I)I"⟩
abbrev cX12_meet : ByteArray := prog_14_method_104_code
def yX12_meet : MethodName := ⟨RX12, "meet", "()I"⟩
abbrev cX12_leaves : ByteArray := prog_14_method_105_code
def yX12_leaves : MethodName := ⟨RX12, "leaves", "(I)I"⟩
abbrev cX12_shifts : ByteArray := prog_14_method_106_code
def yX12_shifts : MethodName := ⟨RX12, "shifts", "(II)I"⟩
abbrev cX12_mostBy : ByteArray := prog_14_method_107_code
def yX12_mostBy : MethodName := ⟨RX12, "mostBy", "(II)I"⟩
abbrev cX12_tells : ByteArray := prog_14_method_108_code
def yX12_tells : MethodName := ⟨RX12, "tells", "(II)I"⟩
abbrev cX12_write : ByteArray := prog_14_method_109_code
def yX12_write : MethodName := ⟨RX12, "write", "(III)Z"⟩
abbrev cX12_erase : ByteArray := prog_14_method_110_code
def yX12_erase : MethodName := ⟨RX12, "erase", "(I)Z"⟩
abbrev cX12_flip : ByteArray := prog_14_method_111_code
def yX12_flip : MethodName := ⟨RX12, "flip", "(II)Z"⟩
abbrev cX12_refresh : ByteArray := prog_14_method_112_code
def yX12_refresh : MethodName := ⟨RX12, "refresh", "(I)I"⟩
abbrev cX12_days : ByteArray := prog_14_method_113_code
def yX12_days : MethodName := ⟨RX12, "days", "(I)I"⟩
abbrev cX12_draw : ByteArray := prog_14_method_114_code
def yX12_draw : MethodName := ⟨RX12, "draw", "(I)I"⟩
abbrev cX12_chance : ByteArray := prog_14_method_115_code
def yX12_chance : MethodName := ⟨RX12, "chance", "(I)I"⟩
abbrev cX12_seed : ByteArray := prog_14_method_116_code
def yX12_seed : MethodName := ⟨RX12, "seed", "(I)Z"⟩
abbrev cX12_kept : ByteArray := prog_14_method_117_code
def yX12_kept : MethodName := ⟨RX12, "kept", "(II)I"⟩
abbrev cX12_writes : ByteArray := prog_14_method_118_code
def yX12_writes : MethodName := ⟨RX12, "writes", "(I)V"⟩
abbrev cX12_image : ByteArray := prog_14_method_119_code
def yX12_image : MethodName := ⟨RX12, "image", "()I"⟩
abbrev cX12_octet : ByteArray := prog_14_method_120_code
def yX12_octet : MethodName := ⟨RX12, "octet", "(I)I"⟩
abbrev cX12_pageOn : ByteArray := prog_14_method_121_code
def yX12_pageOn : MethodName := ⟨RX12, "pageOn", "(III)I"⟩
abbrev cX12_comesOn : ByteArray := prog_14_method_122_code
def yX12_comesOn : MethodName := ⟨RX12, "comesOn", "(I)Z"⟩
abbrev cX12_on : ByteArray := prog_14_method_123_code
def yX12_on : MethodName := ⟨RX12, "on", "()Z"⟩
abbrev cJ13_bitCount_95d88 : ByteArray := prog_15_method_50_code
def yJ13_bitCount_95d88 : MethodName := ⟨RJ13, "bitCount", "(J)I"⟩
abbrev cJ9_floorDiv_f86c9 : ByteArray := prog_16_method_49_code
def yJ9_floorDiv_f86c9 : MethodName := ⟨RJ9, "floorDiv", "(JJ)J"⟩
abbrev cJ9_floorMod_f86c9 : ByteArray := prog_16_method_52_code
def yJ9_floorMod_f86c9 : MethodName := ⟨RJ9, "floorMod", "(JJ)J"⟩
abbrev cJ9_abs_0f7a4 : ByteArray := prog_16_method_59_code
def yJ9_abs_0f7a4 : MethodName := ⟨RJ9, "abs", "(I)I"⟩
abbrev cJ9_max_7cf53 : ByteArray := prog_16_method_65_code
def yJ9_max_7cf53 : MethodName := ⟨RJ9, "max", "(II)I"⟩
abbrev cJ9_max_f86c9 : ByteArray := prog_16_method_66_code
def yJ9_max_f86c9 : MethodName := ⟨RJ9, "max", "(JJ)J"⟩
abbrev cJ9_min_7cf53 : ByteArray := prog_16_method_69_code
def yJ9_min_7cf53 : MethodName := ⟨RJ9, "min", "(II)I"⟩
abbrev cJ9_min_f86c9 : ByteArray := prog_16_method_70_code
def yJ9_min_f86c9 : MethodName := ⟨RJ9, "min", "(JJ)J"⟩
abbrev cJ0_length_8abf5 : ByteArray := prog_17_method_54_code
def yJ0_length_8abf5 : MethodName := ⟨RJ0, "length", "()I"⟩
abbrev cJ0_charAt_5068e : ByteArray := prog_17_method_56_code
def yJ0_charAt_5068e : MethodName := ⟨RJ0, "charAt", "(I)C"⟩
abbrev cJ0_coder_7d493 : ByteArray := prog_17_method_152_code
def yJ0_coder_7d493 : MethodName := ⟨RJ0, "coder", "()B"⟩
abbrev cJ0_isLatin1_aae02 : ByteArray := prog_17_method_154_code
def yJ0_isLatin1_aae02 : MethodName := ⟨RJ0, "isLatin1", "()Z"⟩
abbrev cJ0_checkIndex_df160 : ByteArray := prog_17_method_155_code
def yJ0_checkIndex_df160 : MethodName := ⟨RJ0, "checkIndex", "(II)V"⟩
abbrev cJ1_charAt_3b067 : ByteArray := prog_18_method_2_code
def yJ1_charAt_3b067 : MethodName := ⟨RJ1, "charAt", "([BI)C"⟩
abbrev cJ2_getChar_3b067 : ByteArray := prog_19_method_5_code
def yJ2_getChar_3b067 : MethodName := ⟨RJ2, "getChar", "([BI)C"⟩
abbrev cJ2_length_9d52b : ByteArray := prog_19_method_6_code
def yJ2_length_9d52b : MethodName := ⟨RJ2, "length", "([B)I"⟩
abbrev cJ2_charAt_3b067 : ByteArray := prog_19_method_83_code
def yJ2_charAt_3b067 : MethodName := ⟨RJ2, "charAt", "([BI)C"⟩
abbrev cJ2_checkIndex_2214a : ByteArray := prog_19_method_91_code
def yJ2_checkIndex_2214a : MethodName := ⟨RJ2, "checkIndex", "(I[B)V"⟩
abbrev cJ7_fill_d0a16 : ByteArray := prog_21_method_101_code
def yJ7_fill_d0a16 : MethodName := ⟨RJ7, "fill", "([JJ)V"⟩
abbrev cJ7_fill_53178 : ByteArray := prog_21_method_103_code
def yJ7_fill_53178 : MethodName := ⟨RJ7, "fill", "([II)V"⟩
abbrev cJ3_checkIndex_8e157 : ByteArray := prog_22_method_11_code
def yJ3_checkIndex_8e157 : MethodName := ⟨RJ3, "checkIndex", "(IILjava/util/function/BiFunction;)I"⟩
abbrev cL_law : ByteArray := code
def yL_law : MethodName := ⟨RL, "law", "([I)Z"⟩
def zNm : Nat → String
  | 0 => RX0
  | 1 => RX1
  | 2 => RX2
  | 3 => RX3
  | 4 => RX4
  | 5 => RX5
  | 6 => RX6
  | 7 => RX7
  | 8 => RX8
  | 9 => RX9
  | 10 => RX10
  | 11 => RX11
  | 12 => RX12
  | _ => ""
def zT : Nat → u_T
  | 0 => TX0
  | 1 => TX1
  | 2 => TX2
  | 3 => TX3
  | 4 => TX4
  | 5 => TX5
  | 6 => TX6
  | 7 => TX7
  | 8 => TX8
  | 9 => TX9
  | 10 => TX10
  | 11 => TX11
  | 12 => TX12
  | _ => TX0
def zN : Nat → Nat
  | 0 => 15
  | 1 => 13
  | 2 => 10
  | 3 => 8
  | 4 => 2
  | 5 => 2
  | 6 => 13
  | 7 => 6
  | 8 => 5
  | 9 => 9
  | 10 => 3
  | 11 => 17
  | 12 => 76
  | _ => 0
def zTy : Nat → Nat → FieldType
  | 0 => tyX0
  | 1 => tyX1
  | 2 => tyX2
  | 3 => tyX3
  | 4 => tyX4
  | 5 => tyX5
  | 6 => tyX6
  | 7 => tyX7
  | 8 => tyX8
  | 9 => tyX9
  | 10 => tyX10
  | 11 => tyX11
  | 12 => tyX12
  | _ => tyX0
def zK : Nat → Nat → Nat
  | 0 => fun k => match k with | 0 => 1 | 1 => 20 | 2 => 20 | _ => 99
  | 1 => fun k => match k with | 0 => 20 | 1 => 20 | 2 => 20 | 3 => 21 | 4 => 20 | _ => 99
  | 2 => fun k => match k with | 0 => 20 | 1 => 20 | 2 => 20 | 3 => 20 | 4 => 20 | _ => 99
  | 3 => fun k => match k with | 0 => 2 | 1 => 10 | _ => 99
  | 4 => fun k => match k with | 0 => 20 | _ => 99
  | 5 => fun k => match k with | 0 => 23 | _ => 99
  | 6 => fun k => match k with | 0 => 20 | 1 => 20 | 2 => 0 | _ => 99
  | 7 => fun k => match k with | 0 => 24 | 1 => 20 | 2 => 20 | _ => 99
  | 8 => fun k => match k with | 0 => 20 | _ => 99
  | 9 => fun k => match k with | 0 => 20 | 1 => 20 | 2 => 20 | 3 => 20 | 4 => 20 | _ => 99
  | 10 => fun k => match k with | 0 => 20 | 1 => 20 | _ => 99
  | 11 => fun k => match k with | 0 => 20 | 1 => 20 | 2 => 10 | 3 => 2 | 4 => 3 | 5 => 5 | 6 => 5 | 7 => 8 | 8 => 7 | 9 => 9 | 10 => 4 | 11 => 0 | 12 => 0 | 13 => 6 | _ => 99
  | 12 => fun k => match k with | 0 => 20 | 14 => 20 | 15 => 20 | 16 => 20 | 17 => 20 | 18 => 20 | 19 => 20 | 20 => 21 | 24 => 20 | 25 => 20 | 26 => 22 | 27 => 20 | 28 => 20 | 31 => 20 | 34 => 20 | 36 => 20 | 42 => 20 | 43 => 20 | 44 => 20 | 45 => 20 | 46 => 20 | 47 => 20 | 48 => 20 | 51 => 20 | 54 => 20 | 55 => 20 | 56 => 20 | 57 => 20 | 58 => 21 | 59 => 20 | 60 => 20 | 61 => 20 | 65 => 21 | 66 => 20 | 70 => 20 | 71 => 20 | 72 => 20 | 73 => 20 | 74 => 20 | _ => 99
  | _ => fun _ => 99
abbrev zCl : List vw_C := [(RX0, TX0, 15), (RX1, TX1, 13), (RX2, TX2, 10), (RX3, TX3, 8), (RX4, TX4, 2), (RX5, TX5, 2), (RX6, TX6, 13), (RX7, TX7, 6), (RX8, TX8, 5), (RX9, TX9, 9), (RX10, TX10, 3), (RX11, TX11, 17), (RX12, TX12, 76)]
theorem zIn_of {big : List Cond} (ws : List Cond) (ps : List Nat) (hp : ws = ps.filterMap (fun i => big[i]?)) : ∀ w ∈ ws, w ∈ big := by
  intro w hw
  rw [hp] at hw
  obtain ⟨i, -, hi⟩ := List.mem_filterMap.mp hw
  exact List.mem_of_getElem? hi
def zTb : List Cond := lw_tbl.filter goodWord
theorem zTab {w : Cond} (i : Nat) (h : tables_1[i]? = some w) (hg : goodWord w = true) : w ∈ zTb := List.mem_filter.mpr ⟨List.mem_append_right _ (List.mem_of_getElem? h), hg⟩
theorem zSel {w : Cond} (i : Nat) (h : (k2_sels lw_privs)[i]? = some w) (hg : goodWord w = true) : w ∈ zTb := List.mem_filter.mpr ⟨List.mem_append_left _ (List.mem_of_getElem? h), hg⟩
theorem zGoodTb (big : List Cond) (h : ∀ w ∈ zTb, w ∈ big) : GoodIn big zTb := fun w hw => ⟨h w hw, good_of_word (List.mem_filter.mp hw).2⟩
theorem zW1 {w : Cond} (i : Nat) (h : tables_1_1[i]? = some w) (hg : goodWord w = true) : w ∈ zTb := List.mem_filter.mpr ⟨List.mem_append_right _ (show w ∈ tables_1 from List.mem_append_left _ (List.mem_of_getElem? h)), hg⟩
theorem zW2 {w : Cond} (i : Nat) (h : tables_1_2[i]? = some w) (hg : goodWord w = true) : w ∈ zTb := List.mem_filter.mpr ⟨List.mem_append_right _ (show w ∈ tables_1 from List.mem_append_right _ (List.mem_append_left _ (List.mem_of_getElem? h))), hg⟩
theorem zW3 {w : Cond} (i : Nat) (h : tables_1_3[i]? = some w) (hg : goodWord w = true) : w ∈ zTb := List.mem_filter.mpr ⟨List.mem_append_right _ (show w ∈ tables_1 from List.mem_append_right _ (List.mem_append_right _ (List.mem_append_left _ (List.mem_of_getElem? h)))), hg⟩
theorem zW4 {w : Cond} (i : Nat) (h : tables_1_4[i]? = some w) (hg : goodWord w = true) : w ∈ zTb := List.mem_filter.mpr ⟨List.mem_append_right _ (show w ∈ tables_1 from List.mem_append_right _ (List.mem_append_right _ (List.mem_append_right _ (List.mem_append_left _ (List.mem_of_getElem? h))))), hg⟩
theorem zW5 {w : Cond} (i : Nat) (h : tables_1_5[i]? = some w) (hg : goodWord w = true) : w ∈ zTb := List.mem_filter.mpr ⟨List.mem_append_right _ (show w ∈ tables_1 from List.mem_append_right _ (List.mem_append_right _ (List.mem_append_right _ (List.mem_append_right _ (List.mem_append_left _ (List.mem_of_getElem? h)))))), hg⟩
theorem zW6 {w : Cond} (i : Nat) (h : tables_1_6[i]? = some w) (hg : goodWord w = true) : w ∈ zTb := List.mem_filter.mpr ⟨List.mem_append_right _ (show w ∈ tables_1 from List.mem_append_right _ (List.mem_append_right _ (List.mem_append_right _ (List.mem_append_right _ (List.mem_append_right _ (List.mem_append_left _ (List.mem_of_getElem? h))))))), hg⟩
theorem zW7 {w : Cond} (i : Nat) (h : tables_1_7[i]? = some w) (hg : goodWord w = true) : w ∈ zTb := List.mem_filter.mpr ⟨List.mem_append_right _ (show w ∈ tables_1 from List.mem_append_right _ (List.mem_append_right _ (List.mem_append_right _ (List.mem_append_right _ (List.mem_append_right _ (List.mem_append_right _ (List.mem_append_left _ (List.mem_of_getElem? h)))))))), hg⟩
theorem zW8 {w : Cond} (i : Nat) (h : tables_1_8[i]? = some w) (hg : goodWord w = true) : w ∈ zTb := List.mem_filter.mpr ⟨List.mem_append_right _ (show w ∈ tables_1 from List.mem_append_right _ (List.mem_append_right _ (List.mem_append_right _ (List.mem_append_right _ (List.mem_append_right _ (List.mem_append_right _ (List.mem_append_right _ (List.mem_append_left _ (List.mem_of_getElem? h))))))))), hg⟩
theorem zW9 {w : Cond} (i : Nat) (h : tables_1_9[i]? = some w) (hg : goodWord w = true) : w ∈ zTb := List.mem_filter.mpr ⟨List.mem_append_right _ (show w ∈ tables_1 from List.mem_append_right _ (List.mem_append_right _ (List.mem_append_right _ (List.mem_append_right _ (List.mem_append_right _ (List.mem_append_right _ (List.mem_append_right _ (List.mem_append_right _ (List.mem_of_getElem? h))))))))), hg⟩
theorem zinX0 : ∀ w ∈ u_ws RX0 TX0 15, w ∈ zTb := fun w h => List.mem_filter.mpr ⟨List.mem_append_right _ (zIn_of (u_ws RX0 TX0 15) [391, 393, 395, 397, 399, 401, 403, 405, 407, 409, 411, 413, 415, 417, 419] (by decide +kernel) w h), List.all_eq_true.mp (show (u_ws RX0 TX0 15).all goodWord = true by decide +kernel) w h⟩
theorem zinX1 : ∀ w ∈ u_ws RX1 TX1 13, w ∈ zTb := fun w h => List.mem_filter.mpr ⟨List.mem_append_right _ (zIn_of (u_ws RX1 TX1 13) [314, 316, 318, 320, 322, 324, 326, 328, 330, 332, 334, 336, 338] (by decide +kernel) w h), List.all_eq_true.mp (show (u_ws RX1 TX1 13).all goodWord = true by decide +kernel) w h⟩
theorem zinX2 : ∀ w ∈ u_ws RX2 TX2 10, w ∈ zTb := fun w h => List.mem_filter.mpr ⟨List.mem_append_right _ (zIn_of (u_ws RX2 TX2 10) [71, 73, 75, 77, 79, 81, 83, 85, 87, 89] (by decide +kernel) w h), List.all_eq_true.mp (show (u_ws RX2 TX2 10).all goodWord = true by decide +kernel) w h⟩
theorem zinX3 : ∀ w ∈ u_ws RX3 TX3 8, w ∈ zTb := fun w h => List.mem_filter.mpr ⟨List.mem_append_right _ (zIn_of (u_ws RX3 TX3 8) [112, 114, 116, 118, 120, 122, 124, 126] (by decide +kernel) w h), List.all_eq_true.mp (show (u_ws RX3 TX3 8).all goodWord = true by decide +kernel) w h⟩
theorem zinX4 : ∀ w ∈ u_ws RX4 TX4 2, w ∈ zTb := fun w h => List.mem_filter.mpr ⟨List.mem_append_right _ (zIn_of (u_ws RX4 TX4 2) [266, 268] (by decide +kernel) w h), List.all_eq_true.mp (show (u_ws RX4 TX4 2).all goodWord = true by decide +kernel) w h⟩
theorem zinX5 : ∀ w ∈ u_ws RX5 TX5 2, w ∈ zTb := fun w h => List.mem_filter.mpr ⟨List.mem_append_right _ (zIn_of (u_ws RX5 TX5 2) [181, 183] (by decide +kernel) w h), List.all_eq_true.mp (show (u_ws RX5 TX5 2).all goodWord = true by decide +kernel) w h⟩
theorem zinX6 : ∀ w ∈ u_ws RX6 TX6 13, w ∈ zTb := fun w h => List.mem_filter.mpr ⟨List.mem_append_right _ (zIn_of (u_ws RX6 TX6 13) [499, 501, 503, 505, 507, 509, 511, 513, 515, 517, 519, 521, 523] (by decide +kernel) w h), List.all_eq_true.mp (show (u_ws RX6 TX6 13).all goodWord = true by decide +kernel) w h⟩
theorem zinX7 : ∀ w ∈ u_ws RX7 TX7 6, w ∈ zTb := fun w h => List.mem_filter.mpr ⟨List.mem_append_right _ (zIn_of (u_ws RX7 TX7 6) [204, 206, 208, 210, 212, 214] (by decide +kernel) w h), List.all_eq_true.mp (show (u_ws RX7 TX7 6).all goodWord = true by decide +kernel) w h⟩
theorem zinX8 : ∀ w ∈ u_ws RX8 TX8 5, w ∈ zTb := fun w h => List.mem_filter.mpr ⟨List.mem_append_right _ (zIn_of (u_ws RX8 TX8 5) [164, 166, 168, 170, 172] (by decide +kernel) w h), List.all_eq_true.mp (show (u_ws RX8 TX8 5).all goodWord = true by decide +kernel) w h⟩
theorem zinX9 : ∀ w ∈ u_ws RX9 TX9 9, w ∈ zTb := fun w h => List.mem_filter.mpr ⟨List.mem_append_right _ (zIn_of (u_ws RX9 TX9 9) [237, 239, 241, 243, 245, 247, 249, 251, 253] (by decide +kernel) w h), List.all_eq_true.mp (show (u_ws RX9 TX9 9).all goodWord = true by decide +kernel) w h⟩
theorem zinX10 : ∀ w ∈ u_ws RX10 TX10 3, w ∈ zTb := fun w h => List.mem_filter.mpr ⟨List.mem_append_right _ (zIn_of (u_ws RX10 TX10 3) [39, 41, 43] (by decide +kernel) w h), List.all_eq_true.mp (show (u_ws RX10 TX10 3).all goodWord = true by decide +kernel) w h⟩
theorem zinX11 : ∀ w ∈ u_ws RX11 TX11 17, w ∈ zTb := fun w h => List.mem_filter.mpr ⟨List.mem_append_right _ (zIn_of (u_ws RX11 TX11 17) [544, 546, 548, 550, 552, 554, 556, 558, 560, 562, 564, 566, 568, 570, 572, 574, 576] (by decide +kernel) w h), List.all_eq_true.mp (show (u_ws RX11 TX11 17).all goodWord = true by decide +kernel) w h⟩
theorem zinX12 : ∀ w ∈ u_ws RX12 TX12 76, w ∈ zTb := fun w h => List.mem_filter.mpr ⟨List.mem_append_right _ (zIn_of (u_ws RX12 TX12 76) [1344, 1346, 1348, 1350, 1352, 1354, 1356, 1358, 1360, 1362, 1364, 1366, 1368, 1370, 1372, 1374, 1376, 1378, 1380, 1382, 1384, 1386, 1388, 1390, 1392, 1394, 1396, 1398, 1400, 1402, 1404, 1406, 1408, 1410, 1412, 1414, 1416, 1418, 1420, 1422, 1424, 1426, 1428, 1430, 1432, 1434, 1436, 1438, 1440, 1442, 1444, 1446, 1448, 1450, 1452, 1454, 1456, 1458, 1460, 1462, 1464, 1466, 1468, 1470, 1472, 1474, 1476, 1478, 1480, 1482, 1484, 1486, 1488, 1490, 1492, 1494] (by decide +kernel) w h), List.all_eq_true.mp (show (u_ws RX12 TX12 76).all goodWord = true by decide +kernel) w h⟩
theorem zCl_at : ∀ c, c < 13 → zCl[c]? = some (zNm c, zT c, zN c)
  | 0, _ => rfl
  | 1, _ => rfl
  | 2, _ => rfl
  | 3, _ => rfl
  | 4, _ => rfl
  | 5, _ => rfl
  | 6, _ => rfl
  | 7, _ => rfl
  | 8, _ => rfl
  | 9, _ => rfl
  | 10, _ => rfl
  | 11, _ => rfl
  | 12, _ => rfl
  | n + 13, h => absurd h (by omega)
theorem zIn : ∀ c, c < 13 → ∀ w ∈ u_ws (zNm c) (zT c) (zN c), w ∈ zTb
  | 0, _ => zinX0
  | 1, _ => zinX1
  | 2, _ => zinX2
  | 3, _ => zinX3
  | 4, _ => zinX4
  | 5, _ => zinX5
  | 6, _ => zinX6
  | 7, _ => zinX7
  | 8, _ => zinX8
  | 9, _ => zinX9
  | 10, _ => zinX10
  | 11, _ => zinX11
  | 12, _ => zinX12
  | n + 13, h => absurd h (by omega)
theorem zTyOk : ∀ c, c < 13 → ∀ k, k < zN c → parseFieldDescriptor (zT c k).2.2.1 = some (zTy c k)
  | 0, _ => tyX0_ok
  | 1, _ => tyX1_ok
  | 2, _ => tyX2_ok
  | 3, _ => tyX3_ok
  | 4, _ => tyX4_ok
  | 5, _ => tyX5_ok
  | 6, _ => tyX6_ok
  | 7, _ => tyX7_ok
  | 8, _ => tyX8_ok
  | 9, _ => tyX9_ok
  | 10, _ => tyX10_ok
  | 11, _ => tyX11_ok
  | 12, _ => tyX12_ok
  | n + 13, h => absurd h (by omega)
theorem zNmOk : ∀ c, c < 13 → ∀ a, a < zN c → ∀ b, b < zN c → a ≠ b → (zT c a).2.1 ≠ (zT c b).2.1
  | 0, _ => nmX0
  | 1, _ => nmX1
  | 2, _ => nmX2
  | 3, _ => nmX3
  | 4, _ => nmX4
  | 5, _ => nmX5
  | 6, _ => nmX6
  | 7, _ => nmX7
  | 8, _ => nmX8
  | 9, _ => nmX9
  | 10, _ => nmX10
  | 11, _ => nmX11
  | 12, _ => nmX12
  | n + 13, h => absurd h (by omega)
def zNs : List Cond := [Cond.methodLinkNest "FlashPages" 18 ⟨"FlashPages$Terms", "<init>", "()V"⟩ "FlashPages", Cond.methodLinkNest "FlashPages" 25 ⟨"FlashPages$Decoder", "<init>", "()V"⟩ "FlashPages", Cond.methodLinkNest "FlashPages" 67 ⟨"FlashPages$Shifts", "<init>", "()V"⟩ "FlashPages", Cond.methodLinkNest "FlashPages" 74 ⟨"FlashPages$Image", "<init>", "()V"⟩ "FlashPages", Cond.methodLinkNest "FlashPages" 81 ⟨"FlashPages$Chip", "<init>", "()V"⟩ "FlashPages", Cond.methodLinkNest "FlashPages$Chip" 11 ⟨"FlashPages$Code", "<init>", "()V"⟩ "FlashPages", Cond.methodLinkNest "FlashPages$Terms" 30 ⟨"FlashPages", "bitOf", "(JI)I"⟩ "FlashPages", Cond.methodLinkNest "FlashPages$Terms" 80 ⟨"FlashPages", "older", "(II)I"⟩ "FlashPages", Cond.methodLinkNest "FlashPages$Row" 47 ⟨"FlashPages", "bitOf", "(JI)I"⟩ "FlashPages"]
theorem zNs_in : ∀ w ∈ zNs, w ∈ lw_tbl := fun w h => List.mem_append_right _ (zIn_of zNs [32, 49, 219, 258, 273, 279, 924, 1087, 1153] (by decide +kernel) w h)
end
section
/-! the layout: cells in the order in which they are made -/
def zSHa : List (Nat × Nat) := [(11, 17), (20, 1600), (20, 6), (10, 3), (20, 27), (20, 96), (2, 10), (20, 11), (20, 12), (20, 12), (20, 12), (20, 5), (3, 8), (5, 2), (23, 6), (8, 5), (20, 63), (8, 5), (20, 63), (8, 5), (20, 63), (8, 5), (20, 63), (8, 5), (20, 63), (8, 5), (20, 63), (5, 2), (23, 6), (8, 5), (20, 63), (8, 5), (20, 63), (8, 5), (20, 63), (8, 5), (20, 63), (8, 5), (20, 63), (8, 5), (20, 63), (8, 5), (20, 63), (7, 6), (24, 20), (20, 20), (20, 180)]
def zSHb : List (Nat × Nat) := [(9, 9), (20, 16), (20, 16), (20, 19), (20, 119), (20, 64), (4, 2), (20, 441), (0, 15), (1, 13), (20, 63), (20, 64), (20, 64), (21, 64), (20, 4), (20, 6), (20, 1600), (0, 15), (1, 13), (20, 63), (20, 64), (20, 64), (21, 64), (20, 4), (20, 6), (20, 1600), (6, 13), (20, 27), (12, 76), (20, 1800), (20, 20), (20, 2), (20, 4), (20, 4), (20, 3200), (20, 3200), (21, 12), (20, 20), (20, 20), (22, 20), (20, 20), (20, 20), (20, 500), (20, 64), (20, 6), (20, 64), (20, 64), (20, 70), (20, 12), (20, 14), (20, 14), (20, 14), (20, 64), (20, 3), (20, 22), (20, 132), (20, 132), (21, 132), (20, 8448), (20, 22), (20, 2640), (21, 500), (20, 12), (20, 16), (20, 16), (20, 19), (20, 64), (20, 500)]
def zSHp (k : Nat) : Nat × Nat := if k = 0 then (5, 2) else if k = 1 then (23, 6) else if k % 2 = 0 then (8, 5) else (20, 63)
def zSH (a : Nat) : Nat × Nat := if a < 47 then zSHa.getD a (99, 0) else if a < 327 then zSHp ((a - 47) % 14) else zSHb.getD (a - 327) (99, 0)
def zAT : Nat → FieldType
  | 20 => .int
  | 21 => .long
  | 22 => .boolean
  | 23 => .object "FlashPages$Row"
  | _ => .object "FlashPages$Pages"
def zAK : Nat → Nat
  | 23 => 8
  | 24 => 5
  | _ => 99
end
section
/-! memory: ints, longs, references (0 is null, q + 1 the cell q) of cells and slots -/
abbrev Mem : Type := (Nat → Nat → Int32) × (Nat → Nat → Int64) × (Nat → Nat → Nat)
def zup {α : Type} (f : Nat → α) (k : Nat) (v : α) : Nat → α := fun j => if j = k then v else f j
def zI (M : Mem) (a : Nat) : Nat → Int32 := M.1 a
def zL (M : Mem) (a : Nat) : Nat → Int64 := M.2.1 a
def zR (M : Mem) (a : Nat) : Nat → Nat := M.2.2 a
def zwI (M : Mem) (a : Nat) (f : Nat → Int32) : Mem := (zup M.1 a f, M.2.1, M.2.2)
def zwL (M : Mem) (a : Nat) (f : Nat → Int64) : Mem := (M.1, zup M.2.1 a f, M.2.2)
def zwR (M : Mem) (a : Nat) (f : Nat → Nat) : Mem := (M.1, M.2.1, zup M.2.2 a f)
def zsI (M : Mem) (a k : Nat) (v : Int32) : Mem := zwI M a (zup (zI M a) k v)
def zsL (M : Mem) (a k : Nat) (v : Int64) : Mem := zwL M a (zup (zL M a) k v)
def zsR (M : Mem) (a k : Nat) (v : Nat) : Mem := zwR M a (zup (zR M a) k v)
def znew (M : Mem) (a : Nat) : Mem := zwR (zwL (zwI M a (fun _ => 0)) a (fun _ => 0)) a (fun _ => 0)
def zrf (M : Mem) (a k : Nat) : Option Nat := match zR M a k with
  | 0 => none
  | q + 1 => some q
def zld (a : Nat) (i : Int32) : Option Nat := if i < 0 ∨ (zSH a).2 ≤ i.toNatClampNeg then none else some i.toNatClampNeg
def zO (n a k : Nat) : Prop := a < n ∧ (zSH a).1 = k
/-! the machine's values -/
abbrev zSg : Type := Nat × (Nat → Nat)
def zad (b : zSg) (q : Nat) : Nat := if q < 1000000 then b.1 + q else b.2 q
def zrv (b : zSg) : Value → Value
  | .ref q => .ref (zad b q)
  | v => v
def zre (b : zSg) : Nat → Value
  | 0 => .null
  | q + 1 => .ref (b.1 + q)
def zvk : FieldType → Nat
  | .long => 1
  | .object _ => 2
  | .array _ => 2
  | .boolean => 3
  | .int => 0
  | _ => 4
def zva (b : zSg) (M : Mem) (ty : FieldType) (a j : Nat) : Value := match zvk ty with
  | 1 => .long (zL M a j)
  | 2 => zre b (zR M a j)
  | _ => .int (zI M a j)
def zCell (dC : Nat → ClassId) (dI : Nat → Nat → Nat) (s : State) (b : zSg) (M : Mem) (H : Heap) (a : Nat) : Prop :=
  if (zSH a).1 < 13 then t_OB (b.1 + a) (dC (zSH a).1) (zN (zSH a).1) (dI (zSH a).1) H (fun j => zva b M (zTy (zSH a).1 j) a j)
  else ∃ cA : ClassId, ArrOfT s cA (zAT (zSH a).1) ∧ va_RA s cA (zAT (zSH a).1) ∧ H[b.1 + a]? = some (arrV cA (zSH a).2 (fun j => zva b M (zAT (zSH a).1) a j))
def zKd (k j : Nat) : Nat := if k < 13 then zK k j else zAK k
def zWT (n : Nat) (M : Mem) : Prop := ∀ a, a < n → ∀ j, zR M a j ≠ 0 → zO n (zR M a j - 1) (zKd (zSH a).1 j)
def zRL (dC : Nat → ClassId) (dI : Nat → Nat → Nat) (b : zSg) (s : State) (n : Nat) (M : Mem) (H : Heap) : Prop :=
  H.size = b.1 + n ∧ n ≤ 1000000 ∧ (∀ a, a < n → zCell dC dI s b M H a) ∧ zWT n M
/-! the running frame -/
abbrev KX : Type := Program × Launch × Env × Room × State × MethodId × Array Value × List Frame × Method × Code × (Nat → ClassId) × (Nat → Nat → Nat) × zSg × Nat × Nat × Nat
def zRm (d mc ms : Nat) : Room := { frames := d, cells := mc, slots := ms, locals := 64 * d }
def zRmOk (R : Room) (d mc ms : Nat) : Prop := d ≤ R.frames ∧ 64 * d ≤ R.locals ∧ R.cells = mc ∧ R.slots = ms
def zQ (dC : Nat → ClassId) (dI : Nat → Nat → Nat) (b : zSg) (n' : Nat) (ov : Option Value) (M' : Mem) : Array Value → State → Outcome → State → Prop := fun _ st o t =>
  o = .returned (ov.map (zrv b)) ∧ zRL dC dI b t n' M' t.heap ∧ st.heap.size ≤ t.heap.size ∧ (∀ q, q < b.1 → t.heap[q]? = st.heap[q]?)
def LH (b : zSg) (ls : Array Slot) (nL : Nat) (L : List Value) : Prop := ls.size = nL ∧ lv_wf ls ∧ ∀ (i : Nat) (v : Value), L[i]? = some v → v ≠ .null → ls[i]? = some (.val (zrv b v))
def CX (κ : KX) (cc : ByteArray) (own : String) (nL : Nat) (ret : Option FieldType) (d : Nat) : Prop := match κ with
  | (p, _, _, R, s, m, args, _, meth, c, dC, dI, _, mc, ms, _) => p.tables.exec = Jvm.exec ∧ c.code = cc ∧ c.maxLocals = nL ∧ s.vm.findClass own = some m.cls ∧ (∀ w ∈ zTb, w.before args s = true) ∧ meth.sig.returnType = ret ∧ meth.locks = false ∧ va_K (dC, dI) zCl [] s ∧ zRmOk R d mc ms ∧ ∀ w ∈ zNs, va_Nw w s
def zIn2 (κ : KX) (n : Nat) (M : Mem) (H : Heap) (locs : List Loc) : Prop := match κ with
  | (_, _, _, _, s, _, _, _, _, _, dC, dI, b, _, _, _) => zRL dC dI b s n M H ∧ (∀ q ∈ locs, b.1 ≤ q.base) ∧ s.heap.size ≤ H.size ∧ b.1 ≤ s.heap.size ∧ ∀ q, q < b.1 → H[q]? = s.heap[q]?
def zGo {α : Type} (κ : KX) (em : α → Option Value × Mem) (cs : Nat × Nat) (H : Heap) (locs : List Loc) (pc : Nat) (ls : Array Slot) (st : List Value) (x : α) : Prop := match κ with
  | (p, l, e, R, s, m, args, below, meth, c, dC, dI, b, mc, ms, n') => W p l e R s m args below meth c H locs cs.1 cs.2 (MQ below (zQ dC dI b n' (em x).1 (em x).2) args s mc ms (fun q => b.1 ≤ q)) (F0 m pc ls (st.map (zrv b)))
def zb (κ : KX) : zSg := match κ with
  | (_, _, _, _, _, _, _, _, _, _, _, _, b, _, _, _) => b
def X {α : Type} (κ : KX) (nL : Nat) (em : α → Option Value × Mem) (n : Nat) (cs : Nat × Nat) (pc : Nat) (L st : List Value) (M : Mem) (res : Option α) : Prop :=
  ∀ x, res = some x → ∀ (H : Heap) (locs : List Loc) (ls : Array Slot), zIn2 κ n M H locs → LH (zb κ) ls nL L → zGo κ em cs H locs pc ls st x
def emI : Int32 × Mem → Option Value × Mem := fun x => (some (.int x.1), x.2)
def emL : Int64 × Mem → Option Value × Mem := fun x => (some (.long x.1), x.2)
def emV : Mem → Option Value × Mem := fun x => (none, x)
/-! storing into locals -/
def zst1 : List Value → Nat → Value → List Value
  | [], _, _ => []
  | _ :: L, 0, v => v :: L
  | a :: L, 1, v => (if a.category = 2 then .null else a) :: zst1 L 0 v
  | a :: L, i + 2, v => a :: zst1 L (i + 1) v
def zcl0 : List Value → List Value
  | [] => []
  | _ :: L => .null :: L
def zst2 : List Value → Nat → Value → List Value
  | [], _, _ => []
  | _ :: L, 0, v => v :: zcl0 L
  | a :: L, 1, v => (if a.category = 2 then .null else a) :: zst2 L 0 v
  | a :: L, i + 2, v => a :: zst2 L (i + 1) v
theorem zst1_get (L : List Value) : ∀ (i : Nat) (x : Value) (j : Nat) (v : Value), (zst1 L i x)[j]? = some v → v ≠ .null → (j = i ∧ v = x) ∨ (j ≠ i ∧ L[j]? = some v ∧ ¬ (j + 1 = i ∧ v.category = 2)) := by
  induction L with
  | nil => intro i x j v h; simp [zst1] at h
  | cons a L ih =>
    intro i x j v h hv
    match i, j with
    | 0, 0 => simp [zst1] at h; exact Or.inl ⟨rfl, h.symm⟩
    | 0, j + 1 => simp [zst1] at h; exact Or.inr ⟨by omega, by simpa using h, by omega⟩
    | 1, 0 =>
      simp [zst1] at h
      by_cases ha : a.category = 2
      · rw [if_pos ha] at h; exact absurd h.symm hv
      · rw [if_neg ha] at h; subst h; exact Or.inr ⟨by omega, by simp, fun q => ha q.2⟩
    | 1, j + 1 =>
      have h' : (zst1 L 0 x)[j]? = some v := by simpa [zst1] using h
      rcases ih 0 x j v h' hv with ⟨h1, h2⟩ | ⟨h1, h2, h3⟩
      · exact Or.inl ⟨by omega, h2⟩
      · exact Or.inr ⟨by omega, by simpa using h2, by omega⟩
    | i + 2, 0 => simp [zst1] at h; exact Or.inr ⟨by omega, by simpa using h, by omega⟩
    | i + 2, j + 1 =>
      have h' : (zst1 L (i + 1) x)[j]? = some v := by simpa [zst1] using h
      rcases ih (i + 1) x j v h' hv with ⟨h1, h2⟩ | ⟨h1, h2, h3⟩
      · exact Or.inl ⟨by omega, h2⟩
      · exact Or.inr ⟨by omega, by simpa using h2, fun q => h3 ⟨by omega, q.2⟩⟩
theorem zst2_get (L : List Value) : ∀ (i : Nat) (x : Value) (j : Nat) (v : Value), (zst2 L i x)[j]? = some v → v ≠ .null → (j = i ∧ v = x) ∨ (j ≠ i ∧ j ≠ i + 1 ∧ L[j]? = some v ∧ ¬ (j + 1 = i ∧ v.category = 2)) := by
  induction L with
  | nil => intro i x j v h; simp [zst2] at h
  | cons a L ih =>
    intro i x j v h hv
    match i, j with
    | 0, 0 => simp [zst2] at h; exact Or.inl ⟨rfl, h.symm⟩
    | 0, 1 =>
      cases L with
      | nil => simp [zst2, zcl0] at h
      | cons c L => simp [zst2, zcl0] at h; exact absurd h.symm hv
    | 0, j + 2 =>
      cases L with
      | nil => simp [zst2, zcl0] at h
      | cons c L => simp [zst2, zcl0] at h; exact Or.inr ⟨by omega, by omega, by simpa using h, by omega⟩
    | 1, 0 =>
      simp [zst2] at h
      by_cases ha : a.category = 2
      · rw [if_pos ha] at h; exact absurd h.symm hv
      · rw [if_neg ha] at h; subst h; exact Or.inr ⟨by omega, by omega, by simp, fun q => ha q.2⟩
    | 1, j + 1 =>
      have h' : (zst2 L 0 x)[j]? = some v := by simpa [zst2] using h
      rcases ih 0 x j v h' hv with ⟨h1, h2⟩ | ⟨h1, h2, h3, h4⟩
      · exact Or.inl ⟨by omega, h2⟩
      · exact Or.inr ⟨by omega, by omega, by simpa using h3, by omega⟩
    | i + 2, 0 => simp [zst2] at h; exact Or.inr ⟨by omega, by omega, by simpa using h, by omega⟩
    | i + 2, j + 1 =>
      have h' : (zst2 L (i + 1) x)[j]? = some v := by simpa [zst2] using h
      rcases ih (i + 1) x j v h' hv with ⟨h1, h2⟩ | ⟨h1, h2, h3, h4⟩
      · exact Or.inl ⟨by omega, h2⟩
      · exact Or.inr ⟨by omega, by omega, by simpa using h3, fun q => h4 ⟨by omega, q.2⟩⟩
def zasc (b : zSg) (L : List Value) : List (Nat × Value) := (List.range L.length).filterMap (fun i => match L[i]? with
  | some v => if v = .null then none else some (i, zrv b v)
  | none => none)
theorem zasc_mem {b : zSg} {L : List Value} {i : Nat} {w : Value} : (i, w) ∈ zasc b L ↔ ∃ v, L[i]? = some v ∧ v ≠ .null ∧ w = zrv b v := by
  unfold zasc
  rw [List.mem_filterMap]
  constructor
  · rintro ⟨k, hk, h⟩
    cases hL : L[k]? with
    | none => rw [hL] at h; cases h
    | some v =>
      rw [hL] at h
      by_cases hv : v = .null
      · simp [hv] at h
      · simp [hv] at h
        obtain ⟨rfl, rfl⟩ := h
        exact ⟨v, hL, hv, rfl⟩
  · rintro ⟨v, hL, hv, rfl⟩
    exact ⟨i, List.mem_range.mpr (List.getElem?_eq_some_iff.mp hL).1, by rw [hL]; simp [hv]⟩
theorem LH.has {b : zSg} {ls : Array Slot} {nL : Nat} {L : List Value} (h : LH b ls nL L) : lv_has ls nL (zasc b L) := by
  refine ⟨h.1, h.2.1, ?_⟩
  rintro ⟨i, w⟩ hq
  obtain ⟨v, hL, hv, rfl⟩ := zasc_mem.mp hq
  exact h.2.2 i v hL hv
theorem zrv_cat (b : zSg) (v : Value) : (zrv b v).category = v.category := by cases v <;> rfl
theorem zrv_null {b : zSg} {v : Value} (h : v ≠ .null) : zrv b v ≠ .null := by cases v <;> simp_all [zrv]
theorem LH.st1 {b : zSg} {ls' : Array Slot} {nL i : Nat} {L : List Value} {x : Value} (h : lv_has ls' nL ((i, zrv b x) :: (zasc b L).filter (fun q => !(q.1 == i) && !(q.1 + 1 == i && q.2.category == 2)))) : LH b ls' nL (zst1 L i x) := by
  refine ⟨h.1, h.2.1, fun j v hj hv => ?_⟩
  rcases zst1_get L i x j v hj hv with ⟨rfl, rfl⟩ | ⟨h1, h2, h3⟩
  · exact h.2.2 (j, zrv b v) List.mem_cons_self
  · refine h.2.2 (j, zrv b v) (List.mem_cons_of_mem _ (List.mem_filter.mpr ⟨zasc_mem.mpr ⟨v, h2, hv, rfl⟩, ?_⟩))
    simp only [zrv_cat]
    simp [h1]
    by_cases h4 : j + 1 = i
    · exact Or.inr fun h5 => h3 ⟨h4, h5⟩
    · exact Or.inl h4
theorem LH.st2 {b : zSg} {ls' : Array Slot} {nL i : Nat} {L : List Value} {x : Value} (h : lv_has ls' nL ((i, zrv b x) :: (zasc b L).filter (fun q => !(q.1 == i) && (!(q.1 == i + 1) && !(q.1 + 1 == i && q.2.category == 2))))) : LH b ls' nL (zst2 L i x) := by
  refine ⟨h.1, h.2.1, fun j v hj hv => ?_⟩
  rcases zst2_get L i x j v hj hv with ⟨rfl, rfl⟩ | ⟨h1, h1', h2, h3⟩
  · exact h.2.2 (j, zrv b v) List.mem_cons_self
  · refine h.2.2 (j, zrv b v) (List.mem_cons_of_mem _ (List.mem_filter.mpr ⟨zasc_mem.mpr ⟨v, h2, hv, rfl⟩, ?_⟩))
    simp only [zrv_cat]
    simp [h1, h1']
    by_cases h4 : j + 1 = i
    · exact Or.inr fun h5 => h3 ⟨h4, h5⟩
    · exact Or.inl h4
/-! decode tables -/
theorem zdk {cc : ByteArray} {T : List (Nat × Instr × Nat)} (h : T.all (fun q => decide (decode cc q.1 = .ok q.2)) = true) (i : Nat) {pc len : Nat} {ins : Instr} (hi : T[i]? = some (pc, ins, len)) : decode cc pc = .ok (ins, len) := by
  have := List.all_eq_true.mp h _ (List.mem_of_getElem? hi)
  exact of_decide_eq_true this
end
section
/-! one row an instruction, over the memory -/
section
variable {α : Type} {κ : KX} {nL : Nat} {em : α → Option Value × Mem} {n : Nat} {cs : Nat × Nat} {pc q : Nat} {L st : List Value} {M : Mem} {res : Option α} {cc : ByteArray} {own : String} {ret : Option FieldType} {d : Nat}
def zlush (x : Int64) (y : Int32) : Int64 := (x.toUInt64 >>> (y.toInt64.toUInt64 &&& Int64.toUInt64 63)).toInt64
def zrem (x y : Int32) : Int32 := x - x / y * y
def zlrem (x y : Int64) : Int64 := x - x / y * y
theorem x_iadd {x y : Int32} (hC : CX κ cc own nL ret d) (hd : decode cc pc = .ok (.iadd, 1)) (hq : pc + 1 = q) (k : X κ nL em n cs q L (.int (x + y) :: st) M res) : X κ nL em n cs pc L (.int y :: .int x :: st) M res := by
  subst hq
  obtain ⟨p, l, e, R, s, m, args, below, meth, c, dC, dI, b, mc, ms, n'⟩ := κ
  obtain ⟨hx, hb, hml, hown, hts, hr, hlk, hK, hR, hNs⟩ := hC
  intro r hr0 H locs ls h2 hl
  exact lv_iadd hx hb hd (k r hr0 H locs ls h2 hl)
theorem x_isub {x y : Int32} (hC : CX κ cc own nL ret d) (hd : decode cc pc = .ok (.isub, 1)) (hq : pc + 1 = q) (k : X κ nL em n cs q L (.int (x - y) :: st) M res) : X κ nL em n cs pc L (.int y :: .int x :: st) M res := by
  subst hq
  obtain ⟨p, l, e, R, s, m, args, below, meth, c, dC, dI, b, mc, ms, n'⟩ := κ
  obtain ⟨hx, hb, hml, hown, hts, hr, hlk, hK, hR, hNs⟩ := hC
  intro r hr0 H locs ls h2 hl
  exact lv_isub hx hb hd (k r hr0 H locs ls h2 hl)
theorem x_imul {x y : Int32} (hC : CX κ cc own nL ret d) (hd : decode cc pc = .ok (.imul, 1)) (hq : pc + 1 = q) (k : X κ nL em n cs q L (.int (x * y) :: st) M res) : X κ nL em n cs pc L (.int y :: .int x :: st) M res := by
  subst hq
  obtain ⟨p, l, e, R, s, m, args, below, meth, c, dC, dI, b, mc, ms, n'⟩ := κ
  obtain ⟨hx, hb, hml, hown, hts, hr, hlk, hK, hR, hNs⟩ := hC
  intro r hr0 H locs ls h2 hl
  exact lv_imul hx hb hd (k r hr0 H locs ls h2 hl)
theorem x_iand {x y : Int32} (hC : CX κ cc own nL ret d) (hd : decode cc pc = .ok (.iand, 1)) (hq : pc + 1 = q) (k : X κ nL em n cs q L (.int (x &&& y) :: st) M res) : X κ nL em n cs pc L (.int y :: .int x :: st) M res := by
  subst hq
  obtain ⟨p, l, e, R, s, m, args, below, meth, c, dC, dI, b, mc, ms, n'⟩ := κ
  obtain ⟨hx, hb, hml, hown, hts, hr, hlk, hK, hR, hNs⟩ := hC
  intro r hr0 H locs ls h2 hl
  exact lv_iand hx hb hd (k r hr0 H locs ls h2 hl)
theorem x_ior {x y : Int32} (hC : CX κ cc own nL ret d) (hd : decode cc pc = .ok (.ior, 1)) (hq : pc + 1 = q) (k : X κ nL em n cs q L (.int (x ||| y) :: st) M res) : X κ nL em n cs pc L (.int y :: .int x :: st) M res := by
  subst hq
  obtain ⟨p, l, e, R, s, m, args, below, meth, c, dC, dI, b, mc, ms, n'⟩ := κ
  obtain ⟨hx, hb, hml, hown, hts, hr, hlk, hK, hR, hNs⟩ := hC
  intro r hr0 H locs ls h2 hl
  exact lv_ior hx hb hd (k r hr0 H locs ls h2 hl)
theorem x_ixor {x y : Int32} (hC : CX κ cc own nL ret d) (hd : decode cc pc = .ok (.ixor, 1)) (hq : pc + 1 = q) (k : X κ nL em n cs q L (.int (x ^^^ y) :: st) M res) : X κ nL em n cs pc L (.int y :: .int x :: st) M res := by
  subst hq
  obtain ⟨p, l, e, R, s, m, args, below, meth, c, dC, dI, b, mc, ms, n'⟩ := κ
  obtain ⟨hx, hb, hml, hown, hts, hr, hlk, hK, hR, hNs⟩ := hC
  intro r hr0 H locs ls h2 hl
  exact lv_ixor hx hb hd (k r hr0 H locs ls h2 hl)
theorem x_ishl {x y : Int32} (hC : CX κ cc own nL ret d) (hd : decode cc pc = .ok (.ishl, 1)) (hq : pc + 1 = q) (k : X κ nL em n cs q L (.int (x <<< (y &&& 31)) :: st) M res) : X κ nL em n cs pc L (.int y :: .int x :: st) M res := by
  subst hq
  obtain ⟨p, l, e, R, s, m, args, below, meth, c, dC, dI, b, mc, ms, n'⟩ := κ
  obtain ⟨hx, hb, hml, hown, hts, hr, hlk, hK, hR, hNs⟩ := hC
  intro r hr0 H locs ls h2 hl
  exact lv_ishl hx hb hd (k r hr0 H locs ls h2 hl)
theorem x_ishr {x y : Int32} (hC : CX κ cc own nL ret d) (hd : decode cc pc = .ok (.ishr, 1)) (hq : pc + 1 = q) (k : X κ nL em n cs q L (.int (x >>> (y &&& 31)) :: st) M res) : X κ nL em n cs pc L (.int y :: .int x :: st) M res := by
  subst hq
  obtain ⟨p, l, e, R, s, m, args, below, meth, c, dC, dI, b, mc, ms, n'⟩ := κ
  obtain ⟨hx, hb, hml, hown, hts, hr, hlk, hK, hR, hNs⟩ := hC
  intro r hr0 H locs ls h2 hl
  exact lv_ishr hx hb hd (k r hr0 H locs ls h2 hl)
theorem x_ladd {x y : Int64} (hC : CX κ cc own nL ret d) (hd : decode cc pc = .ok (.ladd, 1)) (hq : pc + 1 = q) (k : X κ nL em n cs q L (.long (x + y) :: st) M res) : X κ nL em n cs pc L (.long y :: .long x :: st) M res := by
  subst hq
  obtain ⟨p, l, e, R, s, m, args, below, meth, c, dC, dI, b, mc, ms, n'⟩ := κ
  obtain ⟨hx, hb, hml, hown, hts, hr, hlk, hK, hR, hNs⟩ := hC
  intro r hr0 H locs ls h2 hl
  exact lv_ladd hx hb hd (k r hr0 H locs ls h2 hl)
theorem x_lsub {x y : Int64} (hC : CX κ cc own nL ret d) (hd : decode cc pc = .ok (.lsub, 1)) (hq : pc + 1 = q) (k : X κ nL em n cs q L (.long (x - y) :: st) M res) : X κ nL em n cs pc L (.long y :: .long x :: st) M res := by
  subst hq
  obtain ⟨p, l, e, R, s, m, args, below, meth, c, dC, dI, b, mc, ms, n'⟩ := κ
  obtain ⟨hx, hb, hml, hown, hts, hr, hlk, hK, hR, hNs⟩ := hC
  intro r hr0 H locs ls h2 hl
  exact lv_lsub hx hb hd (k r hr0 H locs ls h2 hl)
theorem x_lmul {x y : Int64} (hC : CX κ cc own nL ret d) (hd : decode cc pc = .ok (.lmul, 1)) (hq : pc + 1 = q) (k : X κ nL em n cs q L (.long (x * y) :: st) M res) : X κ nL em n cs pc L (.long y :: .long x :: st) M res := by
  subst hq
  obtain ⟨p, l, e, R, s, m, args, below, meth, c, dC, dI, b, mc, ms, n'⟩ := κ
  obtain ⟨hx, hb, hml, hown, hts, hr, hlk, hK, hR, hNs⟩ := hC
  intro r hr0 H locs ls h2 hl
  exact lv_lmul hx hb hd (k r hr0 H locs ls h2 hl)
theorem x_land {x y : Int64} (hC : CX κ cc own nL ret d) (hd : decode cc pc = .ok (.land, 1)) (hq : pc + 1 = q) (k : X κ nL em n cs q L (.long (x &&& y) :: st) M res) : X κ nL em n cs pc L (.long y :: .long x :: st) M res := by
  subst hq
  obtain ⟨p, l, e, R, s, m, args, below, meth, c, dC, dI, b, mc, ms, n'⟩ := κ
  obtain ⟨hx, hb, hml, hown, hts, hr, hlk, hK, hR, hNs⟩ := hC
  intro r hr0 H locs ls h2 hl
  exact lv_land hx hb hd (k r hr0 H locs ls h2 hl)
theorem x_lor {x y : Int64} (hC : CX κ cc own nL ret d) (hd : decode cc pc = .ok (.lor, 1)) (hq : pc + 1 = q) (k : X κ nL em n cs q L (.long (x ||| y) :: st) M res) : X κ nL em n cs pc L (.long y :: .long x :: st) M res := by
  subst hq
  obtain ⟨p, l, e, R, s, m, args, below, meth, c, dC, dI, b, mc, ms, n'⟩ := κ
  obtain ⟨hx, hb, hml, hown, hts, hr, hlk, hK, hR, hNs⟩ := hC
  intro r hr0 H locs ls h2 hl
  exact lv_lor hx hb hd (k r hr0 H locs ls h2 hl)
theorem x_lxor {x y : Int64} (hC : CX κ cc own nL ret d) (hd : decode cc pc = .ok (.lxor, 1)) (hq : pc + 1 = q) (k : X κ nL em n cs q L (.long (x ^^^ y) :: st) M res) : X κ nL em n cs pc L (.long y :: .long x :: st) M res := by
  subst hq
  obtain ⟨p, l, e, R, s, m, args, below, meth, c, dC, dI, b, mc, ms, n'⟩ := κ
  obtain ⟨hx, hb, hml, hown, hts, hr, hlk, hK, hR, hNs⟩ := hC
  intro r hr0 H locs ls h2 hl
  exact lv_lxor hx hb hd (k r hr0 H locs ls h2 hl)
theorem x_lshl {x : Int64} {y : Int32} (hC : CX κ cc own nL ret d) (hd : decode cc pc = .ok (.lshl, 1)) (hq : pc + 1 = q) (k : X κ nL em n cs q L (.long (x <<< (y.toInt64 &&& 63)) :: st) M res) : X κ nL em n cs pc L (.int y :: .long x :: st) M res := by
  subst hq
  obtain ⟨p, l, e, R, s, m, args, below, meth, c, dC, dI, b, mc, ms, n'⟩ := κ
  obtain ⟨hx, hb, hml, hown, hts, hr, hlk, hK, hR, hNs⟩ := hC
  intro r hr0 H locs ls h2 hl
  exact lv_lshl hx hb hd rfl (k r hr0 H locs ls h2 hl)
theorem x_lshr {x : Int64} {y : Int32} (hC : CX κ cc own nL ret d) (hd : decode cc pc = .ok (.lshr, 1)) (hq : pc + 1 = q) (k : X κ nL em n cs q L (.long (x >>> (y.toInt64 &&& 63)) :: st) M res) : X κ nL em n cs pc L (.int y :: .long x :: st) M res := by
  subst hq
  obtain ⟨p, l, e, R, s, m, args, below, meth, c, dC, dI, b, mc, ms, n'⟩ := κ
  obtain ⟨hx, hb, hml, hown, hts, hr, hlk, hK, hR, hNs⟩ := hC
  intro r hr0 H locs ls h2 hl
  exact lv_lshr hx hb hd rfl (k r hr0 H locs ls h2 hl)
theorem x_lushr {x : Int64} {y : Int32} (hC : CX κ cc own nL ret d) (hd : decode cc pc = .ok (.lushr, 1)) (hq : pc + 1 = q) (k : X κ nL em n cs q L (.long (zlush x y) :: st) M res) : X κ nL em n cs pc L (.int y :: .long x :: st) M res := by
  subst hq
  obtain ⟨p, l, e, R, s, m, args, below, meth, c, dC, dI, b, mc, ms, n'⟩ := κ
  obtain ⟨hx, hb, hml, hown, hts, hr, hlk, hK, hR, hNs⟩ := hC
  intro r hr0 H locs ls h2 hl
  exact lv_lushr hx hb hd rfl (k r hr0 H locs ls h2 hl)
theorem x_ineg {x : Int32} (hC : CX κ cc own nL ret d) (hd : decode cc pc = .ok (.ineg, 1)) (hq : pc + 1 = q) (k : X κ nL em n cs q L (.int (-x) :: st) M res) : X κ nL em n cs pc L (.int x :: st) M res := by
  subst hq
  obtain ⟨p, l, e, R, s, m, args, below, meth, c, dC, dI, b, mc, ms, n'⟩ := κ
  obtain ⟨hx, hb, hml, hown, hts, hr, hlk, hK, hR, hNs⟩ := hC
  intro r hr0 H locs ls h2 hl
  exact lv_ineg hx hb hd (k r hr0 H locs ls h2 hl)
theorem x_i2l {x : Int32} (hC : CX κ cc own nL ret d) (hd : decode cc pc = .ok (.i2l, 1)) (hq : pc + 1 = q) (k : X κ nL em n cs q L (.long x.toInt64 :: st) M res) : X κ nL em n cs pc L (.int x :: st) M res := by
  subst hq
  obtain ⟨p, l, e, R, s, m, args, below, meth, c, dC, dI, b, mc, ms, n'⟩ := κ
  obtain ⟨hx, hb, hml, hown, hts, hr, hlk, hK, hR, hNs⟩ := hC
  intro r hr0 H locs ls h2 hl
  exact lv_i2l hx hb hd rfl (k r hr0 H locs ls h2 hl)
theorem x_l2i {x : Int64} (hC : CX κ cc own nL ret d) (hd : decode cc pc = .ok (.l2i, 1)) (hq : pc + 1 = q) (k : X κ nL em n cs q L (.int x.toInt32 :: st) M res) : X κ nL em n cs pc L (.long x :: st) M res := by
  subst hq
  obtain ⟨p, l, e, R, s, m, args, below, meth, c, dC, dI, b, mc, ms, n'⟩ := κ
  obtain ⟨hx, hb, hml, hown, hts, hr, hlk, hK, hR, hNs⟩ := hC
  intro r hr0 H locs ls h2 hl
  exact lv_l2i hx hb hd rfl (k r hr0 H locs ls h2 hl)
theorem x_lcmp {x y : Int64} (hC : CX κ cc own nL ret d) (hd : decode cc pc = .ok (.lcmp, 1)) (hq : pc + 1 = q) (k : X κ nL em n cs q L (.int (lg_cmp x y) :: st) M res) : X κ nL em n cs pc L (.long y :: .long x :: st) M res := by
  subst hq
  obtain ⟨p, l, e, R, s, m, args, below, meth, c, dC, dI, b, mc, ms, n'⟩ := κ
  obtain ⟨hx, hb, hml, hown, hts, hr, hlk, hK, hR, hNs⟩ := hC
  intro r hr0 H locs ls h2 hl
  exact W.lcmp hx hb hd (k r hr0 H locs ls h2 hl)
theorem x_idiv {x y : Int32} (hne : ¬ y = 0) (hC : CX κ cc own nL ret d) (hd : decode cc pc = .ok (.idiv, 1)) (hq : pc + 1 = q) (k : X κ nL em n cs q L (.int (x / y) :: st) M res) : X κ nL em n cs pc L (.int y :: .int x :: st) M res := by
  subst hq
  obtain ⟨p, l, e, R, s, m, args, below, meth, c, dC, dI, b, mc, ms, n'⟩ := κ
  obtain ⟨hx, hb, hml, hown, hts, hr, hlk, hK, hR, hNs⟩ := hC
  intro r hr0 H locs ls h2 hl
  exact lv_idiv hx hb hd hne (k r hr0 H locs ls h2 hl)
theorem x_idivG {x y : Int32} (hC : CX κ cc own nL ret d) (hd : decode cc pc = .ok (.idiv, 1)) (hq : pc + 1 = q) (k : X κ nL em n cs q L (.int (x / y) :: st) M res) : X κ nL em n cs pc L (.int y :: .int x :: st) M (if y = 0 then none else res) := by
  by_cases h : y = 0
  · rw [if_pos h]; intro r hr; cases hr
  · rw [if_neg h]; exact x_idiv h hC hd hq k
theorem x_irem {x y : Int32} (hne : ¬ y = 0) (hC : CX κ cc own nL ret d) (hd : decode cc pc = .ok (.irem, 1)) (hq : pc + 1 = q) (k : X κ nL em n cs q L (.int (zrem x y) :: st) M res) : X κ nL em n cs pc L (.int y :: .int x :: st) M res := by
  subst hq
  obtain ⟨p, l, e, R, s, m, args, below, meth, c, dC, dI, b, mc, ms, n'⟩ := κ
  obtain ⟨hx, hb, hml, hown, hts, hr, hlk, hK, hR, hNs⟩ := hC
  intro r hr0 H locs ls h2 hl
  exact lv_irem hx hb hd hne (k r hr0 H locs ls h2 hl)
theorem x_iremG {x y : Int32} (hC : CX κ cc own nL ret d) (hd : decode cc pc = .ok (.irem, 1)) (hq : pc + 1 = q) (k : X κ nL em n cs q L (.int (zrem x y) :: st) M res) : X κ nL em n cs pc L (.int y :: .int x :: st) M (if y = 0 then none else res) := by
  by_cases h : y = 0
  · rw [if_pos h]; intro r hr; cases hr
  · rw [if_neg h]; exact x_irem h hC hd hq k
theorem x_ldiv {x y : Int64} (hne : ¬ y = 0) (hC : CX κ cc own nL ret d) (hd : decode cc pc = .ok (.ldiv, 1)) (hq : pc + 1 = q) (k : X κ nL em n cs q L (.long (x / y) :: st) M res) : X κ nL em n cs pc L (.long y :: .long x :: st) M res := by
  subst hq
  obtain ⟨p, l, e, R, s, m, args, below, meth, c, dC, dI, b, mc, ms, n'⟩ := κ
  obtain ⟨hx, hb, hml, hown, hts, hr, hlk, hK, hR, hNs⟩ := hC
  intro r hr0 H locs ls h2 hl
  exact lv_ldiv hx hb hd hne (k r hr0 H locs ls h2 hl)
theorem x_ldivG {x y : Int64} (hC : CX κ cc own nL ret d) (hd : decode cc pc = .ok (.ldiv, 1)) (hq : pc + 1 = q) (k : X κ nL em n cs q L (.long (x / y) :: st) M res) : X κ nL em n cs pc L (.long y :: .long x :: st) M (if y = 0 then none else res) := by
  by_cases h : y = 0
  · rw [if_pos h]; intro r hr; cases hr
  · rw [if_neg h]; exact x_ldiv h hC hd hq k
theorem x_lrem {x y : Int64} (hne : ¬ y = 0) (hC : CX κ cc own nL ret d) (hd : decode cc pc = .ok (.lrem, 1)) (hq : pc + 1 = q) (k : X κ nL em n cs q L (.long (zlrem x y) :: st) M res) : X κ nL em n cs pc L (.long y :: .long x :: st) M res := by
  subst hq
  obtain ⟨p, l, e, R, s, m, args, below, meth, c, dC, dI, b, mc, ms, n'⟩ := κ
  obtain ⟨hx, hb, hml, hown, hts, hr, hlk, hK, hR, hNs⟩ := hC
  intro r hr0 H locs ls h2 hl
  exact lv_lrem hx hb hd hne (k r hr0 H locs ls h2 hl)
theorem x_lremG {x y : Int64} (hC : CX κ cc own nL ret d) (hd : decode cc pc = .ok (.lrem, 1)) (hq : pc + 1 = q) (k : X κ nL em n cs q L (.long (zlrem x y) :: st) M res) : X κ nL em n cs pc L (.long y :: .long x :: st) M (if y = 0 then none else res) := by
  by_cases h : y = 0
  · rw [if_pos h]; intro r hr; cases hr
  · rw [if_neg h]; exact x_lrem h hC hd hq k
theorem x_iconst {i : Int} {v : Int32} (hv : Int32.ofInt i = v) (hC : CX κ cc own nL ret d) (hd : decode cc pc = .ok (.iconst i, 1)) (hq : pc + 1 = q) (k : X κ nL em n cs q L (.int v :: st) M res) : X κ nL em n cs pc L st M res := by
  subst hq
  obtain ⟨p, l, e, R, s, m, args, below, meth, c, dC, dI, b, mc, ms, n'⟩ := κ
  obtain ⟨hx, hb, hml, hown, hts, hr, hlk, hK, hR, hNs⟩ := hC
  intro r hr0 H locs ls h2 hl
  exact lv_iconst hx hb hd hv (k r hr0 H locs ls h2 hl)
theorem x_bipush {i : Int} {v : Int32} (hv : (Int8.ofInt i).toInt32 = v) (hC : CX κ cc own nL ret d) (hd : decode cc pc = .ok (.bipush i, 2)) (hq : pc + 2 = q) (k : X κ nL em n cs q L (.int v :: st) M res) : X κ nL em n cs pc L st M res := by
  subst hq
  obtain ⟨p, l, e, R, s, m, args, below, meth, c, dC, dI, b, mc, ms, n'⟩ := κ
  obtain ⟨hx, hb, hml, hown, hts, hr, hlk, hK, hR, hNs⟩ := hC
  intro r hr0 H locs ls h2 hl
  exact lv_bipush hx hb hd hv (k r hr0 H locs ls h2 hl)
theorem x_sipush {i : Int} {v : Int32} (hv : (Int16.ofInt i).toInt32 = v) (hC : CX κ cc own nL ret d) (hd : decode cc pc = .ok (.sipush i, 3)) (hq : pc + 3 = q) (k : X κ nL em n cs q L (.int v :: st) M res) : X κ nL em n cs pc L st M res := by
  subst hq
  obtain ⟨p, l, e, R, s, m, args, below, meth, c, dC, dI, b, mc, ms, n'⟩ := κ
  obtain ⟨hx, hb, hml, hown, hts, hr, hlk, hK, hR, hNs⟩ := hC
  intro r hr0 H locs ls h2 hl
  exact lv_sipush hx hb hd hv (k r hr0 H locs ls h2 hl)
theorem x_lconst {i : Fin 2} {v : Int64} (hv : Int64.ofNat (i : Nat) = v) (hC : CX κ cc own nL ret d) (hd : decode cc pc = .ok (.lconst i, 1)) (hq : pc + 1 = q) (k : X κ nL em n cs q L (.long v :: st) M res) : X κ nL em n cs pc L st M res := by
  subst hq
  obtain ⟨p, l, e, R, s, m, args, below, meth, c, dC, dI, b, mc, ms, n'⟩ := κ
  obtain ⟨hx, hb, hml, hown, hts, hr, hlk, hK, hR, hNs⟩ := hC
  intro r hr0 H locs ls h2 hl
  exact lv_lconst hx hb hd hv (k r hr0 H locs ls h2 hl)
theorem x_ldc {i : Nat} {v : Int32} (hw : Cond.constant own i v ∈ zTb) (hC : CX κ cc own nL ret d) (hd : decode cc pc = .ok (.ldc i, 2)) (hq : pc + 2 = q) (k : X κ nL em n cs q L (.int v :: st) M res) : X κ nL em n cs pc L st M res := by
  subst hq
  obtain ⟨p, l, e, R, s, m, args, below, meth, c, dC, dI, b, mc, ms, n'⟩ := κ
  obtain ⟨hx, hb, hml, hown, hts, hr, hlk, hK, hR, hNs⟩ := hC
  intro r hr0 H locs ls h2 hl
  exact lv_ldc hx hb hown (hts _ hw) hd (k r hr0 H locs ls h2 hl)
theorem x_ldcw {i : Nat} {v : Int32} (hw : Cond.constant own i v ∈ zTb) (hC : CX κ cc own nL ret d) (hd : decode cc pc = .ok (.ldc_w i, 3)) (hq : pc + 3 = q) (k : X κ nL em n cs q L (.int v :: st) M res) : X κ nL em n cs pc L st M res := by
  subst hq
  obtain ⟨p, l, e, R, s, m, args, below, meth, c, dC, dI, b, mc, ms, n'⟩ := κ
  obtain ⟨hx, hb, hml, hown, hts, hr, hlk, hK, hR, hNs⟩ := hC
  intro r hr0 H locs ls h2 hl
  exact lv_ldcw hx hb hown (hts _ hw) hd (k r hr0 H locs ls h2 hl)
theorem x_ldc2 {i : Nat} {v : Int64} (hw : Cond.constantLong own i v ∈ zTb) (hC : CX κ cc own nL ret d) (hd : decode cc pc = .ok (.ldc2_w i, 3)) (hq : pc + 3 = q) (k : X κ nL em n cs q L (.long v :: st) M res) : X κ nL em n cs pc L st M res := by
  subst hq
  obtain ⟨p, l, e, R, s, m, args, below, meth, c, dC, dI, b, mc, ms, n'⟩ := κ
  obtain ⟨hx, hb, hml, hown, hts, hr, hlk, hK, hR, hNs⟩ := hC
  intro r hr0 H locs ls h2 hl
  exact lv_ldc2 hx hb hown (hts _ hw) hd (k r hr0 H locs ls h2 hl)
theorem x_iload_n {i : Fin 4} {x : Int32} (hL : L[(i : Nat)]? = some (.int x)) (hC : CX κ cc own nL ret d) (hd : decode cc pc = .ok (.iload_n i, 1)) (hq : pc + 1 = q) (k : X κ nL em n cs q L (.int x :: st) M res) : X κ nL em n cs pc L st M res := by
  subst hq
  obtain ⟨p, l, e, R, s, m, args, below, meth, c, dC, dI, b, mc, ms, n'⟩ := κ
  obtain ⟨hx, hb, hml, hown, hts, hr, hlk, hK, hR, hNs⟩ := hC
  intro r hr0 H locs ls h2 hl
  exact lv_iload_n hx hb hd rfl (hl.2.2 _ _ hL (fun h => by cases h)) (k r hr0 H locs ls h2 hl)
theorem x_iload {i : Nat} {x : Int32} (hL : L[i]? = some (.int x)) (hC : CX κ cc own nL ret d) (hd : decode cc pc = .ok (.iload i, 2)) (hq : pc + 2 = q) (k : X κ nL em n cs q L (.int x :: st) M res) : X κ nL em n cs pc L st M res := by
  subst hq
  obtain ⟨p, l, e, R, s, m, args, below, meth, c, dC, dI, b, mc, ms, n'⟩ := κ
  obtain ⟨hx, hb, hml, hown, hts, hr, hlk, hK, hR, hNs⟩ := hC
  intro r hr0 H locs ls h2 hl
  exact lv_iload hx hb hd (hl.2.2 _ _ hL (fun h => by cases h)) (k r hr0 H locs ls h2 hl)
theorem x_istore {i : Nat} {L' : List Value} {x : Int32} (hn : i < nL) (hL : zst1 L i (.int x) = L') (hC : CX κ cc own nL ret d) (hd : decode cc pc = .ok (.istore i, 2)) (hq : pc + 2 = q) (k : X κ nL em n cs q L' st M res) : X κ nL em n cs pc L (.int x :: st) M res := by
  subst hq
  obtain ⟨p, l, e, R, s, m, args, below, meth, c, dC, dI, b, mc, ms, n'⟩ := κ
  obtain ⟨hx, hb, hml, hown, hts, hr, hlk, hK, hR, hNs⟩ := hC
  intro r hr0 H locs ls h2 hl
  subst hL
  exact lv_istore hx hb hd hl.has hn rfl (fun ls2 hl2 => k r hr0 H locs ls2 h2 (LH.st1 hl2))
theorem x_istore_n {i : Fin 4} {L' : List Value} {x : Int32} (hn : (i : Nat) < nL) (hL : zst1 L (i : Nat) (.int x) = L') (hC : CX κ cc own nL ret d) (hd : decode cc pc = .ok (.istore_n i, 1)) (hq : pc + 1 = q) (k : X κ nL em n cs q L' st M res) : X κ nL em n cs pc L (.int x :: st) M res := by
  subst hq
  obtain ⟨p, l, e, R, s, m, args, below, meth, c, dC, dI, b, mc, ms, n'⟩ := κ
  obtain ⟨hx, hb, hml, hown, hts, hr, hlk, hK, hR, hNs⟩ := hC
  intro r hr0 H locs ls h2 hl
  subst hL
  exact lv_istore_n hx hb hd rfl hl.has hn rfl (fun ls2 hl2 => k r hr0 H locs ls2 h2 (LH.st1 hl2))
theorem x_lload_n {i : Fin 4} {x : Int64} (hL : L[(i : Nat)]? = some (.long x)) (hC : CX κ cc own nL ret d) (hd : decode cc pc = .ok (.lload_n i, 1)) (hq : pc + 1 = q) (k : X κ nL em n cs q L (.long x :: st) M res) : X κ nL em n cs pc L st M res := by
  subst hq
  obtain ⟨p, l, e, R, s, m, args, below, meth, c, dC, dI, b, mc, ms, n'⟩ := κ
  obtain ⟨hx, hb, hml, hown, hts, hr, hlk, hK, hR, hNs⟩ := hC
  intro r hr0 H locs ls h2 hl
  exact lv_lload_n hx hb hd rfl (hl.2.2 _ _ hL (fun h => by cases h)) (k r hr0 H locs ls h2 hl)
theorem x_lload {i : Nat} {x : Int64} (hL : L[i]? = some (.long x)) (hC : CX κ cc own nL ret d) (hd : decode cc pc = .ok (.lload i, 2)) (hq : pc + 2 = q) (k : X κ nL em n cs q L (.long x :: st) M res) : X κ nL em n cs pc L st M res := by
  subst hq
  obtain ⟨p, l, e, R, s, m, args, below, meth, c, dC, dI, b, mc, ms, n'⟩ := κ
  obtain ⟨hx, hb, hml, hown, hts, hr, hlk, hK, hR, hNs⟩ := hC
  intro r hr0 H locs ls h2 hl
  exact lv_lload hx hb hd (hl.2.2 _ _ hL (fun h => by cases h)) (k r hr0 H locs ls h2 hl)
theorem x_lstore {i : Nat} {L' : List Value} {x : Int64} (hn : i + 1 < nL) (hL : zst2 L i (.long x) = L') (hC : CX κ cc own nL ret d) (hd : decode cc pc = .ok (.lstore i, 2)) (hq : pc + 2 = q) (k : X κ nL em n cs q L' st M res) : X κ nL em n cs pc L (.long x :: st) M res := by
  subst hq
  obtain ⟨p, l, e, R, s, m, args, below, meth, c, dC, dI, b, mc, ms, n'⟩ := κ
  obtain ⟨hx, hb, hml, hown, hts, hr, hlk, hK, hR, hNs⟩ := hC
  intro r hr0 H locs ls h2 hl
  subst hL
  exact lv_lstore hx hb hd hl.has hn rfl (fun ls2 hl2 => k r hr0 H locs ls2 h2 (LH.st2 hl2))
theorem x_lstore_n {i : Fin 4} {L' : List Value} {x : Int64} (hn : (i : Nat) + 1 < nL) (hL : zst2 L (i : Nat) (.long x) = L') (hC : CX κ cc own nL ret d) (hd : decode cc pc = .ok (.lstore_n i, 1)) (hq : pc + 1 = q) (k : X κ nL em n cs q L' st M res) : X κ nL em n cs pc L (.long x :: st) M res := by
  subst hq
  obtain ⟨p, l, e, R, s, m, args, below, meth, c, dC, dI, b, mc, ms, n'⟩ := κ
  obtain ⟨hx, hb, hml, hown, hts, hr, hlk, hK, hR, hNs⟩ := hC
  intro r hr0 H locs ls h2 hl
  subst hL
  exact lv_lstore_n hx hb hd rfl hl.has hn rfl (fun ls2 hl2 => k r hr0 H locs ls2 h2 (LH.st2 hl2))
theorem x_aload_n {i : Fin 4} {x : Nat} (hL : L[(i : Nat)]? = some (.ref x)) (hC : CX κ cc own nL ret d) (hd : decode cc pc = .ok (.aload_n i, 1)) (hq : pc + 1 = q) (k : X κ nL em n cs q L (.ref x :: st) M res) : X κ nL em n cs pc L st M res := by
  subst hq
  obtain ⟨p, l, e, R, s, m, args, below, meth, c, dC, dI, b, mc, ms, n'⟩ := κ
  obtain ⟨hx, hb, hml, hown, hts, hr, hlk, hK, hR, hNs⟩ := hC
  intro r hr0 H locs ls h2 hl
  exact lv_aload_n hx hb hd rfl (hl.2.2 _ _ hL (fun h => by cases h)) (k r hr0 H locs ls h2 hl)
theorem x_aload {i : Nat} {x : Nat} (hL : L[i]? = some (.ref x)) (hC : CX κ cc own nL ret d) (hd : decode cc pc = .ok (.aload i, 2)) (hq : pc + 2 = q) (k : X κ nL em n cs q L (.ref x :: st) M res) : X κ nL em n cs pc L st M res := by
  subst hq
  obtain ⟨p, l, e, R, s, m, args, below, meth, c, dC, dI, b, mc, ms, n'⟩ := κ
  obtain ⟨hx, hb, hml, hown, hts, hr, hlk, hK, hR, hNs⟩ := hC
  intro r hr0 H locs ls h2 hl
  exact lv_aload hx hb hd (hl.2.2 _ _ hL (fun h => by cases h)) (k r hr0 H locs ls h2 hl)
theorem x_astore {i : Nat} {L' : List Value} {x : Nat} (hn : i < nL) (hL : zst1 L i (.ref x) = L') (hC : CX κ cc own nL ret d) (hd : decode cc pc = .ok (.astore i, 2)) (hq : pc + 2 = q) (k : X κ nL em n cs q L' st M res) : X κ nL em n cs pc L (.ref x :: st) M res := by
  subst hq
  obtain ⟨p, l, e, R, s, m, args, below, meth, c, dC, dI, b, mc, ms, n'⟩ := κ
  obtain ⟨hx, hb, hml, hown, hts, hr, hlk, hK, hR, hNs⟩ := hC
  intro r hr0 H locs ls h2 hl
  subst hL
  exact lv_astore hx hb hd hl.has hn rfl (fun ls2 hl2 => k r hr0 H locs ls2 h2 (LH.st1 hl2))
theorem x_astore_n {i : Fin 4} {L' : List Value} {x : Nat} (hn : (i : Nat) < nL) (hL : zst1 L (i : Nat) (.ref x) = L') (hC : CX κ cc own nL ret d) (hd : decode cc pc = .ok (.astore_n i, 1)) (hq : pc + 1 = q) (k : X κ nL em n cs q L' st M res) : X κ nL em n cs pc L (.ref x :: st) M res := by
  subst hq
  obtain ⟨p, l, e, R, s, m, args, below, meth, c, dC, dI, b, mc, ms, n'⟩ := κ
  obtain ⟨hx, hb, hml, hown, hts, hr, hlk, hK, hR, hNs⟩ := hC
  intro r hr0 H locs ls h2 hl
  subst hL
  exact lv_astore_n hx hb hd rfl hl.has hn rfl (fun ls2 hl2 => k r hr0 H locs ls2 h2 (LH.st1 hl2))
theorem x_iinc {i : Nat} {z : Int} {L' : List Value} {x v : Int32} (hv : Int32.ofInt z = v) (hi : L[i]? = some (.int x)) (hn : i < nL) (hL : zst1 L i (.int (x + v)) = L') (hC : CX κ cc own nL ret d) (hd : decode cc pc = .ok (.iinc i z, 3)) (hq : pc + 3 = q) (k : X κ nL em n cs q L' st M res) : X κ nL em n cs pc L st M res := by
  subst hq; subst hL; subst hv
  obtain ⟨p, l, e, R, s, m, args, below, meth, c, dC, dI, b, mc, ms, n'⟩ := κ
  obtain ⟨hx, hb, hml, hown, hts, hr, hlk, hK, hR, hNs⟩ := hC
  intro r hr0 H locs ls h2 hl
  obtain ⟨k0, hk0⟩ := List.getElem?_of_mem (zasc_mem (b := b).mpr ⟨_, hi, (fun h => by cases h), rfl⟩)
  exact lv_iinc hx hb hd hl.has hk0 rfl hn rfl (fun ls2 hl2 => k r hr0 H locs ls2 h2 (LH.st1 (x := .int (x + Int32.ofInt z)) hl2))
theorem x_dup {v : Value} (hv : v.category = 1) (hC : CX κ cc own nL ret d) (hd : decode cc pc = .ok (.dup, 1)) (hq : pc + 1 = q) (k : X κ nL em n cs q L (v :: v :: st) M res) : X κ nL em n cs pc L (v :: st) M res := by
  subst hq
  obtain ⟨p, l, e, R, s, m, args, below, meth, c, dC, dI, b, mc, ms, n'⟩ := κ
  obtain ⟨hx, hb, hml, hown, hts, hr, hlk, hK, hR, hNs⟩ := hC
  intro r hr0 H locs ls h2 hl
  exact lv_dup hx hb hd ((zrv_cat b v).trans hv) (k r hr0 H locs ls h2 hl)
theorem x_pop {v : Value} (hv : v.category = 1) (hC : CX κ cc own nL ret d) (hd : decode cc pc = .ok (.pop, 1)) (hq : pc + 1 = q) (k : X κ nL em n cs q L st M res) : X κ nL em n cs pc L (v :: st) M res := by
  subst hq
  obtain ⟨p, l, e, R, s, m, args, below, meth, c, dC, dI, b, mc, ms, n'⟩ := κ
  obtain ⟨hx, hb, hml, hown, hts, hr, hlk, hK, hR, hNs⟩ := hC
  intro r hr0 H locs ls h2 hl
  exact lv_pop hx hb hd ((zrv_cat b v).trans hv) (k r hr0 H locs ls h2 hl)
theorem x_dup2 {v w : Value} (hv : v.category = 1) (hw : w.category = 1) (hC : CX κ cc own nL ret d) (hd : decode cc pc = .ok (.dup2, 1)) (hq : pc + 1 = q) (k : X κ nL em n cs q L (v :: w :: v :: w :: st) M res) : X κ nL em n cs pc L (v :: w :: st) M res := by
  subst hq
  obtain ⟨p, l, e, R, s, m, args, below, meth, c, dC, dI, b, mc, ms, n'⟩ := κ
  obtain ⟨hx, hb, hml, hown, hts, hr, hlk, hK, hR, hNs⟩ := hC
  intro r hr0 H locs ls h2 hl
  exact lv_dup2_11 hx hb hd ((zrv_cat b v).trans hv) ((zrv_cat b w).trans hw) (k r hr0 H locs ls h2 hl)
theorem x_dup2L {v : Value} (hv : v.category = 2) (hC : CX κ cc own nL ret d) (hd : decode cc pc = .ok (.dup2, 1)) (hq : pc + 1 = q) (k : X κ nL em n cs q L (v :: v :: st) M res) : X κ nL em n cs pc L (v :: st) M res := by
  subst hq
  obtain ⟨p, l, e, R, s, m, args, below, meth, c, dC, dI, b, mc, ms, n'⟩ := κ
  obtain ⟨hx, hb, hml, hown, hts, hr, hlk, hK, hR, hNs⟩ := hC
  intro r hr0 H locs ls h2 hl
  exact lv_dup2_2 hx hb hd ((zrv_cat b v).trans hv) (k r hr0 H locs ls h2 hl)
theorem x_icmp_eq {x y : Int32} {off : Int} {tgt : Nat} {A B : Option α} (hC : CX κ cc own nL ret d) (hd : decode cc pc = .ok (.if_icmp .eq off, 3)) (hq : pc + 3 = q) (ht : (pc : Int) + off = (tgt : Int)) (kt : x = y → X κ nL em n cs tgt L st M A) (kf : ¬ (x = y) → X κ nL em n cs q L st M B) : X κ nL em n cs pc L (.int y :: .int x :: st) M (if x = y then A else B) := by
  subst hq
  by_cases h : x = y
  · rw [if_pos h]
    have k := kt h
    obtain ⟨p, l, e, R, s, m, args, below, meth, c, dC, dI, b, mc, ms, n'⟩ := κ
    obtain ⟨hx, hb, hml, hown, hts, hr, hlk, hK, hR, hNs⟩ := hC
    intro r hr0 H locs ls h2 hl
    exact lv_icmp_eq hx hb hd ht (fun _ => (k r hr0 H locs ls h2 hl)) (fun h3 => absurd h h3)
  · rw [if_neg h]
    have k := kf h
    obtain ⟨p, l, e, R, s, m, args, below, meth, c, dC, dI, b, mc, ms, n'⟩ := κ
    obtain ⟨hx, hb, hml, hown, hts, hr, hlk, hK, hR, hNs⟩ := hC
    intro r hr0 H locs ls h2 hl
    exact lv_icmp_eq hx hb hd ht (fun h3 => absurd h3 h) (fun _ => (k r hr0 H locs ls h2 hl))
theorem x_icmp_ne {x y : Int32} {off : Int} {tgt : Nat} {A B : Option α} (hC : CX κ cc own nL ret d) (hd : decode cc pc = .ok (.if_icmp .ne off, 3)) (hq : pc + 3 = q) (ht : (pc : Int) + off = (tgt : Int)) (kt : ¬ (x = y) → X κ nL em n cs tgt L st M B) (kf : x = y → X κ nL em n cs q L st M A) : X κ nL em n cs pc L (.int y :: .int x :: st) M (if x = y then A else B) := by
  subst hq
  by_cases h : x = y
  · rw [if_pos h]
    have k := kf h
    obtain ⟨p, l, e, R, s, m, args, below, meth, c, dC, dI, b, mc, ms, n'⟩ := κ
    obtain ⟨hx, hb, hml, hown, hts, hr, hlk, hK, hR, hNs⟩ := hC
    intro r hr0 H locs ls h2 hl
    exact lv_icmp_ne hx hb hd ht (fun h3 => absurd h h3) (fun _ => (k r hr0 H locs ls h2 hl))
  · rw [if_neg h]
    have k := kt h
    obtain ⟨p, l, e, R, s, m, args, below, meth, c, dC, dI, b, mc, ms, n'⟩ := κ
    obtain ⟨hx, hb, hml, hown, hts, hr, hlk, hK, hR, hNs⟩ := hC
    intro r hr0 H locs ls h2 hl
    exact lv_icmp_ne hx hb hd ht (fun _ => (k r hr0 H locs ls h2 hl)) (fun h3 => absurd h3 h)
theorem x_icmp_lt {x y : Int32} {off : Int} {tgt : Nat} {A B : Option α} (hC : CX κ cc own nL ret d) (hd : decode cc pc = .ok (.if_icmp .lt off, 3)) (hq : pc + 3 = q) (ht : (pc : Int) + off = (tgt : Int)) (kt : x < y → X κ nL em n cs tgt L st M A) (kf : ¬ (x < y) → X κ nL em n cs q L st M B) : X κ nL em n cs pc L (.int y :: .int x :: st) M (if x < y then A else B) := by
  subst hq
  by_cases h : x < y
  · rw [if_pos h]
    have k := kt h
    obtain ⟨p, l, e, R, s, m, args, below, meth, c, dC, dI, b, mc, ms, n'⟩ := κ
    obtain ⟨hx, hb, hml, hown, hts, hr, hlk, hK, hR, hNs⟩ := hC
    intro r hr0 H locs ls h2 hl
    exact lv_icmp_lt hx hb hd ht (fun _ => (k r hr0 H locs ls h2 hl)) (fun h3 => absurd h h3)
  · rw [if_neg h]
    have k := kf h
    obtain ⟨p, l, e, R, s, m, args, below, meth, c, dC, dI, b, mc, ms, n'⟩ := κ
    obtain ⟨hx, hb, hml, hown, hts, hr, hlk, hK, hR, hNs⟩ := hC
    intro r hr0 H locs ls h2 hl
    exact lv_icmp_lt hx hb hd ht (fun h3 => absurd h3 h) (fun _ => (k r hr0 H locs ls h2 hl))
theorem x_icmp_ge {x y : Int32} {off : Int} {tgt : Nat} {A B : Option α} (hC : CX κ cc own nL ret d) (hd : decode cc pc = .ok (.if_icmp .ge off, 3)) (hq : pc + 3 = q) (ht : (pc : Int) + off = (tgt : Int)) (kt : y ≤ x → X κ nL em n cs tgt L st M A) (kf : ¬ (y ≤ x) → X κ nL em n cs q L st M B) : X κ nL em n cs pc L (.int y :: .int x :: st) M (if y ≤ x then A else B) := by
  subst hq
  by_cases h : y ≤ x
  · rw [if_pos h]
    have k := kt h
    obtain ⟨p, l, e, R, s, m, args, below, meth, c, dC, dI, b, mc, ms, n'⟩ := κ
    obtain ⟨hx, hb, hml, hown, hts, hr, hlk, hK, hR, hNs⟩ := hC
    intro r hr0 H locs ls h2 hl
    exact lv_icmp_ge hx hb hd ht (fun _ => (k r hr0 H locs ls h2 hl)) (fun h3 => absurd h h3)
  · rw [if_neg h]
    have k := kf h
    obtain ⟨p, l, e, R, s, m, args, below, meth, c, dC, dI, b, mc, ms, n'⟩ := κ
    obtain ⟨hx, hb, hml, hown, hts, hr, hlk, hK, hR, hNs⟩ := hC
    intro r hr0 H locs ls h2 hl
    exact lv_icmp_ge hx hb hd ht (fun h3 => absurd h3 h) (fun _ => (k r hr0 H locs ls h2 hl))
theorem x_icmp_gt {x y : Int32} {off : Int} {tgt : Nat} {A B : Option α} (hC : CX κ cc own nL ret d) (hd : decode cc pc = .ok (.if_icmp .gt off, 3)) (hq : pc + 3 = q) (ht : (pc : Int) + off = (tgt : Int)) (kt : y < x → X κ nL em n cs tgt L st M A) (kf : ¬ (y < x) → X κ nL em n cs q L st M B) : X κ nL em n cs pc L (.int y :: .int x :: st) M (if y < x then A else B) := by
  subst hq
  by_cases h : y < x
  · rw [if_pos h]
    have k := kt h
    obtain ⟨p, l, e, R, s, m, args, below, meth, c, dC, dI, b, mc, ms, n'⟩ := κ
    obtain ⟨hx, hb, hml, hown, hts, hr, hlk, hK, hR, hNs⟩ := hC
    intro r hr0 H locs ls h2 hl
    exact lv_icmp_gt hx hb hd ht (fun _ => (k r hr0 H locs ls h2 hl)) (fun h3 => absurd h h3)
  · rw [if_neg h]
    have k := kf h
    obtain ⟨p, l, e, R, s, m, args, below, meth, c, dC, dI, b, mc, ms, n'⟩ := κ
    obtain ⟨hx, hb, hml, hown, hts, hr, hlk, hK, hR, hNs⟩ := hC
    intro r hr0 H locs ls h2 hl
    exact lv_icmp_gt hx hb hd ht (fun h3 => absurd h3 h) (fun _ => (k r hr0 H locs ls h2 hl))
theorem x_icmp_le {x y : Int32} {off : Int} {tgt : Nat} {A B : Option α} (hC : CX κ cc own nL ret d) (hd : decode cc pc = .ok (.if_icmp .le off, 3)) (hq : pc + 3 = q) (ht : (pc : Int) + off = (tgt : Int)) (kt : x ≤ y → X κ nL em n cs tgt L st M A) (kf : ¬ (x ≤ y) → X κ nL em n cs q L st M B) : X κ nL em n cs pc L (.int y :: .int x :: st) M (if x ≤ y then A else B) := by
  subst hq
  by_cases h : x ≤ y
  · rw [if_pos h]
    have k := kt h
    obtain ⟨p, l, e, R, s, m, args, below, meth, c, dC, dI, b, mc, ms, n'⟩ := κ
    obtain ⟨hx, hb, hml, hown, hts, hr, hlk, hK, hR, hNs⟩ := hC
    intro r hr0 H locs ls h2 hl
    exact lv_icmp_le hx hb hd ht (fun _ => (k r hr0 H locs ls h2 hl)) (fun h3 => absurd h h3)
  · rw [if_neg h]
    have k := kf h
    obtain ⟨p, l, e, R, s, m, args, below, meth, c, dC, dI, b, mc, ms, n'⟩ := κ
    obtain ⟨hx, hb, hml, hown, hts, hr, hlk, hK, hR, hNs⟩ := hC
    intro r hr0 H locs ls h2 hl
    exact lv_icmp_le hx hb hd ht (fun h3 => absurd h3 h) (fun _ => (k r hr0 H locs ls h2 hl))
theorem x_if_eq {x : Int32} {off : Int} {tgt : Nat} {A B : Option α} (hC : CX κ cc own nL ret d) (hd : decode cc pc = .ok (.ifCond .eq off, 3)) (hq : pc + 3 = q) (ht : (pc : Int) + off = (tgt : Int)) (kt : x = 0 → X κ nL em n cs tgt L st M A) (kf : ¬ (x = 0) → X κ nL em n cs q L st M B) : X κ nL em n cs pc L (.int x :: st) M (if x = 0 then A else B) := by
  subst hq
  by_cases h : x = 0
  · rw [if_pos h]
    have k := kt h
    obtain ⟨p, l, e, R, s, m, args, below, meth, c, dC, dI, b, mc, ms, n'⟩ := κ
    obtain ⟨hx, hb, hml, hown, hts, hr, hlk, hK, hR, hNs⟩ := hC
    intro r hr0 H locs ls h2 hl
    exact lv_if_eq hx hb hd ht (fun _ => (k r hr0 H locs ls h2 hl)) (fun h3 => absurd h h3)
  · rw [if_neg h]
    have k := kf h
    obtain ⟨p, l, e, R, s, m, args, below, meth, c, dC, dI, b, mc, ms, n'⟩ := κ
    obtain ⟨hx, hb, hml, hown, hts, hr, hlk, hK, hR, hNs⟩ := hC
    intro r hr0 H locs ls h2 hl
    exact lv_if_eq hx hb hd ht (fun h3 => absurd h3 h) (fun _ => (k r hr0 H locs ls h2 hl))
theorem x_if_ne {x : Int32} {off : Int} {tgt : Nat} {A B : Option α} (hC : CX κ cc own nL ret d) (hd : decode cc pc = .ok (.ifCond .ne off, 3)) (hq : pc + 3 = q) (ht : (pc : Int) + off = (tgt : Int)) (kt : ¬ (x = 0) → X κ nL em n cs tgt L st M B) (kf : x = 0 → X κ nL em n cs q L st M A) : X κ nL em n cs pc L (.int x :: st) M (if x = 0 then A else B) := by
  subst hq
  by_cases h : x = 0
  · rw [if_pos h]
    have k := kf h
    obtain ⟨p, l, e, R, s, m, args, below, meth, c, dC, dI, b, mc, ms, n'⟩ := κ
    obtain ⟨hx, hb, hml, hown, hts, hr, hlk, hK, hR, hNs⟩ := hC
    intro r hr0 H locs ls h2 hl
    exact lv_if_ne hx hb hd ht (fun h3 => absurd h h3) (fun _ => (k r hr0 H locs ls h2 hl))
  · rw [if_neg h]
    have k := kt h
    obtain ⟨p, l, e, R, s, m, args, below, meth, c, dC, dI, b, mc, ms, n'⟩ := κ
    obtain ⟨hx, hb, hml, hown, hts, hr, hlk, hK, hR, hNs⟩ := hC
    intro r hr0 H locs ls h2 hl
    exact lv_if_ne hx hb hd ht (fun _ => (k r hr0 H locs ls h2 hl)) (fun h3 => absurd h3 h)
theorem x_if_lt {x : Int32} {off : Int} {tgt : Nat} {A B : Option α} (hC : CX κ cc own nL ret d) (hd : decode cc pc = .ok (.ifCond .lt off, 3)) (hq : pc + 3 = q) (ht : (pc : Int) + off = (tgt : Int)) (kt : x < 0 → X κ nL em n cs tgt L st M A) (kf : ¬ (x < 0) → X κ nL em n cs q L st M B) : X κ nL em n cs pc L (.int x :: st) M (if x < 0 then A else B) := by
  subst hq
  by_cases h : x < 0
  · rw [if_pos h]
    have k := kt h
    obtain ⟨p, l, e, R, s, m, args, below, meth, c, dC, dI, b, mc, ms, n'⟩ := κ
    obtain ⟨hx, hb, hml, hown, hts, hr, hlk, hK, hR, hNs⟩ := hC
    intro r hr0 H locs ls h2 hl
    exact lv_if_lt hx hb hd ht (fun _ => (k r hr0 H locs ls h2 hl)) (fun h3 => absurd h h3)
  · rw [if_neg h]
    have k := kf h
    obtain ⟨p, l, e, R, s, m, args, below, meth, c, dC, dI, b, mc, ms, n'⟩ := κ
    obtain ⟨hx, hb, hml, hown, hts, hr, hlk, hK, hR, hNs⟩ := hC
    intro r hr0 H locs ls h2 hl
    exact lv_if_lt hx hb hd ht (fun h3 => absurd h3 h) (fun _ => (k r hr0 H locs ls h2 hl))
theorem x_if_ge {x : Int32} {off : Int} {tgt : Nat} {A B : Option α} (hC : CX κ cc own nL ret d) (hd : decode cc pc = .ok (.ifCond .ge off, 3)) (hq : pc + 3 = q) (ht : (pc : Int) + off = (tgt : Int)) (kt : 0 ≤ x → X κ nL em n cs tgt L st M A) (kf : ¬ (0 ≤ x) → X κ nL em n cs q L st M B) : X κ nL em n cs pc L (.int x :: st) M (if 0 ≤ x then A else B) := by
  subst hq
  by_cases h : 0 ≤ x
  · rw [if_pos h]
    have k := kt h
    obtain ⟨p, l, e, R, s, m, args, below, meth, c, dC, dI, b, mc, ms, n'⟩ := κ
    obtain ⟨hx, hb, hml, hown, hts, hr, hlk, hK, hR, hNs⟩ := hC
    intro r hr0 H locs ls h2 hl
    exact lv_if_ge hx hb hd ht (fun _ => (k r hr0 H locs ls h2 hl)) (fun h3 => absurd h h3)
  · rw [if_neg h]
    have k := kf h
    obtain ⟨p, l, e, R, s, m, args, below, meth, c, dC, dI, b, mc, ms, n'⟩ := κ
    obtain ⟨hx, hb, hml, hown, hts, hr, hlk, hK, hR, hNs⟩ := hC
    intro r hr0 H locs ls h2 hl
    exact lv_if_ge hx hb hd ht (fun h3 => absurd h3 h) (fun _ => (k r hr0 H locs ls h2 hl))
theorem x_if_gt {x : Int32} {off : Int} {tgt : Nat} {A B : Option α} (hC : CX κ cc own nL ret d) (hd : decode cc pc = .ok (.ifCond .gt off, 3)) (hq : pc + 3 = q) (ht : (pc : Int) + off = (tgt : Int)) (kt : 0 < x → X κ nL em n cs tgt L st M A) (kf : ¬ (0 < x) → X κ nL em n cs q L st M B) : X κ nL em n cs pc L (.int x :: st) M (if 0 < x then A else B) := by
  subst hq
  by_cases h : 0 < x
  · rw [if_pos h]
    have k := kt h
    obtain ⟨p, l, e, R, s, m, args, below, meth, c, dC, dI, b, mc, ms, n'⟩ := κ
    obtain ⟨hx, hb, hml, hown, hts, hr, hlk, hK, hR, hNs⟩ := hC
    intro r hr0 H locs ls h2 hl
    exact lv_if_gt hx hb hd ht (fun _ => (k r hr0 H locs ls h2 hl)) (fun h3 => absurd h h3)
  · rw [if_neg h]
    have k := kf h
    obtain ⟨p, l, e, R, s, m, args, below, meth, c, dC, dI, b, mc, ms, n'⟩ := κ
    obtain ⟨hx, hb, hml, hown, hts, hr, hlk, hK, hR, hNs⟩ := hC
    intro r hr0 H locs ls h2 hl
    exact lv_if_gt hx hb hd ht (fun h3 => absurd h3 h) (fun _ => (k r hr0 H locs ls h2 hl))
theorem x_if_le {x : Int32} {off : Int} {tgt : Nat} {A B : Option α} (hC : CX κ cc own nL ret d) (hd : decode cc pc = .ok (.ifCond .le off, 3)) (hq : pc + 3 = q) (ht : (pc : Int) + off = (tgt : Int)) (kt : x ≤ 0 → X κ nL em n cs tgt L st M A) (kf : ¬ (x ≤ 0) → X κ nL em n cs q L st M B) : X κ nL em n cs pc L (.int x :: st) M (if x ≤ 0 then A else B) := by
  subst hq
  by_cases h : x ≤ 0
  · rw [if_pos h]
    have k := kt h
    obtain ⟨p, l, e, R, s, m, args, below, meth, c, dC, dI, b, mc, ms, n'⟩ := κ
    obtain ⟨hx, hb, hml, hown, hts, hr, hlk, hK, hR, hNs⟩ := hC
    intro r hr0 H locs ls h2 hl
    exact lv_if_le hx hb hd ht (fun _ => (k r hr0 H locs ls h2 hl)) (fun h3 => absurd h h3)
  · rw [if_neg h]
    have k := kf h
    obtain ⟨p, l, e, R, s, m, args, below, meth, c, dC, dI, b, mc, ms, n'⟩ := κ
    obtain ⟨hx, hb, hml, hown, hts, hr, hlk, hK, hR, hNs⟩ := hC
    intro r hr0 H locs ls h2 hl
    exact lv_if_le hx hb hd ht (fun h3 => absurd h3 h) (fun _ => (k r hr0 H locs ls h2 hl))
theorem x_goto {off : Int} {tgt : Nat} (hC : CX κ cc own nL ret d) (hd : decode cc pc = .ok (.goto off, 3)) (ht : (pc : Int) + off = (tgt : Int)) (k : X κ nL em n cs tgt L st M res) : X κ nL em n cs pc L st M res := by
  obtain ⟨p, l, e, R, s, m, args, below, meth, c, dC, dI, b, mc, ms, n'⟩ := κ
  obtain ⟨hx, hb, hml, hown, hts, hr, hlk, hK, hR, hNs⟩ := hC
  intro r hr0 H locs ls h2 hl
  exact lv_goto hx hb hd ht (k r hr0 H locs ls h2 hl)
theorem x_tsIn {x v : Int32} {dflt lo hi : Int} {offs : Array Int} {len : Nat} {off : Int} {tgt : Nat} {A B : Option α} (hC : CX κ cc own nL ret d) (hd : decode cc pc = .ok (.tableswitch dflt lo hi offs, len)) (hc : (¬ v.toInt < lo ∧ ¬ hi < v.toInt) ∧ offs[(v.toInt - lo).toNat]? = some off ∧ (pc : Int) + off = (tgt : Int)) (k : X κ nL em n cs tgt L st M A) (kf : ¬ x = v → X κ nL em n cs pc L (.int x :: st) M B) : X κ nL em n cs pc L (.int x :: st) M (if x = v then A else B) := by
  by_cases h : x = v
  · rw [if_pos h]
    subst h
    obtain ⟨p, l, e, R, s, m, args, below, meth, c, dC, dI, b, mc, ms, n'⟩ := κ
    obtain ⟨hx, hb, hml, hown, hts, hr, hlk, hK, hR, hNs⟩ := hC
    intro r hr0 H locs ls h2 hl
    exact lv_tableIn hx hb hd hc.1.1 hc.1.2 hc.2.1 hc.2.2 (k r hr0 H locs ls h2 hl)
  · rw [if_neg h]
    exact kf h
theorem x_tsOut {x : Int32} {dflt lo hi : Int} {offs : Array Int} {len tgt : Nat} (vs : List Int32) (hC : CX κ cc own nL ret d) (hd : decode cc pc = .ok (.tableswitch dflt lo hi offs, len)) (hv : ∀ v ∈ vs, x ≠ v) (hc : (List.range (hi - lo + 1).toNat).all (fun j => decide (vs[j]? = some (Int32.ofInt (lo + j))) && decide ((Int32.ofInt (lo + j)).toInt = lo + j)) = true) (ht : (pc : Int) + dflt = (tgt : Int)) (k : X κ nL em n cs tgt L st M res) : X κ nL em n cs pc L (.int x :: st) M res := by
  obtain ⟨p, l, e, R, s, m, args, below, meth, c, dC, dI, b, mc, ms, n'⟩ := κ
  obtain ⟨hx, hb, hml, hown, hts, hr, hlk, hK, hR, hNs⟩ := hC
  intro r hr0 H locs ls h2 hl
  refine lv_tableOut hx hb hd ?_ ht (k r hr0 H locs ls h2 hl)
  by_cases h1 : x.toInt < lo
  · exact Or.inl h1
  · by_cases h3 : hi < x.toInt
    · exact Or.inr h3
    · exfalso
      have hj := List.all_eq_true.mp hc (x.toInt - lo).toNat (List.mem_range.mpr (by omega))
      simp only [Bool.and_eq_true, decide_eq_true_eq] at hj
      have he : lo + ((x.toInt - lo).toNat : Int) = x.toInt := by omega
      rw [he] at hj
      refine hv _ (List.mem_of_getElem? hj.1) ?_
      exact (Int32.toInt_inj.mp hj.2).symm
theorem x_lookup {x : Int32} {dflt : Int} {ps : Array (Int × Int)} {len : Nat} {v : Int32} {off : Int} {tgt : Nat} {A B : Option α} (hC : CX κ cc own nL ret d) (hd : decode cc pc = .ok (.lookupswitch dflt ps, len)) (hc : (ps.toList.zip (ps.toList.drop 1)).all (fun (a, next) => a.1 < next.1) = true ∧ Op.lookupswitch.offset ps.toList dflt v.toInt = off ∧ (pc : Int) + off = (tgt : Int)) (k : X κ nL em n cs tgt L st M A) (kf : ¬ x = v → X κ nL em n cs pc L (.int x :: st) M B) : X κ nL em n cs pc L (.int x :: st) M (if x = v then A else B) := by
  by_cases h : x = v
  · rw [if_pos h]
    subst h
    obtain ⟨p, l, e, R, s, m, args, below, meth, c, dC, dI, b, mc, ms, n'⟩ := κ
    obtain ⟨hx, hb, hml, hown, hts, hr, hlk, hK, hR, hNs⟩ := hC
    intro r hr0 H locs ls h2 hl
    exact lv_lookup hx hb hd hc.1 hc.2.1 hc.2.2 (k r hr0 H locs ls h2 hl)
  · rw [if_neg h]
    exact kf h
theorem x_lookupD {x : Int32} {dflt : Int} {ps : Array (Int × Int)} {len : Nat} {tgt : Nat} (hC : CX κ cc own nL ret d) (hd : decode cc pc = .ok (.lookupswitch dflt ps, len)) (hc : (ps.toList.zip (ps.toList.drop 1)).all (fun (a, next) => a.1 < next.1) = true ∧ Op.lookupswitch.offset ps.toList dflt x.toInt = dflt) (ht : (pc : Int) + dflt = (tgt : Int)) (k : X κ nL em n cs tgt L st M res) : X κ nL em n cs pc L (.int x :: st) M res := by
  obtain ⟨p, l, e, R, s, m, args, below, meth, c, dC, dI, b, mc, ms, n'⟩ := κ
  obtain ⟨hx, hb, hml, hown, hts, hr, hlk, hK, hR, hNs⟩ := hC
  intro r hr0 H locs ls h2 hl
  exact lv_lookup hx hb hd hc.1 hc.2 ht (k r hr0 H locs ls h2 hl)
theorem x_none : X κ nL em n cs pc L st M none := fun r hr => by cases hr
end
end
section
/-! fields and arrays -/
theorem zad_lt {b : zSg} {n a : Nat} (ha : a < n) (hn : n ≤ 1000000) : zad b a = b.1 + a := if_pos (Nat.lt_of_lt_of_le ha hn)
theorem zup_self {α : Type} (f : Nat → α) (k : Nat) (v : α) : zup f k v k = v := if_pos rfl
theorem zup_ne {α : Type} (f : Nat → α) {k j : Nat} (v : α) (h : j ≠ k) : zup f k v j = f j := if_neg h
def zOff (M M' : Mem) (a : Nat) : Prop := ∀ a', a' ≠ a → zI M' a' = zI M a' ∧ zL M' a' = zL M a' ∧ zR M' a' = zR M a'
theorem zOff_wI (M : Mem) (a : Nat) (f : Nat → Int32) : zOff M (zwI M a f) a := fun _ h => ⟨zup_ne _ _ h, rfl, rfl⟩
theorem zOff_wL (M : Mem) (a : Nat) (f : Nat → Int64) : zOff M (zwL M a f) a := fun _ h => ⟨rfl, zup_ne _ _ h, rfl⟩
theorem zOff_wR (M : Mem) (a : Nat) (f : Nat → Nat) : zOff M (zwR M a f) a := fun _ h => ⟨rfl, rfl, zup_ne _ _ h⟩
theorem zOff.tr {M M1 M2 : Mem} {a : Nat} (h : zOff M M1 a) (h2 : zOff M1 M2 a) : zOff M M2 a := fun a' ha => ⟨(h2 a' ha).1.trans (h a' ha).1, (h2 a' ha).2.1.trans (h a' ha).2.1, (h2 a' ha).2.2.trans (h a' ha).2.2⟩
theorem zOff_new (M : Mem) (a : Nat) : zOff M (znew M a) a := ((zOff_wI M a _).tr (zOff_wL _ a _)).tr (zOff_wR _ a _)
theorem zva_congr {b : zSg} {M M' : Mem} {a : Nat} (hI : zI M' a = zI M a) (hL : zL M' a = zL M a) (hR : zR M' a = zR M a) (ty : FieldType) (j : Nat) : zva b M' ty a j = zva b M ty a j := by
  unfold zva; rw [hI, hL, hR]
theorem zCell.kept {dC : Nat → ClassId} {dI : Nat → Nat → Nat} {s : State} {b : zSg} {M M' : Mem} {H H' : Heap} {a : Nat} (h : zCell dC dI s b M H a) (hH : H'[b.1 + a]? = H[b.1 + a]?) (hI : zI M' a = zI M a) (hL : zL M' a = zL M a) (hR : zR M' a = zR M a) : zCell dC dI s b M' H' a := by
  unfold zCell at h ⊢
  by_cases hk : (zSH a).1 < 13
  · rw [if_pos hk] at h ⊢
    exact (h.kept hH).to (fun j _ => (zva_congr hI hL hR _ j).symm)
  · rw [if_neg hk] at h ⊢
    obtain ⟨cA, h1, h2, h3⟩ := h
    refine ⟨cA, h1, h2, ?_⟩
    rw [hH, h3]
    congr 2
    funext j
    exact (zva_congr hI hL hR _ j).symm
theorem zCell.moved {dC : Nat → ClassId} {dI : Nat → Nat → Nat} {s t : State} {b : zSg} {M : Mem} {H : Heap} {a : Nat} (hvm : s.vm.Alike t.vm) (h : zCell dC dI s b M H a) : zCell dC dI t b M H a := by
  unfold zCell at h ⊢
  by_cases hk : (zSH a).1 < 13
  · rw [if_pos hk] at h ⊢; exact h
  · rw [if_neg hk] at h ⊢
    obtain ⟨cA, h1, h2, h3⟩ := h
    exact ⟨cA, arrOfT_moved hvm h1, h2.moved hvm, h3⟩
theorem zRL.moved {dC : Nat → ClassId} {dI : Nat → Nat → Nat} {s t : State} {b : zSg} {n : Nat} {M : Mem} {H : Heap} (hvm : s.vm.Alike t.vm) (h : zRL dC dI b s n M H) : zRL dC dI b t n M H := ⟨h.1, h.2.1, fun a ha => (h.2.2.1 a ha).moved hvm, h.2.2.2⟩
theorem zRL.upd {dC : Nat → ClassId} {dI : Nat → Nat → Nat} {s : State} {b : zSg} {n a : Nat} {M M' : Mem} {H H' : Heap} (h : zRL dC dI b s n M H) (hsz : H'.size = H.size) (ho : ∀ q, q ≠ b.1 + a → H'[q]? = H[q]?) (hM : zOff M M' a) (hc : zCell dC dI s b M' H' a) (hw : zWT n M') : zRL dC dI b s n M' H' := by
  refine ⟨hsz.trans h.1, h.2.1, fun a' ha' => ?_, hw⟩
  by_cases e : a' = a
  · subst e; exact hc
  · exact (h.2.2.1 a' ha').kept (ho _ (by omega)) (hM a' e).1 (hM a' e).2.1 (hM a' e).2.2
theorem zWT.I {n : Nat} {M : Mem} (h : zWT n M) (a : Nat) (f : Nat → Int32) : zWT n (zwI M a f) := h
theorem zWT.L {n : Nat} {M : Mem} (h : zWT n M) (a : Nat) (f : Nat → Int64) : zWT n (zwL M a f) := h
theorem zWT.R {n : Nat} {M : Mem} (h : zWT n M) (a j : Nat) (q : Nat) (hq : zO n q (zKd (zSH a).1 j)) : zWT n (zsR M a j (q + 1)) := by
  intro a' ha' j' hne
  by_cases e : a' = a
  · subst e
    by_cases e2 : j' = j
    · subst e2
      have : zR (zsR M a' j' (q + 1)) a' j' = q + 1 := by
        show (zup M.2.2 a' (zup (zR M a') j' (q + 1))) a' j' = q + 1
        rw [zup_self, zup_self]
      rw [this]; exact hq
    · have : zR (zsR M a' j (q + 1)) a' j' = zR M a' j' := by
        show (zup M.2.2 a' (zup (zR M a') j (q + 1))) a' j' = _
        rw [zup_self, zup_ne _ _ e2]
      rw [this] at hne ⊢; exact h a' ha' j' hne
  · have : zR (zsR M a j (q + 1)) a' = zR M a' := zup_ne _ _ e
    rw [this] at hne ⊢; exact h a' ha' j' hne
/-- a field's link: of the class own, its entry i is the field j of the class c, of kind k -/
def zFL (own : String) (i c j k : Nat) : Prop := (c < 13 ∧ j < zN c ∧ zvk (zTy c j) = k) ∧ Cond.fieldLink own i (zT c j).1 (zT c j).2.1 (zT c j).2.2.1 ∈ zTb
section
variable {p : Program} {l : Launch} {e : Env} {R : Room} {s : State} {m : MethodId} {args : Array Value} {below : List Frame} {meth : Method} {c : Code} {H : Heap} {locs : List Loc} {cells slots : Nat} {Q : State → Prop} {dC : Nat → ClassId} {dI : Nat → Nat → Nat} {b : zSg} {n : Nat} {M : Mem} {cc : ByteArray} {own : String} {pc : Nat} {ls : Array Slot} {rest : List Value}
theorem zObj {a ci : Nat} (h : zCell dC dI s b M H a) (hc : ci < 13) (ho : (zSH a).1 = ci) : t_OB (b.1 + a) (dC ci) (zN ci) (dI ci) H (fun j => zva b M (zTy ci j) a j) := by
  subst ho
  unfold zCell at h
  rwa [if_pos hc] at h
theorem zObj' {a ci : Nat} (h : t_OB (b.1 + a) (dC ci) (zN ci) (dI ci) H (fun j => zva b M (zTy ci j) a j)) (hc : ci < 13) (ho : (zSH a).1 = ci) : zCell dC dI s b M H a := by
  subst ho
  unfold zCell
  rwa [if_pos hc]
theorem zArr {a k N : Nat} (h : zCell dC dI s b M H a) (hc : ¬ k < 13) (ho : (zSH a).1 = k) (hN : (zSH a).2 = N) : ∃ cA : ClassId, ArrOfT s cA (zAT k) ∧ va_RA s cA (zAT k) ∧ H[b.1 + a]? = some (arrV cA N (fun j => zva b M (zAT k) a j)) := by
  subst ho; subst hN
  unfold zCell at h
  rwa [if_neg hc] at h
theorem zArr' {a k N : Nat} (h : ∃ cA : ClassId, ArrOfT s cA (zAT k) ∧ va_RA s cA (zAT k) ∧ H[b.1 + a]? = some (arrV cA N (fun j => zva b M (zAT k) a j))) (hc : ¬ k < 13) (ho : (zSH a).1 = k) (hN : (zSH a).2 = N) : zCell dC dI s b M H a := by
  subst ho; subst hN
  unfold zCell
  rwa [if_neg hc]
theorem zgetW {a ci i j k : Nat} (hx : p.tables.exec = Jvm.exec) (hb : c.code = cc) (hts : ∀ w ∈ zTb, w.before args s = true) (hown : s.vm.findClass own = some m.cls) (hK : va_K (dC, dI) zCl [] s) (hf : zFL own i ci j k) (h : t_OB (b.1 + a) (dC ci) (zN ci) (dI ci) H (fun j => zva b M (zTy ci j) a j)) (hd : decode cc pc = .ok (.getfield i, 3))
    (kk : W p l e R s m args below meth c H locs cells slots Q (F0 m (pc + 3) ls (zva b M (zTy ci j) a j :: rest))) : W p l e R s m args below meth c H locs cells slots Q (F0 m pc ls (.ref (b.1 + a) :: rest)) := by
  obtain ⟨⟨hc, hj, -⟩, hl⟩ := hf
  obtain ⟨cell, q1, q2, q3, q4⟩ := h
  obtain ⟨hS, hfc, kC, hkC, hkind⟩ := hK.1 ci _ (zCl_at ci hc)
  obtain ⟨cf, kf, fi, f, hi, hsl⟩ := hS j hj
  refine W.getf hx hb hown (hts _ hl) hi (u_facts hfc hkC (u_lays hts (zIn ci hc) hj) hi).1 q1 (by rw [q3]; exact fun h => by cases h) (v := zva b M (zTy ci j) a j) ?_ rfl rfl hd kk
  rw [hsl]
  exact q4 j hj
theorem zputW {a ci i j k : Nat} {v : Value} {V' : Nat → Value} (hx : p.tables.exec = Jvm.exec) (hb : c.code = cc) (hts : ∀ w ∈ zTb, w.before args s = true) (hown : s.vm.findClass own = some m.cls) (hK : va_K (dC, dI) zCl [] s) (hf : zFL own i ci j k) (hfin : (zT ci j).2.2.2 = false ∨ (meth.name = "<init>" ∧ (zT ci j).1 = own)) (h : t_OB (b.1 + a) (dC ci) (zN ci) (dI ci) H (fun j => zva b M (zTy ci j) a j)) (hn : narrow (zTy ci j) v = v) (hfit : fits (zTy ci j) v = true) (hV : ∀ j', updV (fun j => zva b M (zTy ci j) a j) j v j' = V' j') (hd : decode cc pc = .ok (.putfield i, 3))
    (kk : ∀ (H' : Heap) (lo : Loc), lo.base = b.1 + a → t_OB (b.1 + a) (dC ci) (zN ci) (dI ci) H' V' → H'.size = H.size → (∀ q, q ≠ b.1 + a → H'[q]? = H[q]?) → W p l e R s m args below meth c H' (locs ++ [lo]) cells slots Q (F0 m (pc + 3) ls rest)) : W p l e R s m args below meth c H locs cells slots Q (F0 m pc ls (v :: .ref (b.1 + a) :: rest)) := by
  obtain ⟨⟨hc, hj, -⟩, hl⟩ := hf
  have hap := va_apart (own := own) hts (zIn ci hc) (zTy ci) (zTyOk ci hc) (zNmOk ci hc) hK (zCl_at ci hc)
  obtain ⟨cell, q1, q2, q3, q4⟩ := h
  obtain ⟨hS, hfc, kC, hkC, hkind⟩ := hK.1 ci _ (zCl_at ci hc)
  obtain ⟨cf, kf, fi, f, hi, hsl⟩ := hS j hj
  have hlay := hts _ (zIn ci hc _ (u_in_lay hj))
  unfold u_lay at hlay
  have hst := (u_facts hfc hkC (u_lays hts (zIn ci hc) hj) hi).1
  have hlt : f.slot < cell.slots.size := by rw [hsl]; exact k2_hasslot (q4 j hj)
  rcases hfin with hfin | ⟨hin, hdecl⟩
  · rw [if_neg (by rw [hfin]; decide)] at hlay
    have h6 := u_store hfc hkC hkind hlay hi (zTyOk ci hc j hj) hn hfit
    refine W.putK hx hb (f := f) ⟨hown, hts _ hl, ⟨_, _, _, hi⟩, hst⟩ (by rw [q2]; exact h6) q1 q3 hlt rfl rfl hd fun H' e1 e2 e3 => ?_
    rw [hsl] at e1
    exact kk H' _ rfl (t_OB.to ⟨_, e1, q2, q3, t_set q4 hap hj v⟩ (fun j' _ => hV j')) e2 e3
  · by_cases hfin : (zT ci j).2.2.2 = true
    · rw [if_pos hfin] at hlay
      have hcf : m.cls = cf := by
        obtain ⟨_, _, c', _, _, _, -, -, hf', -, -, -, hown2, -⟩ := Cond.laysFinal_spec hlay
        have e1 : c' = cf := by have := hi.symm.trans hf'; simp at this; exact this.1.symm
        rw [hdecl] at hown2
        rw [← e1]; exact Option.some.inj (hown.symm.trans hown2)
      have h6 := u_fits hfc hkC hkind (Or.inr hlay) hi (zTyOk ci hc j hj) hn hfit
      refine W.putFinK hx hb hown (hts _ hl) hi hst hcf hin (by rw [q2]; exact h6) q1 q3 hlt rfl rfl hd fun H' e1 e2 e3 => ?_
      rw [hsl] at e1
      exact kk H' _ rfl (t_OB.to ⟨_, e1, q2, q3, t_set q4 hap hj v⟩ (fun j' _ => hV j')) e2 e3
    · rw [if_neg hfin] at hlay
      have h6 := u_store hfc hkC hkind hlay hi (zTyOk ci hc j hj) hn hfit
      refine W.putK hx hb (f := f) ⟨hown, hts _ hl, ⟨_, _, _, hi⟩, hst⟩ (by rw [q2]; exact h6) q1 q3 hlt rfl rfl hd fun H' e1 e2 e3 => ?_
      rw [hsl] at e1
      exact kk H' _ rfl (t_OB.to ⟨_, e1, q2, q3, t_set q4 hap hj v⟩ (fun j' _ => hV j')) e2 e3
end
end
section
section
variable {α : Type} {κ : KX} {nL : Nat} {em : α → Option Value × Mem} {n : Nat} {cs : Nat × Nat} {pc q : Nat} {L st : List Value} {M : Mem} {res : Option α} {cc : ByteArray} {own : String} {ret : Option FieldType} {d : Nat}
def zInit (κ : KX) : Prop := match κ with
  | (_, _, _, _, _, _, _, _, meth, _, _, _, _, _, _, _) => meth.name = "<init>"
theorem zva_i {b : zSg} {M : Mem} {ty : FieldType} {a j : Nat} (h : zvk ty = 0 ∨ zvk ty = 3) : zva b M ty a j = .int (zI M a j) := by
  unfold zva; rcases h with h | h <;> (rw [h]; rfl)
theorem zva_l {b : zSg} {M : Mem} {ty : FieldType} {a j : Nat} (h : zvk ty = 1) : zva b M ty a j = .long (zL M a j) := by
  unfold zva; rw [h]; rfl
theorem zva_r {b : zSg} {M : Mem} {ty : FieldType} {a j : Nat} (h : zvk ty = 2) : zva b M ty a j = zre b (zR M a j) := by
  unfold zva; rw [h]; rfl
theorem x_getI {a i ci j k : Nat} (hf : zFL own i ci j k) (hk : k = 0 ∨ k = 3) (hO : zO n a ci) (hC : CX κ cc own nL ret d) (hd : decode cc pc = .ok (.getfield i, 3)) (hq : pc + 3 = q) (kk : X κ nL em n cs q L (.int (zI M a j) :: st) M res) : X κ nL em n cs pc L (.ref a :: st) M res := by
  subst hq
  obtain ⟨p, l, e, R, s, m, args, below, meth, c, dC, dI, b, mc, ms, n'⟩ := κ
  obtain ⟨hx, hb, hml, hown, hts, hr, hlk, hK, hR, hNs⟩ := hC
  intro r hr0 H locs ls h2 hl
  have hg := kk r hr0 H locs ls h2 hl
  obtain ⟨hRL, hlo, hmo, hb0, hfr⟩ := h2
  show W p l e R s m args below meth c H locs cs.1 cs.2 _ (F0 m pc ls (.ref (zad b a) :: st.map (zrv b)))
  rw [zad_lt hO.1 hRL.2.1]
  refine zgetW hx hb hts hown hK hf (zObj (hRL.2.2.1 a hO.1) hf.1.1 hO.2) hd ?_
  rw [zva_i (by rw [hf.1.2.2]; exact hk)]
  exact hg
theorem x_getL {a i ci j : Nat} (hf : zFL own i ci j 1) (hO : zO n a ci) (hC : CX κ cc own nL ret d) (hd : decode cc pc = .ok (.getfield i, 3)) (hq : pc + 3 = q) (kk : X κ nL em n cs q L (.long (zL M a j) :: st) M res) : X κ nL em n cs pc L (.ref a :: st) M res := by
  subst hq
  obtain ⟨p, l, e, R, s, m, args, below, meth, c, dC, dI, b, mc, ms, n'⟩ := κ
  obtain ⟨hx, hb, hml, hown, hts, hr, hlk, hK, hR, hNs⟩ := hC
  intro r hr0 H locs ls h2 hl
  have hg := kk r hr0 H locs ls h2 hl
  obtain ⟨hRL, hlo, hmo, hb0, hfr⟩ := h2
  show W p l e R s m args below meth c H locs cs.1 cs.2 _ (F0 m pc ls (.ref (zad b a) :: st.map (zrv b)))
  rw [zad_lt hO.1 hRL.2.1]
  refine zgetW hx hb hts hown hK hf (zObj (hRL.2.2.1 a hO.1) hf.1.1 hO.2) hd ?_
  rw [zva_l hf.1.2.2]
  exact hg
theorem x_getR {a i ci j k : Nat} {K : Nat → Option α} (hf : zFL own i ci j 2) (hk : zK ci j = k) (hO : zO n a ci) (hC : CX κ cc own nL ret d) (hd : decode cc pc = .ok (.getfield i, 3)) (hq : pc + 3 = q) (kk : ∀ q0, zO n q0 k → X κ nL em n cs q L (.ref q0 :: st) M (K q0)) : X κ nL em n cs pc L (.ref a :: st) M (Option.bind (zrf M a j) K) := by
  subst hq; subst hk
  obtain ⟨p, l, e, R, s, m, args, below, meth, c, dC, dI, b, mc, ms, n'⟩ := κ
  obtain ⟨hx, hb, hml, hown, hts, hr, hlk, hK, hR, hNs⟩ := hC
  intro r hr0 H locs ls h2 hl
  cases hz : zR M a j with
  | zero => rw [show zrf M a j = none by unfold zrf; rw [hz]] at hr0; cases hr0
  | succ q0 =>
    rw [show zrf M a j = some q0 by unfold zrf; rw [hz]] at hr0
    have hq0 : zO n q0 (zK ci j) := by
      have := h2.1.2.2.2 a hO.1 j (by rw [hz]; exact Nat.succ_ne_zero _)
      rw [hz, hO.2] at this
      unfold zKd at this
      rwa [if_pos hf.1.1] at this
    have hg := kk q0 hq0 r hr0 H locs ls h2 hl
    obtain ⟨hRL, hlo, hmo, hb0, hfr⟩ := h2
    show W p l e R s m args below meth c H locs cs.1 cs.2 _ (F0 m pc ls (.ref (zad b a) :: st.map (zrv b)))
    rw [zad_lt hO.1 hRL.2.1]
    refine zgetW hx hb hts hown hK hf (zObj (hRL.2.2.1 a hO.1) hf.1.1 hO.2) hd ?_
    rw [zva_r hf.1.2.2, hz]
    have hg : W p l e R s m args below meth c H locs cs.1 cs.2 _ (F0 m (pc + 3) ls (.ref (zad b q0) :: st.map (zrv b))) := hg
    rw [zad_lt hq0.1 hRL.2.1] at hg
    exact hg
theorem zFin {H : Heap} {b : zSg} {lo : Loc} {locs : List Loc} {a : Nat} (h : ∀ q ∈ locs, b.1 ≤ q.base) (hlo : lo.base = b.1 + a) : ∀ q ∈ locs ++ [lo], b.1 ≤ q.base := by
  intro q hq
  rcases List.mem_append.mp hq with h1 | h1
  · exact h q h1
  · rw [List.mem_singleton.mp h1, hlo]; exact Nat.le_add_right _ _
theorem x_putI {a i ci j k : Nat} {v : Int32} (hf : zFL own i ci j k) (hv : narrow (zTy ci j) (.int v) = .int v ∧ fits (zTy ci j) (.int v) = true) (hk : k = 0 ∨ k = 3) (hfin : (zT ci j).2.2.2 = false ∨ (zInit κ ∧ (zT ci j).1 = own)) (hO : zO n a ci) (hC : CX κ cc own nL ret d) (hd : decode cc pc = .ok (.putfield i, 3)) (hq : pc + 3 = q) (kk : X κ nL em n cs q L st (zsI M a j v) res) : X κ nL em n cs pc L (.int v :: .ref a :: st) M res := by
  subst hq
  obtain ⟨p, l, e, R, s, m, args, below, meth, c, dC, dI, b, mc, ms, n'⟩ := κ
  obtain ⟨hx, hb, hml, hown, hts, hr, hlk, hK, hR, hNs⟩ := hC
  intro r hr0 H locs ls h2 hl
  obtain ⟨hRL, hlo, hmo, hb0, hfr⟩ := h2
  show W p l e R s m args below meth c H locs cs.1 cs.2 _ (F0 m pc ls (.int v :: .ref (zad b a) :: st.map (zrv b)))
  rw [zad_lt hO.1 hRL.2.1]
  refine zputW (V' := fun j' => zva b (zsI M a j v) (zTy ci j') a j') hx hb hts hown hK hf hfin (zObj (hRL.2.2.1 a hO.1) hf.1.1 hO.2) hv.1 hv.2 (fun j' => ?_) hd (fun H' lo e0 e1 e2 e3 => ?_)
  · show updV _ j _ j' = _
    unfold updV
    by_cases ej : j' = j
    · subst ej
      rw [if_pos rfl, zva_i (by rw [hf.1.2.2]; exact hk)]
      show Value.int v = .int ((zup M.1 a (zup (zI M a) j' v)) a j')
      rw [zup_self, zup_self]
    · rw [if_neg ej]
      unfold zva
      show _ = match zvk (zTy ci j') with | 1 => _ | 2 => _ | _ => Value.int ((zup M.1 a (zup (zI M a) j v)) a j')
      rw [zup_self, zup_ne _ _ ej]
      rfl
  · exact kk r hr0 H' _ ls ⟨hRL.upd e2 e3 (zOff_wI M a _) (zObj' e1 hf.1.1 hO.2) (hRL.2.2.2.I a _), zFin (H := H) hlo e0, by rw [e2]; exact hmo, hb0, fun q h => (e3 q (Nat.ne_of_lt (Nat.lt_of_lt_of_le h (Nat.le_add_right _ _)))).trans (hfr q h)⟩ hl
theorem x_putL {a i ci j : Nat} {v : Int64} (hf : zFL own i ci j 1) (hv : narrow (zTy ci j) (.long v) = .long v ∧ fits (zTy ci j) (.long v) = true) (hfin : (zT ci j).2.2.2 = false ∨ (zInit κ ∧ (zT ci j).1 = own)) (hO : zO n a ci) (hC : CX κ cc own nL ret d) (hd : decode cc pc = .ok (.putfield i, 3)) (hq : pc + 3 = q) (kk : X κ nL em n cs q L st (zsL M a j v) res) : X κ nL em n cs pc L (.long v :: .ref a :: st) M res := by
  subst hq
  obtain ⟨p, l, e, R, s, m, args, below, meth, c, dC, dI, b, mc, ms, n'⟩ := κ
  obtain ⟨hx, hb, hml, hown, hts, hr, hlk, hK, hR, hNs⟩ := hC
  intro r hr0 H locs ls h2 hl
  obtain ⟨hRL, hlo, hmo, hb0, hfr⟩ := h2
  show W p l e R s m args below meth c H locs cs.1 cs.2 _ (F0 m pc ls (.long v :: .ref (zad b a) :: st.map (zrv b)))
  rw [zad_lt hO.1 hRL.2.1]
  refine zputW (V' := fun j' => zva b (zsL M a j v) (zTy ci j') a j') hx hb hts hown hK hf hfin (zObj (hRL.2.2.1 a hO.1) hf.1.1 hO.2) hv.1 hv.2 (fun j' => ?_) hd (fun H' lo e0 e1 e2 e3 => ?_)
  · show updV _ j _ j' = _
    unfold updV
    by_cases ej : j' = j
    · subst ej
      rw [if_pos rfl, zva_l hf.1.2.2]
      show Value.long v = .long ((zup M.2.1 a (zup (zL M a) j' v)) a j')
      rw [zup_self, zup_self]
    · rw [if_neg ej]
      unfold zva
      show _ = match zvk (zTy ci j') with | 1 => Value.long ((zup M.2.1 a (zup (zL M a) j v)) a j') | 2 => _ | _ => _
      rw [zup_self, zup_ne _ _ ej]
      rfl
  · exact kk r hr0 H' _ ls ⟨hRL.upd e2 e3 (zOff_wL M a _) (zObj' e1 hf.1.1 hO.2) (hRL.2.2.2.L a _), zFin (H := H) hlo e0, by rw [e2]; exact hmo, hb0, fun q h => (e3 q (Nat.ne_of_lt (Nat.lt_of_lt_of_le h (Nat.le_add_right _ _)))).trans (hfr q h)⟩ hl
theorem x_putR {a i ci j k v : Nat} (hf : zFL own i ci j 2) (hv : ∀ x, narrow (zTy ci j) (.ref x) = .ref x ∧ fits (zTy ci j) (.ref x) = true) (hk : zK ci j = k) (hO2 : zO n v k) (hfin : (zT ci j).2.2.2 = false ∨ (zInit κ ∧ (zT ci j).1 = own)) (hO : zO n a ci) (hC : CX κ cc own nL ret d) (hd : decode cc pc = .ok (.putfield i, 3)) (hq : pc + 3 = q) (kk : X κ nL em n cs q L st (zsR M a j (v + 1)) res) : X κ nL em n cs pc L (.ref v :: .ref a :: st) M res := by
  subst hq; subst hk
  obtain ⟨p, l, e, R, s, m, args, below, meth, c, dC, dI, b, mc, ms, n'⟩ := κ
  obtain ⟨hx, hb, hml, hown, hts, hr, hlk, hK, hR, hNs⟩ := hC
  intro r hr0 H locs ls h2 hl
  obtain ⟨hRL, hlo, hmo, hb0, hfr⟩ := h2
  show W p l e R s m args below meth c H locs cs.1 cs.2 _ (F0 m pc ls (.ref (zad b v) :: .ref (zad b a) :: st.map (zrv b)))
  rw [zad_lt hO.1 hRL.2.1, zad_lt hO2.1 hRL.2.1]
  refine zputW (V' := fun j' => zva b (zsR M a j (v + 1)) (zTy ci j') a j') hx hb hts hown hK hf hfin (zObj (hRL.2.2.1 a hO.1) hf.1.1 hO.2) (hv _).1 (hv _).2 (fun j' => ?_) hd (fun H' lo e0 e1 e2 e3 => ?_)
  · show updV _ j _ j' = _
    unfold updV
    by_cases ej : j' = j
    · subst ej
      rw [if_pos rfl, zva_r hf.1.2.2]
      show _ = zre b ((zup M.2.2 a (zup (zR M a) j' (v + 1))) a j')
      rw [zup_self, zup_self]
      rfl
    · rw [if_neg ej]
      unfold zva
      show _ = match zvk (zTy ci j') with | 1 => _ | 2 => zre b ((zup M.2.2 a (zup (zR M a) j (v + 1))) a j') | _ => _
      rw [zup_self, zup_ne _ _ ej]
      rfl
  · exact kk r hr0 H' _ ls ⟨hRL.upd e2 e3 (zOff_wR M a _) (zObj' e1 hf.1.1 hO.2) (hRL.2.2.2.R a j v (by rw [hO.2]; unfold zKd; rw [if_pos hf.1.1]; exact hO2)), zFin (H := H) hlo e0, by rw [e2]; exact hmo, hb0, fun q h => (e3 q (Nat.ne_of_lt (Nat.lt_of_lt_of_le h (Nat.le_add_right _ _)))).trans (hfr q h)⟩ hl
theorem zld_spec {a : Nat} {i : Int32} {k : Nat} (h : zld a i = some k) : ¬ (i < 0 ∨ (zSH a).2 ≤ i.toNatClampNeg) ∧ k = i.toNatClampNeg := by
  unfold zld at h
  by_cases hc : i < 0 ∨ (zSH a).2 ≤ i.toNatClampNeg
  · rw [if_pos hc] at h; cases h
  · rw [if_neg hc] at h; exact ⟨hc, (Option.some.inj h).symm⟩
theorem x_ldcase {β : Type} {o : Option β} {K : β → Option α} (h : ∀ k, o = some k → X κ nL em n cs pc L st M (K k)) : X κ nL em n cs pc L st M (Option.bind o K) := by
  cases o with
  | none => exact fun r hr => by cases hr
  | some k => exact h k rfl
theorem x_iald {a : Nat} {i : Int32} {K : Nat → Option α} (hO : zO n a 20) (hC : CX κ cc own nL ret d) (hd : decode cc pc = .ok (.iaload, 1)) (hq : pc + 1 = q) (kk : ∀ k, zld a i = some k → X κ nL em n cs q L (.int (zI M a k) :: st) M (K k)) : X κ nL em n cs pc L (.int i :: .ref a :: st) M (Option.bind (zld a i) K) := by
  subst hq
  refine x_ldcase fun k hk => ?_
  have kk := kk k hk
  obtain ⟨p, l, e, R, s, m, args, below, meth, c, dC, dI, b, mc, ms, n'⟩ := κ
  obtain ⟨hx, hb, hml, hown, hts, hr, hlk, hK, hR, hNs⟩ := hC
  intro r hr0 H locs ls h2 hl
  have hg := kk r hr0 H locs ls h2 hl
  obtain ⟨hRL, hlo, hmo, hb0, hfr⟩ := h2
  obtain ⟨hin, rfl⟩ := zld_spec hk
  obtain ⟨cA, h1, -, h3⟩ := zArr (hRL.2.2.1 a hO.1) (by decide) hO.2 rfl
  have hlt : i.toNatClampNeg < (zSH a).2 := Nat.not_le.mp fun q => hin (Or.inr q)
  show W p l e R s m args below meth c H locs cs.1 cs.2 _ (F0 m pc ls (.int i :: .ref (zad b a) :: st.map (zrv b)))
  rw [zad_lt hO.1 hRL.2.1]
  exact W.iald (v := .int (zI M a i.toNatClampNeg)) hx hb h3 (h1 _ _) (fun q => by cases q) (by rw [arrV_size]; exact hin) (by rw [arrV_read _ _ hlt]; rfl) rfl rfl hd hg
theorem x_lald {a : Nat} {i : Int32} {K : Nat → Option α} (hO : zO n a 21) (hC : CX κ cc own nL ret d) (hd : decode cc pc = .ok (.laload, 1)) (hq : pc + 1 = q) (kk : ∀ k, zld a i = some k → X κ nL em n cs q L (.long (zL M a k) :: st) M (K k)) : X κ nL em n cs pc L (.int i :: .ref a :: st) M (Option.bind (zld a i) K) := by
  subst hq
  refine x_ldcase fun k hk => ?_
  have kk := kk k hk
  obtain ⟨p, l, e, R, s, m, args, below, meth, c, dC, dI, b, mc, ms, n'⟩ := κ
  obtain ⟨hx, hb, hml, hown, hts, hr, hlk, hK, hR, hNs⟩ := hC
  intro r hr0 H locs ls h2 hl
  have hg := kk r hr0 H locs ls h2 hl
  obtain ⟨hRL, hlo, hmo, hb0, hfr⟩ := h2
  obtain ⟨hin, rfl⟩ := zld_spec hk
  obtain ⟨cA, h1, -, h3⟩ := zArr (hRL.2.2.1 a hO.1) (by decide) hO.2 rfl
  have hlt : i.toNatClampNeg < (zSH a).2 := Nat.not_le.mp fun q => hin (Or.inr q)
  show W p l e R s m args below meth c H locs cs.1 cs.2 _ (F0 m pc ls (.int i :: .ref (zad b a) :: st.map (zrv b)))
  rw [zad_lt hO.1 hRL.2.1]
  exact W.lald (v := .long (zL M a i.toNatClampNeg)) hx hb h3 (h1 _ _) (fun q => by cases q) (by rw [arrV_size]; exact hin) (by rw [arrV_read _ _ hlt]; rfl) rfl rfl hd hg
theorem x_zald {a : Nat} {i : Int32} {K : Nat → Option α} (hO : zO n a 22) (hC : CX κ cc own nL ret d) (hd : decode cc pc = .ok (.baload, 1)) (hq : pc + 1 = q) (kk : ∀ k, zld a i = some k → X κ nL em n cs q L (.int (zI M a k) :: st) M (K k)) : X κ nL em n cs pc L (.int i :: .ref a :: st) M (Option.bind (zld a i) K) := by
  subst hq
  refine x_ldcase fun k hk => ?_
  have kk := kk k hk
  obtain ⟨p, l, e, R, s, m, args, below, meth, c, dC, dI, b, mc, ms, n'⟩ := κ
  obtain ⟨hx, hb, hml, hown, hts, hr, hlk, hK, hR, hNs⟩ := hC
  intro r hr0 H locs ls h2 hl
  have hg := kk r hr0 H locs ls h2 hl
  obtain ⟨hRL, hlo, hmo, hb0, hfr⟩ := h2
  obtain ⟨hin, rfl⟩ := zld_spec hk
  obtain ⟨cA, h1, -, h3⟩ := zArr (hRL.2.2.1 a hO.1) (by decide) hO.2 rfl
  have hlt : i.toNatClampNeg < (zSH a).2 := Nat.not_le.mp fun q => hin (Or.inr q)
  show W p l e R s m args below meth c H locs cs.1 cs.2 _ (F0 m pc ls (.int i :: .ref (zad b a) :: st.map (zrv b)))
  rw [zad_lt hO.1 hRL.2.1]
  exact W.zald (v := .int (zI M a i.toNatClampNeg)) hx hb h3 (h1 _ _) (fun q => by cases q) (by rw [arrV_size]; exact hin) (by rw [arrV_read _ _ hlt]; rfl) rfl rfl hd hg
theorem x_aald {a kd ke : Nat} {i : Int32} {K : Nat → Nat → Option α} (hO : zO n a kd) (hkd : kd = 23 ∨ kd = 24) (hke : zAK kd = ke) (hC : CX κ cc own nL ret d) (hd : decode cc pc = .ok (.aaload, 1)) (hq : pc + 1 = q) (kk : ∀ k, zld a i = some k → ∀ q0, zO n q0 ke → X κ nL em n cs q L (.ref q0 :: st) M (K k q0)) : X κ nL em n cs pc L (.int i :: .ref a :: st) M (Option.bind (zld a i) fun k => Option.bind (zrf M a k) (K k)) := by
  subst hq; subst hke
  refine x_ldcase fun k hk => ?_
  have kk := kk k hk
  have hnd : ¬ kd < 13 := by rcases hkd with h | h <;> omega
  obtain ⟨p, l, e, R, s, m, args, below, meth, c, dC, dI, b, mc, ms, n'⟩ := κ
  obtain ⟨hx, hb, hml, hown, hts, hr, hlk, hK, hR, hNs⟩ := hC
  intro r hr0 H locs ls h2 hl
  cases hz : zR M a k with
  | zero => rw [show zrf M a k = none by unfold zrf; rw [hz]] at hr0; cases hr0
  | succ q0 =>
    rw [show zrf M a k = some q0 by unfold zrf; rw [hz]] at hr0
    have hq0 : zO n q0 (zAK kd) := by
      have := h2.1.2.2.2 a hO.1 k (by rw [hz]; exact Nat.succ_ne_zero _)
      rw [hz, hO.2] at this
      unfold zKd at this
      rwa [if_neg hnd] at this
    have hg := kk q0 hq0 r hr0 H locs ls h2 hl
    obtain ⟨hRL, hlo, hmo, hb0, hfr⟩ := h2
    obtain ⟨hin, rfl⟩ := zld_spec hk
    obtain ⟨cA, h1, -, h3⟩ := zArr (hRL.2.2.1 a hO.1) hnd hO.2 rfl
    have hlt : i.toNatClampNeg < (zSH a).2 := Nat.not_le.mp fun q => hin (Or.inr q)
    show W p l e R s m args below meth c H locs cs.1 cs.2 _ (F0 m pc ls (.int i :: .ref (zad b a) :: st.map (zrv b)))
    rw [zad_lt hO.1 hRL.2.1]
    have hg : W p l e R s m args below meth c H locs cs.1 cs.2 _ (F0 m (pc + 1) ls (.ref (zad b q0) :: st.map (zrv b))) := hg
    rw [zad_lt hq0.1 hRL.2.1] at hg
    exact W.aald (v := .ref (b.1 + q0)) hx hb h3 (h1 _ _) (by rcases hkd with h | h <;> subst h <;> rfl) (fun q => by cases q) (by rw [arrV_size]; exact hin) (by rw [arrV_read _ _ hlt, zva_r (by rcases hkd with h | h <;> subst h <;> rfl), hz]; rfl) rfl rfl hd hg
theorem x_iast {a : Nat} {i v : Int32} {K : Nat → Option α} (hO : zO n a 20) (hC : CX κ cc own nL ret d) (hd : decode cc pc = .ok (.iastore, 1)) (hq : pc + 1 = q) (kk : ∀ k, zld a i = some k → X κ nL em n cs q L st (zsI M a k v) (K k)) : X κ nL em n cs pc L (.int v :: .int i :: .ref a :: st) M (Option.bind (zld a i) K) := by
  subst hq
  refine x_ldcase fun k hk => ?_
  have kk := kk k hk
  obtain ⟨p, l, e, R, s, m, args, below, meth, c, dC, dI, b, mc, ms, n'⟩ := κ
  obtain ⟨hx, hb, hml, hown, hts, hr, hlk, hK, hR, hNs⟩ := hC
  intro r hr0 H locs ls h2 hl
  obtain ⟨hRL, hlo, hmo, hb0, hfr⟩ := h2
  obtain ⟨hin, rfl⟩ := zld_spec hk
  obtain ⟨cA, h1, h4, h3⟩ := zArr (hRL.2.2.1 a hO.1) (by decide) hO.2 rfl
  have hlt : i.toNatClampNeg < (zSH a).2 := Nat.not_le.mp fun q => hin (Or.inr q)
  show W p l e R s m args below meth c H locs cs.1 cs.2 _ (F0 m pc ls (.int v :: .int i :: .ref (zad b a) :: st.map (zrv b)))
  rw [zad_lt hO.1 hRL.2.1]
  refine W.iast hx hb h3 (h1 _ _) (fun q => by cases q) (by rw [arrV_size]; exact hin) rfl rfl hd fun H' e1 e2 e3 => ?_
  refine kk r hr0 H' _ ls ⟨hRL.upd e2 e3 (zOff_wI M a _) (zArr' ⟨cA, h1, h4, ?_⟩ (by decide) hO.2 rfl) (hRL.2.2.2.I a _), zFin (H := H) (a := a) hlo rfl, by rw [e2]; exact hmo, hb0, fun q h => (e3 q (Nat.ne_of_lt (Nat.lt_of_lt_of_le h (Nat.le_add_right _ _)))).trans (hfr q h)⟩ hl
  rw [e1, arrV_store]
  congr 2
  funext j
  show updV _ _ _ j = Value.int ((zup M.1 a (zup (zI M a) i.toNatClampNeg v)) a j)
  rw [zup_self]
  unfold updV zup
  by_cases ej : j = i.toNatClampNeg
  · rw [if_pos ej, if_pos ej]
  · rw [if_neg ej, if_neg ej]; rfl
theorem x_last {a : Nat} {i : Int32} {v : Int64} {K : Nat → Option α} (hO : zO n a 21) (hC : CX κ cc own nL ret d) (hd : decode cc pc = .ok (.lastore, 1)) (hq : pc + 1 = q) (kk : ∀ k, zld a i = some k → X κ nL em n cs q L st (zsL M a k v) (K k)) : X κ nL em n cs pc L (.long v :: .int i :: .ref a :: st) M (Option.bind (zld a i) K) := by
  subst hq
  refine x_ldcase fun k hk => ?_
  have kk := kk k hk
  obtain ⟨p, l, e, R, s, m, args, below, meth, c, dC, dI, b, mc, ms, n'⟩ := κ
  obtain ⟨hx, hb, hml, hown, hts, hr, hlk, hK, hR, hNs⟩ := hC
  intro r hr0 H locs ls h2 hl
  obtain ⟨hRL, hlo, hmo, hb0, hfr⟩ := h2
  obtain ⟨hin, rfl⟩ := zld_spec hk
  obtain ⟨cA, h1, h4, h3⟩ := zArr (hRL.2.2.1 a hO.1) (by decide) hO.2 rfl
  have hlt : i.toNatClampNeg < (zSH a).2 := Nat.not_le.mp fun q => hin (Or.inr q)
  show W p l e R s m args below meth c H locs cs.1 cs.2 _ (F0 m pc ls (.long v :: .int i :: .ref (zad b a) :: st.map (zrv b)))
  rw [zad_lt hO.1 hRL.2.1]
  refine W.last hx hb h3 (h1 _ _) (fun q => by cases q) (by rw [arrV_size]; exact hin) rfl rfl hd fun H' e1 e2 e3 => ?_
  refine kk r hr0 H' _ ls ⟨hRL.upd e2 e3 (zOff_wL M a _) (zArr' ⟨cA, h1, h4, ?_⟩ (by decide) hO.2 rfl) (hRL.2.2.2.L a _), zFin (H := H) (a := a) hlo rfl, by rw [e2]; exact hmo, hb0, fun q h => (e3 q (Nat.ne_of_lt (Nat.lt_of_lt_of_le h (Nat.le_add_right _ _)))).trans (hfr q h)⟩ hl
  rw [e1, arrV_store]
  congr 2
  funext j
  show updV _ _ _ j = Value.long ((zup M.2.1 a (zup (zL M a) i.toNatClampNeg v)) a j)
  rw [zup_self]
  unfold updV zup
  by_cases ej : j = i.toNatClampNeg
  · rw [if_pos ej, if_pos ej]
  · rw [if_neg ej, if_neg ej]; rfl
theorem x_zast {a : Nat} {i v : Int32} {K : Nat → Option α} (hv : narrow .boolean (.int v) = .int v) (hO : zO n a 22) (hC : CX κ cc own nL ret d) (hd : decode cc pc = .ok (.bastore, 1)) (hq : pc + 1 = q) (kk : ∀ k, zld a i = some k → X κ nL em n cs q L st (zsI M a k v) (K k)) : X κ nL em n cs pc L (.int v :: .int i :: .ref a :: st) M (Option.bind (zld a i) K) := by
  subst hq
  refine x_ldcase fun k hk => ?_
  have kk := kk k hk
  obtain ⟨p, l, e, R, s, m, args, below, meth, c, dC, dI, b, mc, ms, n'⟩ := κ
  obtain ⟨hx, hb, hml, hown, hts, hr, hlk, hK, hR, hNs⟩ := hC
  intro r hr0 H locs ls h2 hl
  obtain ⟨hRL, hlo, hmo, hb0, hfr⟩ := h2
  obtain ⟨hin, rfl⟩ := zld_spec hk
  obtain ⟨cA, h1, h4, h3⟩ := zArr (hRL.2.2.1 a hO.1) (by decide) hO.2 rfl
  have hlt : i.toNatClampNeg < (zSH a).2 := Nat.not_le.mp fun q => hin (Or.inr q)
  show W p l e R s m args below meth c H locs cs.1 cs.2 _ (F0 m pc ls (.int v :: .int i :: .ref (zad b a) :: st.map (zrv b)))
  rw [zad_lt hO.1 hRL.2.1]
  refine W.zast hx hb h3 (h1 _ _) (fun q => by cases q) (by rw [arrV_size]; exact hin) rfl rfl hd fun H' e1 e2 e3 => ?_
  refine kk r hr0 H' _ ls ⟨hRL.upd e2 e3 (zOff_wI M a _) (zArr' ⟨cA, h1, h4, ?_⟩ (by decide) hO.2 rfl) (hRL.2.2.2.I a _), zFin (H := H) (a := a) hlo rfl, by rw [e2]; exact hmo, hb0, fun q h => (e3 q (Nat.ne_of_lt (Nat.lt_of_lt_of_le h (Nat.le_add_right _ _)))).trans (hfr q h)⟩ hl
  rw [e1, hv, arrV_store]
  congr 2
  funext j
  show updV _ _ _ j = Value.int ((zup M.1 a (zup (zI M a) i.toNatClampNeg v)) a j)
  rw [zup_self]
  unfold updV zup
  by_cases ej : j = i.toNatClampNeg
  · rw [if_pos ej, if_pos ej]
  · rw [if_neg ej, if_neg ej]; rfl
def zlen (a : Nat) : Int32 := (zSH a).2.toInt32
theorem x_alen {a k : Nat} (hO : zO n a k) (hk : ¬ k < 13) (hC : CX κ cc own nL ret d) (hd : decode cc pc = .ok (.arraylength, 1)) (hq : pc + 1 = q) (kk : X κ nL em n cs q L (.int (zlen a) :: st) M res) : X κ nL em n cs pc L (.ref a :: st) M res := by
  subst hq
  obtain ⟨p, l, e, R, s, m, args, below, meth, c, dC, dI, b, mc, ms, n'⟩ := κ
  obtain ⟨hx, hb, hml, hown, hts, hr, hlk, hK, hR, hNs⟩ := hC
  intro r hr0 H locs ls h2 hl
  have hg := kk r hr0 H locs ls h2 hl
  obtain ⟨hRL, hlo, hmo, hb0, hfr⟩ := h2
  obtain ⟨cA, h1, -, h3⟩ := zArr (hRL.2.2.1 a hO.1) hk hO.2 rfl
  show W p l e R s m args below meth c H locs cs.1 cs.2 _ (F0 m pc ls (.ref (zad b a) :: st.map (zrv b)))
  rw [zad_lt hO.1 hRL.2.1]
  exact W.alen (n := zlen a) hx hb h3 (h1 _ _) (by rw [arrV_size]; rfl) rfl rfl hd hg
end
end
section
/-! a method's contract over the memory; returns; calls -/
def zPc (dC : Nat → ClassId) (dI : Nat → Nat → Nat) (b : zSg) (n : Nat) (as : List Value) (M : Mem) : Array Value → State → Prop :=
  va_Pc (as.map (zrv b)) (fun U => zRL dC dI b U n M U.heap ∧ va_K (dC, dI) zCl [] U ∧ ∀ w ∈ zNs, va_Nw w U)
def MT (l : Launch) (dC : Nat → ClassId) (dI : Nat → Nat → Nat) (b : zSg) (y : MethodName) (bytes : ByteArray) (maxL : Nat) (ret : Option FieldType) (d mc ms n n' : Nat) (as : List Value) (M : Mem) (ov : Option Value) (M' : Mem) : Prop :=
  Met l y (Cond.code y bytes maxL ret :: zTb) (zRm d mc ms) (zPc dC dI b n as M) (zQ dC dI b n' ov M') mc ms (fun q => b.1 ≤ q)
theorem zNs_form : ∀ w ∈ zNs, ∃ a i x h, w = Cond.methodLinkNest a i x h := by
  intro w hw
  simp only [zNs, List.mem_cons, List.not_mem_nil, or_false] at hw
  rcases hw with h | h | h | h | h | h | h | h | h <;> exact ⟨_, _, _, _, h⟩
theorem zNs_warm {s U : State} (hW : s.WarmedH U.vm) (h : ∀ w ∈ zNs, va_Nw w s) : ∀ w ∈ zNs, va_Nw w U := by
  intro w hw
  have h1 := h w hw
  obtain ⟨a, i, x, h0, rfl⟩ := zNs_form w hw
  exact va_Nw.warmM hW h1
theorem zNs_same {s U : State} (hW : s.vm = U.vm) (h : ∀ w ∈ zNs, va_Nw w s) : ∀ w ∈ zNs, va_Nw w U := by
  intro w hw
  have h1 := h w hw
  obtain ⟨a, i, x, h0, rfl⟩ := zNs_form w hw
  exact va_Nw.same rfl hW h1
theorem zPc_blind {dC : Nat → ClassId} {dI : Nat → Nat → Nat} {b : zSg} {n : Nat} {as : List Value} {M : Mem} : FrameBlind (zPc dC dI b n as M) := by
  intro a U g mk h
  obtain ⟨h1, h2, h3, h4⟩ := h
  exact ⟨h1, zRL.moved (s := U) (t := U.calling g mk a) (Vm.Alike.refl U.vm) h2, va_K.moved (u := U) (U := U.calling g mk a) (Vm.Alike.refl U.vm) h3, zNs_same (s := U) (U := U.calling g mk a) rfl h4⟩
theorem zPc_at {dC : Nat → ClassId} {dI : Nat → Nat → Nat} {b : zSg} {n : Nat} {as : List Value} {M : Mem} {s : State} {H : Heap} (hRL : zRL dC dI b s n M H) (hK : va_K (dC, dI) zCl [] s) (hN : ∀ w ∈ zNs, va_Nw w s) : ∀ U : State, U.heap = H → s.WarmedH U.vm → zPc dC dI b n as M (as.map (zrv b)).toArray U := by
  intro U hU hW
  refine ⟨rfl, ?_, va_K.moved hW.alike hK, zNs_warm hW hN⟩
  rw [hU]
  exact hRL.moved hW.alike
def zent (as : List Value) (nL : Nat) : List Value := (as.flatMap fun v => if v.category = 2 then [v, .null] else [v]) ++ List.replicate (nL - (lg_sl as).length) .null
def zFn (κ : KX) (l : Launch) (dC : Nat → ClassId) (dI : Nat → Nat → Nat) (b : zSg) (mc ms n' : Nat) : Prop := match κ with
  | (_, l1, _, _, _, _, _, _, _, _, dC1, dI1, b1, mc1, ms1, n1) => l1 = l ∧ dC1 = dC ∧ dI1 = dI ∧ b1 = b ∧ mc1 = mc ∧ ms1 = ms ∧ n1 = n'
def zNam (κ : KX) (y : MethodName) : Prop := match κ with
  | (_, _, _, _, _, _, _, _, meth, _, _, _, _, _, _, _) => meth.name = y.name
theorem zent_args (b : zSg) (as : List Value) : ∀ (o i : Nat) (v : Value), ((as.flatMap fun v => if v.category = 2 then [v, Value.null] else [v]))[i]? = some v → v ≠ .null → (o + i, zrv b v) ∈ lv_args o (as.map (zrv b)) := by
  induction as with
  | nil => intro o i v h; simp at h
  | cons a as ih =>
    intro o i v h hv
    rw [List.flatMap_cons] at h
    show _ ∈ lv_args o (zrv b a :: as.map (zrv b))
    by_cases hc : a.category = 2
    · rw [if_pos hc] at h
      have e : lv_args o (zrv b a :: as.map (zrv b)) = (o, zrv b a) :: lv_args (o + 2) (as.map (zrv b)) := by simp [lv_args, zrv_cat, hc]
      rw [e]
      match i with
      | 0 => simp at h; subst h; exact List.mem_cons_self
      | 1 => simp at h; exact absurd h.symm hv
      | i + 2 =>
        have h' : ((as.flatMap fun v => if v.category = 2 then [v, Value.null] else [v]))[i]? = some v := by simpa using h
        have := ih (o + 2) i v h' hv
        rw [show o + 2 + i = o + (i + 2) by omega] at this
        exact List.mem_cons_of_mem _ this
    · rw [if_neg hc] at h
      have e : lv_args o (zrv b a :: as.map (zrv b)) = (o, zrv b a) :: lv_args (o + 1) (as.map (zrv b)) := by
        have h1 : a.category = 1 := (lv_cat a).resolve_right hc
        simp [lv_args, zrv_cat, h1]
      rw [e]
      match i with
      | 0 => simp at h; subst h; exact List.mem_cons_self
      | i + 1 =>
        have h' : ((as.flatMap fun v => if v.category = 2 then [v, Value.null] else [v]))[i]? = some v := by simpa using h
        have := ih (o + 1) i v h' hv
        rw [show o + 1 + i = o + (i + 1) by omega] at this
        exact List.mem_cons_of_mem _ this
theorem lg_sl_len (b : zSg) (as : List Value) : (lg_sl (as.map (zrv b))).length = (lg_sl as).length := by
  induction as with
  | nil => rfl
  | cons a as ih =>
    have e : ∀ (v : Value) (vs : List Value), lg_sl (v :: vs) = (if v.category = 2 then [Slot.val v, .second] else [.val v]) ++ lg_sl vs := fun v vs => rfl
    rw [List.map_cons, e, e, List.length_append, List.length_append, ih, zrv_cat]
    by_cases hc : a.category = 2
    · rw [if_pos hc, if_pos hc]; rfl
    · rw [if_neg hc, if_neg hc]; rfl
theorem MT.ofX {α : Type} {em : α → Option Value × Mem} {l : Launch} {dC : Nat → ClassId} {dI : Nat → Nat → Nat} {b : zSg} {y : MethodName} {bytes : ByteArray} {maxL : Nat} {ret : Option FieldType} {d mc ms n n' : Nat} {as L0 : List Value} {M : Mem} {res : Option α} (hy : plainFor y = true) (hL : zent as maxL = L0) (hlen : (lg_sl as).length ≤ maxL)
    (h : ∀ κ : KX, CX κ bytes y.cls maxL ret d → zFn κ l dC dI b mc ms n' → zNam κ y → X κ maxL em n (0, 0) 0 L0 [] M res) (x : α) (hx : res = some x) : MT l dC dI b y bytes maxL ret d mc ms n n' as M (em x).1 (em x).2 := by
  refine va_MetF (cc := bytes) (maxL := maxL) (ret := ret) hy rfl ?_
  intro p e s m args below meth c s₁ B hml hv
  obtain ⟨rfl, hRL, hK, hN⟩ := hv
  have hts := atoms_spec (ws := Cond.code y bytes maxL ret :: zTb) B.pre
  have hX := h (p, l, e, zRm d mc ms, s, m, _, below, meth, c, dC, dI, b, mc, ms, n') ⟨B.exec, B.bytes, hml, findClass_of_methodNamed B.named, fun w hw => hts w (List.mem_cons_of_mem _ hw), B.returns, B.notSynchronized, hK, ⟨Nat.le_refl _, Nat.le_refl _, rfl, rfl⟩, hN⟩ ⟨rfl, rfl, rfl, rfl, rfl, rfl, rfl⟩ (name_of_methodNamed B.named B.method).1 x hx s.heap []
  have hlen' : (lg_sl (as.map (zrv b))).length ≤ maxL := by rw [lg_sl_len]; exact hlen
  have hl := lv_entry (as.map (zrv b)) (n := maxL) hlen'
  rw [lg_entry_eq]
  refine hX _ ⟨hRL, fun q hq => absurd hq List.not_mem_nil, Nat.le_refl _, by rw [hRL.1]; exact Nat.le_add_right _ _, fun _ _ => rfl⟩ ⟨hl.1, hl.2.1, fun i v hi hv => ?_⟩
  subst hL
  unfold zent at hi
  have hi2 : ((as.flatMap fun v => if v.category = 2 then [v, Value.null] else [v]))[i]? = some v := by
    by_cases hlt : i < (as.flatMap fun v => if v.category = 2 then [v, Value.null] else [v]).length
    · rw [List.getElem?_append_left hlt] at hi; exact hi
    · rw [List.getElem?_append_right (by omega)] at hi
      have := List.mem_of_getElem? hi
      exact absurd (List.eq_of_mem_replicate this) hv
  have := zent_args b as 0 i v hi2 hv
  rw [Nat.zero_add] at this
  exact hl.2.2 _ this
section
variable {α : Type} {κ : KX} {nL : Nat} {em : α → Option Value × Mem} {n : Nat} {cs : Nat × Nat} {pc q : Nat} {L st : List Value} {M : Mem} {res : Option α} {cc : ByteArray} {own : String} {ret : Option FieldType} {d : Nat}
def zEnd (κ : KX) (n : Nat) (cs : Nat × Nat) : Prop := match κ with
  | (_, _, _, _, _, _, _, _, _, _, _, _, _, mc, ms, n') => n = n' ∧ cs.1 ≤ mc ∧ cs.2 ≤ ms
def zRk (κ : KX) (cs : Nat × Nat) : Prop := match κ with
  | (_, _, _, _, _, _, _, _, _, _, _, _, _, mc, ms, _) => cs.1 ≤ mc ∧ cs.2 ≤ ms
theorem zRk_of {l : Launch} {dC : Nat → ClassId} {dI : Nat → Nat → Nat} {b : zSg} {mc ms n' : Nat} (h : zFn κ l dC dI b mc ms n') (h1 : cs.1 ≤ mc) (h2 : cs.2 ≤ ms) : zRk κ cs := by
  obtain ⟨p, l, e, R, s, m, args, below, meth, c, dC, dI, b, mc', ms', n'⟩ := κ
  obtain ⟨-, -, -, -, rfl, rfl, rfl⟩ := h
  exact ⟨h1, h2⟩
theorem zEnd_of {l : Launch} {dC : Nat → ClassId} {dI : Nat → Nat → Nat} {b : zSg} {mc ms : Nat} (h : zFn κ l dC dI b mc ms n) (h1 : cs.1 ≤ mc) (h2 : cs.2 ≤ ms) : zEnd κ n cs := by
  obtain ⟨p, l, e, R, s, m, args, below, meth, c, dC, dI, b, mc', ms', n'⟩ := κ
  obtain ⟨-, -, -, -, rfl, rfl, rfl⟩ := h
  exact ⟨rfl, h1, h2⟩
theorem x_iret {ty : FieldType} {v : Int32} (hv : narrow ty (.int v) = .int v) (hE : zEnd κ n cs) (hC : CX κ cc own nL (some ty) d) (hd : decode cc pc = .ok (.ireturn, 1)) : X κ nL emI n cs pc L [.int v] M (some (v, M)) := by
  obtain ⟨p, l, e, R, s, m, args, below, meth, c, dC, dI, b, mc, ms, n'⟩ := κ
  obtain ⟨hx, hb, hml, hown, hts, hr, hlk, hK, hR, hNs⟩ := hC
  intro r hr0 H locs ls h2 hl
  cases hr0
  obtain ⟨hRL, hlo, hmo, hb0, hfr⟩ := h2
  obtain ⟨rfl, h3, h4⟩ := hE
  refine W.widen (k := mc) (n := ms) h3 h4 ?_
  exact W.zret hx hb hr hv (fun t ht hW => ⟨rfl, by rw [ht]; exact hRL.moved hW.alike, by rw [ht]; exact hmo, fun q h => by rw [ht]; exact hfr q h⟩) hlo hd hlk
theorem x_lret {v : Int64} (hE : zEnd κ n cs) (hC : CX κ cc own nL (some .long) d) (hd : decode cc pc = .ok (.lreturn, 1)) : X κ nL emL n cs pc L [.long v] M (some (v, M)) := by
  obtain ⟨p, l, e, R, s, m, args, below, meth, c, dC, dI, b, mc, ms, n'⟩ := κ
  obtain ⟨hx, hb, hml, hown, hts, hr, hlk, hK, hR, hNs⟩ := hC
  intro r hr0 H locs ls h2 hl
  cases hr0
  obtain ⟨hRL, hlo, hmo, hb0, hfr⟩ := h2
  obtain ⟨rfl, h3, h4⟩ := hE
  refine W.widen (k := mc) (n := ms) h3 h4 ?_
  exact W.lret hx hb hr (fun t ht hW => ⟨rfl, by rw [ht]; exact hRL.moved hW.alike, by rw [ht]; exact hmo, fun q h => by rw [ht]; exact hfr q h⟩) hlo hd hlk
theorem x_vret (hE : zEnd κ n cs) (hC : CX κ cc own nL none d) (hd : decode cc pc = .ok (.return_, 1)) : X κ nL emV n cs pc L [] M (some M) := by
  obtain ⟨p, l, e, R, s, m, args, below, meth, c, dC, dI, b, mc, ms, n'⟩ := κ
  obtain ⟨hx, hb, hml, hown, hts, hr, hlk, hK, hR, hNs⟩ := hC
  intro r hr0 H locs ls h2 hl
  cases hr0
  obtain ⟨hRL, hlo, hmo, hb0, hfr⟩ := h2
  obtain ⟨rfl, h3, h4⟩ := hE
  refine W.widen (k := mc) (n := ms) h3 h4 ?_
  exact W.vret hx hb hr (fun t ht hW => ⟨rfl, by rw [ht]; exact hRL.moved hW.alike, by rw [ht]; exact hmo, fun q h => by rw [ht]; exact hfr q h⟩) hlo hd hlk
theorem zAfter {p : Program} {l : Launch} {e : Env} {R : Room} {s : State} {m : MethodId} {args : Array Value} {below : List Frame} {meth : Method} {c : Code} {H : Heap} {locs : List Loc} {cells slots mc' ms' : Nat} {Q : State → Prop} {dC : Nat → ClassId} {dI : Nat → Nat → Nat} {b : zSg} {n2 : Nat} {M2 : Mem} {ov : Option Value} {ls : Array Slot} {st0 rest : List Value} {a : Array Value}
    (hr : va_Run p l e R s m args below meth c H locs cells slots mc' ms' (F0 m pc ls st0) rest (zQ dC dI b n2 ov M2 a) (fun q => b.1 ≤ q)) (hlo : ∀ q ∈ locs, b.1 ≤ q.base) (hmo : s.heap.size ≤ H.size) (hfr : ∀ q, q < b.1 → H[q]? = s.heap[q]?)
    (kk : ∀ (H1 : Heap) (locs1 : List Loc), zRL dC dI b s n2 M2 H1 → (∀ q ∈ locs1, b.1 ≤ q.base) → s.heap.size ≤ H1.size → (∀ q, q < b.1 → H1[q]? = s.heap[q]?) → W p l e R s m args below meth c H1 locs1 (cells + mc') (slots + ms') Q (F0 m (pc + 3) ls ((ov.map (zrv b)).toList ++ rest))) : W p l e R s m args below meth c H locs cells slots Q (F0 m pc ls st0) := by
  intro T hT X
  obtain ⟨v, st₀, t, T', L, h0, X', hL, e1, e2, ⟨hv, hRL, hsz, hfr2⟩, st⟩ := hr T hT X
  cases hv
  rw [h0] at hsz hfr2
  have hal : t.vm.Alike s.vm := by rw [← e2]; exact X'.warmed.alike.symm
  obtain ⟨t2, a1, b1⟩ := kk T'.heap (locs ++ L) (by rw [e1]; exact hRL.moved hal) (fun q hq => (List.mem_append.mp hq).elim (hlo q) (hL q)) (by rw [e1]; exact Nat.le_trans hmo hsz) (fun q h => by rw [e1, hfr2 q h, hfr q h]) T' rfl X'
  exact ⟨t2, st t2 a1, b1⟩
/-- what a call's link says: the entry i of own is the method y, its code and its parameters -/
def zCB (own : String) (i : Nat) (y : MethodName) (bytes : ByteArray) (maxL : Nat) (ret : Option FieldType) (na : Nat) : Prop :=
  Cond.methodLink own i y ∈ zTb ∧ Cond.initialized y.cls ∈ zTb ∧ Cond.code y bytes maxL ret ∈ zTb ∧ (y.cls ≠ "java/lang/invoke/MethodHandle" ∧ y.cls ≠ "java/lang/invoke/VarHandle" ∧ (parseMethodDescriptor y.desc).map (fun d => d.parameters.length) = some na)
def zCN (own : String) (i : Nat) (y : MethodName) (bytes : ByteArray) (maxL : Nat) (ret : Option FieldType) (na : Nat) : Prop :=
  (∃ host, Cond.methodLinkNest own i y host ∈ zNs) ∧ Cond.initialized y.cls ∈ zTb ∧ Cond.code y bytes maxL ret ∈ zTb ∧ (y.cls ≠ "java/lang/invoke/MethodHandle" ∧ y.cls ≠ "java/lang/invoke/VarHandle" ∧ (parseMethodDescriptor y.desc).map (fun d => d.parameters.length) = some na)
theorem zGoodC {y : MethodName} {bytes : ByteArray} {maxL : Nat} {ret : Option FieldType} (h : Cond.code y bytes maxL ret ∈ zTb) : GoodIn zTb (Cond.code y bytes maxL ret :: zTb) := by
  intro w hw
  have hw' : w ∈ zTb := (List.mem_cons.mp hw).elim (fun e => e ▸ h) id
  exact ⟨hw', good_of_word (List.mem_filter.mp hw').2⟩
theorem zCat {b : zSg} {st : List Value} (h : (st.map fun v => v.category).sum ≤ 8) : ((st.map (zrv b)).map fun v => v.category).sum ≤ 8 := by
  rw [List.map_map, show ((fun v : Value => v.category) ∘ zrv b) = fun v => v.category from funext fun v => zrv_cat b v]; exact h
theorem zRoom {R : Room} {d' d mc ms mc' ms' maxL : Nat} (hR : zRmOk R d mc ms) (h : d' + 1 ≤ d ∧ maxL ≤ 45) : (zRm d' mc' ms').frames + 1 ≤ R.frames ∧ 8 + (maxL + 11) + (zRm d' mc' ms').locals ≤ R.locals := by
  obtain ⟨h1, h2, -, -⟩ := hR
  refine ⟨Nat.le_trans h.1 h1, Nat.le_trans ?_ h2⟩
  show 8 + (maxL + 11) + 64 * d' ≤ 64 * d
  omega
/-- a static call -/
theorem x_callS {β : Type} {emc : β → Option Value × Mem} {y : MethodName} {bytes : ByteArray} {maxL : Nat} {ret' : Option FieldType} {d' n2 mc' ms' i na : Nat} {as st0 : List Value} {cr : Option β} {K : β → Option α} (hw : zCB own i y bytes maxL ret' na ∧ Cond.static y ∈ zTb) (hna : as.length = na) (hdd : d' + 1 ≤ d ∧ maxL ≤ 45) (hroom : zRk κ (cs.1 + mc', cs.2 + ms'))
    (hM : ∀ x, cr = some x → ∀ l dC dI b, MT l dC dI b y bytes maxL ret' d' mc' ms' n n2 as M (emc x).1 (emc x).2) (hC : CX κ cc own nL ret d) (hd : decode cc pc = .ok (.invokestatic i, 3)) (hq : pc + 3 = q) (hst : as.reverse ++ st = st0) (h8 : (st.map fun v => v.category).sum ≤ 8)
    (kk : ∀ x, cr = some x → X κ nL em n2 (cs.1 + mc', cs.2 + ms') q L ((emc x).1.toList ++ st) (emc x).2 (K x)) : X κ nL em n cs pc L st0 M (Option.bind cr K) := by
  subst hq; subst hst
  refine x_ldcase fun x hx0 => ?_
  have kk := kk x hx0
  have hM := hM x hx0
  obtain ⟨p, l, e, R, s, m, args, below, meth, c, dC, dI, b, mc, ms, n'⟩ := κ
  obtain ⟨hx, hb, hml, hown, hts, hr, hlk, hK, hR, hNs⟩ := hC
  intro r hr0 H locs ls h2 hl
  obtain ⟨hRL, hlo, hmo, hb0, hfr⟩ := h2
  obtain ⟨⟨w1, w2, w3, w4⟩, w5⟩ := hw
  have hrun := va_runS (e := e) (below := below) (meth := meth) (H := H) (locs := locs) (cells := cs.1) (slots := cs.2) (As := as.map (zrv b)) (rest := st.map (zrv b)) (g := F0 m pc ls ((as.reverse ++ st).map (zrv b))) ⟨hx, hb, hml, hown, hts⟩ (hM l dC dI b) ⟨callB_of na hts (zGoodC w3) rfl rfl rfl (hts _ w2) (hts _ w1) w4 (zRoom hR hdd), hts _ w5⟩ ⟨zPc_blind, zPc_at hRL hK hNs⟩ rfl (by rw [List.length_map]; exact hna) hl.1 (by rw [List.map_append, List.map_reverse]) (lv_room (zCat h8)) hd (by rw [hR.2.2.1, hR.2.2.2]; exact hroom)
  refine zAfter hrun hlo hmo hfr (fun H1 locs1 e1 e2 e3 e4 => ?_)
  have := kk r hr0 H1 locs1 ls ⟨e1, e2, e3, hb0, e4⟩ hl
  have e5 : (List.map (zrv b) ((emc x).1.toList ++ st)) = ((emc x).1.map (zrv b)).toList ++ st.map (zrv b) := by
    cases (emc x).1 <;> rfl
  show W _ _ _ _ _ _ _ _ _ _ _ _ _ _ _ (F0 m (pc + 3) ls _)
  rw [← e5]
  exact this
theorem x_callSN {β : Type} {emc : β → Option Value × Mem} {y : MethodName} {bytes : ByteArray} {maxL : Nat} {ret' : Option FieldType} {d' n2 mc' ms' i na : Nat} {as st0 : List Value} {cr : Option β} {K : β → Option α} (hw : zCN own i y bytes maxL ret' na ∧ Cond.static y ∈ zTb) (hna : as.length = na) (hdd : d' + 1 ≤ d ∧ maxL ≤ 45) (hroom : zRk κ (cs.1 + mc', cs.2 + ms'))
    (hM : ∀ x, cr = some x → ∀ l dC dI b, MT l dC dI b y bytes maxL ret' d' mc' ms' n n2 as M (emc x).1 (emc x).2) (hC : CX κ cc own nL ret d) (hd : decode cc pc = .ok (.invokestatic i, 3)) (hq : pc + 3 = q) (hst : as.reverse ++ st = st0) (h8 : (st.map fun v => v.category).sum ≤ 8)
    (kk : ∀ x, cr = some x → X κ nL em n2 (cs.1 + mc', cs.2 + ms') q L ((emc x).1.toList ++ st) (emc x).2 (K x)) : X κ nL em n cs pc L st0 M (Option.bind cr K) := by
  subst hq; subst hst
  refine x_ldcase fun x hx0 => ?_
  have kk := kk x hx0
  have hM := hM x hx0
  obtain ⟨p, l, e, R, s, m, args, below, meth, c, dC, dI, b, mc, ms, n'⟩ := κ
  obtain ⟨hx, hb, hml, hown, hts, hr, hlk, hK, hR, hNs⟩ := hC
  intro r hr0 H locs ls h2 hl
  obtain ⟨hRL, hlo, hmo, hb0, hfr⟩ := h2
  obtain ⟨⟨⟨host, w1⟩, w2, w3, w4⟩, w5⟩ := hw
  have hrun := va_runSN (e := e) (below := below) (meth := meth) (H := H) (locs := locs) (cells := cs.1) (slots := cs.2) (As := as.map (zrv b)) (rest := st.map (zrv b)) (g := F0 m pc ls ((as.reverse ++ st).map (zrv b))) ⟨hx, hb, hml, hown, hts⟩ (hM l dC dI b) ⟨va_cnB na hts (zGoodC w3) rfl rfl rfl (hNs _ w1) (hts _ w2) w4 (zRoom hR hdd), hts _ w5, trivial⟩ ⟨zPc_blind, zPc_at hRL hK hNs⟩ rfl (by rw [List.length_map]; exact hna) hl.1 (by rw [List.map_append, List.map_reverse]) (lv_room (zCat h8)) hd (by rw [hR.2.2.1, hR.2.2.2]; exact hroom)
  refine zAfter hrun hlo hmo hfr (fun H1 locs1 e1 e2 e3 e4 => ?_)
  have := kk r hr0 H1 locs1 ls ⟨e1, e2, e3, hb0, e4⟩ hl
  have e5 : (List.map (zrv b) ((emc x).1.toList ++ st)) = ((emc x).1.map (zrv b)).toList ++ st.map (zrv b) := by
    cases (emc x).1 <;> rfl
  show W _ _ _ _ _ _ _ _ _ _ _ _ _ _ _ (F0 m (pc + 3) ls _)
  rw [← e5]
  exact this
/-- a call of an instance's method -/
theorem x_callV {β : Type} {emc : β → Option Value × Mem} {y : MethodName} {bytes : ByteArray} {maxL : Nat} {ret' : Option FieldType} {d' n2 mc' ms' i na a ci : Nat} {as st0 : List Value} {cr : Option β} {K : β → Option α} (hw : zCB own i y bytes maxL ret' na ∧ Cond.instanceMethod y ∈ zTb ∧ Cond.selects y.cls y y ∈ zTb ∧ y.cls = zNm ci ∧ ci < 13) (hna : as.length = na) (hdd : d' + 1 ≤ d ∧ maxL ≤ 45) (hroom : zRk κ (cs.1 + mc', cs.2 + ms'))
    (hO : zO n a ci) (hM : ∀ x, cr = some x → ∀ l dC dI b, MT l dC dI b y bytes maxL ret' d' mc' ms' n n2 (.ref a :: as) M (emc x).1 (emc x).2) (hC : CX κ cc own nL ret d) (hd : decode cc pc = .ok (.invokevirtual i, 3)) (hq : pc + 3 = q) (hst : as.reverse ++ .ref a :: st = st0) (h8 : (st.map fun v => v.category).sum ≤ 8)
    (kk : ∀ x, cr = some x → X κ nL em n2 (cs.1 + mc', cs.2 + ms') q L ((emc x).1.toList ++ st) (emc x).2 (K x)) : X κ nL em n cs pc L st0 M (Option.bind cr K) := by
  subst hq; subst hst
  refine x_ldcase fun x hx0 => ?_
  have kk := kk x hx0
  have hM := hM x hx0
  obtain ⟨p, l, e, R, s, m, args, below, meth, c, dC, dI, b, mc, ms, n'⟩ := κ
  obtain ⟨hx, hb, hml, hown, hts, hr, hlk, hK, hR, hNs⟩ := hC
  intro r hr0 H locs ls h2 hl
  obtain ⟨hRL, hlo, hmo, hb0, hfr⟩ := h2
  obtain ⟨⟨w1, w2, w3, w4⟩, w5, w6, w7, w8⟩ := hw
  have hrc : ∃ cellB : Cell, H[zad b a]? = some cellB ∧ cellB.vm.isStatics = false ∧ s.vm.findClass y.cls = some cellB.cls := by
    obtain ⟨cell, q1, q2, q3, q4⟩ := zObj (hRL.2.2.1 a hO.1) w8 hO.2
    refine ⟨cell, by rw [zad_lt hO.1 hRL.2.1]; exact q1, by rw [q3]; rfl, ?_⟩
    rw [q2, w7]
    exact (hK.1 ci _ (zCl_at ci w8)).2.1
  have hrun := va_runV (e := e) (below := below) (meth := meth) (C := y.cls) (b := zad b a) (H := H) (locs := locs) (cells := cs.1) (slots := cs.2) (As := as.map (zrv b)) (rest := st.map (zrv b)) (g := F0 m pc ls ((as.reverse ++ .ref a :: st).map (zrv b))) ⟨hx, hb, hml, hown, hts⟩ (hM l dC dI b) ⟨callB_of na hts (zGoodC w3) rfl rfl rfl (hts _ w2) (hts _ w1) w4 (zRoom hR hdd), hts _ w5, hts _ w6⟩ ⟨zPc_blind, hrc, zPc_at (as := .ref a :: as) hRL hK hNs⟩ rfl (by rw [List.length_map]; exact hna) hl.1 (by rw [List.map_append, List.map_reverse]; rfl) (lv_room (zCat h8)) hd (by rw [hR.2.2.1, hR.2.2.2]; exact hroom)
  refine zAfter hrun hlo hmo hfr (fun H1 locs1 e1 e2 e3 e4 => ?_)
  have := kk r hr0 H1 locs1 ls ⟨e1, e2, e3, hb0, e4⟩ hl
  have e5 : (List.map (zrv b) ((emc x).1.toList ++ st)) = ((emc x).1.map (zrv b)).toList ++ st.map (zrv b) := by
    cases (emc x).1 <;> rfl
  show W _ _ _ _ _ _ _ _ _ _ _ _ _ _ _ (F0 m (pc + 3) ls _)
  rw [← e5]
  exact this
end
section
variable {α : Type} {κ : KX} {nL : Nat} {em : α → Option Value × Mem} {n : Nat} {cs : Nat × Nat} {pc q : Nat} {L st : List Value} {M : Mem} {res : Option α} {cc : ByteArray} {own : String} {ret : Option FieldType} {d : Nat}
/-! calls that make nothing, by what they return -/
theorem x_callSi {y : MethodName} {bytes : ByteArray} {maxL : Nat} {ret' : Option FieldType} {d' i na : Nat} {as st0 : List Value} {cr : Option (Int32 × Mem)} {K : Int32 × Mem → Option α} (hw : zCB own i y bytes maxL ret' na ∧ Cond.static y ∈ zTb) (hna : as.length = na) (hdd : d' + 1 ≤ d ∧ maxL ≤ 45) (hroom : zRk κ cs) (hM : ∀ x, cr = some x → ∀ l dC dI b, MT l dC dI b y bytes maxL ret' d' 0 0 n n as M (emI x).1 (emI x).2) (hC : CX κ cc own nL ret d) (hd : decode cc pc = .ok (.invokestatic i, 3)) (hq : pc + 3 = q) (hst : as.reverse ++ st = st0) (h8 : (st.map fun v => v.category).sum ≤ 8) (kk : ∀ x, X κ nL em n cs q L (.int x.1 :: st) x.2 (K x)) : X κ nL em n cs pc L st0 M (Option.bind cr K) :=
  x_callS (mc' := 0) (ms' := 0) (emc := emI) hw hna hdd hroom hM hC hd hq hst h8 (fun x _ => kk x)
theorem x_callSl {y : MethodName} {bytes : ByteArray} {maxL : Nat} {ret' : Option FieldType} {d' i na : Nat} {as st0 : List Value} {cr : Option (Int64 × Mem)} {K : Int64 × Mem → Option α} (hw : zCB own i y bytes maxL ret' na ∧ Cond.static y ∈ zTb) (hna : as.length = na) (hdd : d' + 1 ≤ d ∧ maxL ≤ 45) (hroom : zRk κ cs) (hM : ∀ x, cr = some x → ∀ l dC dI b, MT l dC dI b y bytes maxL ret' d' 0 0 n n as M (emL x).1 (emL x).2) (hC : CX κ cc own nL ret d) (hd : decode cc pc = .ok (.invokestatic i, 3)) (hq : pc + 3 = q) (hst : as.reverse ++ st = st0) (h8 : (st.map fun v => v.category).sum ≤ 8) (kk : ∀ x, X κ nL em n cs q L (.long x.1 :: st) x.2 (K x)) : X κ nL em n cs pc L st0 M (Option.bind cr K) :=
  x_callS (mc' := 0) (ms' := 0) (emc := emL) hw hna hdd hroom hM hC hd hq hst h8 (fun x _ => kk x)
theorem x_callSv {y : MethodName} {bytes : ByteArray} {maxL : Nat} {ret' : Option FieldType} {d' i na : Nat} {as st0 : List Value} {cr : Option (Mem)} {K : Mem → Option α} (hw : zCB own i y bytes maxL ret' na ∧ Cond.static y ∈ zTb) (hna : as.length = na) (hdd : d' + 1 ≤ d ∧ maxL ≤ 45) (hroom : zRk κ cs) (hM : ∀ x, cr = some x → ∀ l dC dI b, MT l dC dI b y bytes maxL ret' d' 0 0 n n as M (emV x).1 (emV x).2) (hC : CX κ cc own nL ret d) (hd : decode cc pc = .ok (.invokestatic i, 3)) (hq : pc + 3 = q) (hst : as.reverse ++ st = st0) (h8 : (st.map fun v => v.category).sum ≤ 8) (kk : ∀ x, X κ nL em n cs q L (st) x (K x)) : X κ nL em n cs pc L st0 M (Option.bind cr K) :=
  x_callS (mc' := 0) (ms' := 0) (emc := emV) hw hna hdd hroom hM hC hd hq hst h8 (fun x _ => kk x)
theorem x_callSNi {y : MethodName} {bytes : ByteArray} {maxL : Nat} {ret' : Option FieldType} {d' i na : Nat} {as st0 : List Value} {cr : Option (Int32 × Mem)} {K : Int32 × Mem → Option α} (hw : zCN own i y bytes maxL ret' na ∧ Cond.static y ∈ zTb) (hna : as.length = na) (hdd : d' + 1 ≤ d ∧ maxL ≤ 45) (hroom : zRk κ cs) (hM : ∀ x, cr = some x → ∀ l dC dI b, MT l dC dI b y bytes maxL ret' d' 0 0 n n as M (emI x).1 (emI x).2) (hC : CX κ cc own nL ret d) (hd : decode cc pc = .ok (.invokestatic i, 3)) (hq : pc + 3 = q) (hst : as.reverse ++ st = st0) (h8 : (st.map fun v => v.category).sum ≤ 8) (kk : ∀ x, X κ nL em n cs q L (.int x.1 :: st) x.2 (K x)) : X κ nL em n cs pc L st0 M (Option.bind cr K) :=
  x_callSN (mc' := 0) (ms' := 0) (emc := emI) hw hna hdd hroom hM hC hd hq hst h8 (fun x _ => kk x)
theorem x_callSNl {y : MethodName} {bytes : ByteArray} {maxL : Nat} {ret' : Option FieldType} {d' i na : Nat} {as st0 : List Value} {cr : Option (Int64 × Mem)} {K : Int64 × Mem → Option α} (hw : zCN own i y bytes maxL ret' na ∧ Cond.static y ∈ zTb) (hna : as.length = na) (hdd : d' + 1 ≤ d ∧ maxL ≤ 45) (hroom : zRk κ cs) (hM : ∀ x, cr = some x → ∀ l dC dI b, MT l dC dI b y bytes maxL ret' d' 0 0 n n as M (emL x).1 (emL x).2) (hC : CX κ cc own nL ret d) (hd : decode cc pc = .ok (.invokestatic i, 3)) (hq : pc + 3 = q) (hst : as.reverse ++ st = st0) (h8 : (st.map fun v => v.category).sum ≤ 8) (kk : ∀ x, X κ nL em n cs q L (.long x.1 :: st) x.2 (K x)) : X κ nL em n cs pc L st0 M (Option.bind cr K) :=
  x_callSN (mc' := 0) (ms' := 0) (emc := emL) hw hna hdd hroom hM hC hd hq hst h8 (fun x _ => kk x)
theorem x_callSNv {y : MethodName} {bytes : ByteArray} {maxL : Nat} {ret' : Option FieldType} {d' i na : Nat} {as st0 : List Value} {cr : Option (Mem)} {K : Mem → Option α} (hw : zCN own i y bytes maxL ret' na ∧ Cond.static y ∈ zTb) (hna : as.length = na) (hdd : d' + 1 ≤ d ∧ maxL ≤ 45) (hroom : zRk κ cs) (hM : ∀ x, cr = some x → ∀ l dC dI b, MT l dC dI b y bytes maxL ret' d' 0 0 n n as M (emV x).1 (emV x).2) (hC : CX κ cc own nL ret d) (hd : decode cc pc = .ok (.invokestatic i, 3)) (hq : pc + 3 = q) (hst : as.reverse ++ st = st0) (h8 : (st.map fun v => v.category).sum ≤ 8) (kk : ∀ x, X κ nL em n cs q L (st) x (K x)) : X κ nL em n cs pc L st0 M (Option.bind cr K) :=
  x_callSN (mc' := 0) (ms' := 0) (emc := emV) hw hna hdd hroom hM hC hd hq hst h8 (fun x _ => kk x)
theorem x_callVi {y : MethodName} {bytes : ByteArray} {maxL : Nat} {ret' : Option FieldType} {d' i na a ci : Nat} {as st0 : List Value} {cr : Option (Int32 × Mem)} {K : Int32 × Mem → Option α} (hw : zCB own i y bytes maxL ret' na ∧ Cond.instanceMethod y ∈ zTb ∧ Cond.selects y.cls y y ∈ zTb ∧ y.cls = zNm ci ∧ ci < 13) (hna : as.length = na) (hdd : d' + 1 ≤ d ∧ maxL ≤ 45) (hroom : zRk κ cs) (hO : zO n a ci) (hM : ∀ x, cr = some x → ∀ l dC dI b, MT l dC dI b y bytes maxL ret' d' 0 0 n n (.ref a :: as) M (emI x).1 (emI x).2) (hC : CX κ cc own nL ret d) (hd : decode cc pc = .ok (.invokevirtual i, 3)) (hq : pc + 3 = q) (hst : as.reverse ++ .ref a :: st = st0) (h8 : (st.map fun v => v.category).sum ≤ 8) (kk : ∀ x, X κ nL em n cs q L (.int x.1 :: st) x.2 (K x)) : X κ nL em n cs pc L st0 M (Option.bind cr K) :=
  x_callV (mc' := 0) (ms' := 0) (emc := emI) hw hna hdd hroom hO hM hC hd hq hst h8 (fun x _ => kk x)
theorem x_callVl {y : MethodName} {bytes : ByteArray} {maxL : Nat} {ret' : Option FieldType} {d' i na a ci : Nat} {as st0 : List Value} {cr : Option (Int64 × Mem)} {K : Int64 × Mem → Option α} (hw : zCB own i y bytes maxL ret' na ∧ Cond.instanceMethod y ∈ zTb ∧ Cond.selects y.cls y y ∈ zTb ∧ y.cls = zNm ci ∧ ci < 13) (hna : as.length = na) (hdd : d' + 1 ≤ d ∧ maxL ≤ 45) (hroom : zRk κ cs) (hO : zO n a ci) (hM : ∀ x, cr = some x → ∀ l dC dI b, MT l dC dI b y bytes maxL ret' d' 0 0 n n (.ref a :: as) M (emL x).1 (emL x).2) (hC : CX κ cc own nL ret d) (hd : decode cc pc = .ok (.invokevirtual i, 3)) (hq : pc + 3 = q) (hst : as.reverse ++ .ref a :: st = st0) (h8 : (st.map fun v => v.category).sum ≤ 8) (kk : ∀ x, X κ nL em n cs q L (.long x.1 :: st) x.2 (K x)) : X κ nL em n cs pc L st0 M (Option.bind cr K) :=
  x_callV (mc' := 0) (ms' := 0) (emc := emL) hw hna hdd hroom hO hM hC hd hq hst h8 (fun x _ => kk x)
theorem x_callVv {y : MethodName} {bytes : ByteArray} {maxL : Nat} {ret' : Option FieldType} {d' i na a ci : Nat} {as st0 : List Value} {cr : Option (Mem)} {K : Mem → Option α} (hw : zCB own i y bytes maxL ret' na ∧ Cond.instanceMethod y ∈ zTb ∧ Cond.selects y.cls y y ∈ zTb ∧ y.cls = zNm ci ∧ ci < 13) (hna : as.length = na) (hdd : d' + 1 ≤ d ∧ maxL ≤ 45) (hroom : zRk κ cs) (hO : zO n a ci) (hM : ∀ x, cr = some x → ∀ l dC dI b, MT l dC dI b y bytes maxL ret' d' 0 0 n n (.ref a :: as) M (emV x).1 (emV x).2) (hC : CX κ cc own nL ret d) (hd : decode cc pc = .ok (.invokevirtual i, 3)) (hq : pc + 3 = q) (hst : as.reverse ++ .ref a :: st = st0) (h8 : (st.map fun v => v.category).sum ≤ 8) (kk : ∀ x, X κ nL em n cs q L (st) x (K x)) : X κ nL em n cs pc L st0 M (Option.bind cr K) :=
  x_callV (mc' := 0) (ms' := 0) (emc := emV) hw hna hdd hroom hO hM hC hd hq hst h8 (fun x _ => kk x)
theorem x_nmM {e : Mem} {K : Mem → Option α} (h : ∀ M1, X κ nL em n cs pc L st M1 (K M1)) : X κ nL em n cs pc L st e (Option.bind (some e) K) := h e
theorem x_nmI {e : Int32} {K : Int32 → Option α} (F : Int32 → List Value) (hL : F e = L) (h : ∀ v, X κ nL em n cs pc (F v) st M (K v)) : X κ nL em n cs pc L st M (Option.bind (some e) K) := by subst hL; exact h e
theorem x_nmJ {e : Int64} {K : Int64 → Option α} (F : Int64 → List Value) (hL : F e = L) (h : ∀ v, X κ nL em n cs pc (F v) st M (K v)) : X κ nL em n cs pc L st M (Option.bind (some e) K) := by subst hL; exact h e
def zbz {α : Type} (v : Int32) (K : Option α) : Option α := if v = 0 ∨ v = 1 then K else none
theorem x_bz {v : Int32} (h : (narrow .boolean (.int v) = .int v ∧ fits .boolean (.int v) = true) → X κ nL em n cs pc L st M res) : X κ nL em n cs pc L st M (zbz v res) := by
  unfold zbz
  by_cases hv : v = 0 ∨ v = 1
  · rw [if_pos hv]; exact h (by rcases hv with rfl | rfl <;> exact ⟨rfl, rfl⟩)
  · rw [if_neg hv]; exact fun r hr => by cases hr
def zle : List Value → List Value → Prop
  | [], _ => True
  | _ :: _, [] => False
  | a :: L', b :: L => (a = .null ∨ a = b) ∧ zle L' L
theorem zle_get : ∀ {L' L : List Value}, zle L' L → ∀ (i : Nat) (v : Value), L'[i]? = some v → v ≠ .null → L[i]? = some v
  | [], _, _, i, v, h, _ => by simp at h
  | _ :: _, [], h0, _, _, _, _ => h0.elim
  | a :: L', b :: L, h0, 0, v, h, hv => by
    simp at h
    subst h
    rcases h0.1 with h1 | h1
    · exact absurd h1 hv
    · rw [h1]; rfl
  | a :: L', b :: L, h0, i + 1, v, h, hv => by
    have := zle_get h0.2 i v (by simpa using h) hv
    simpa using this
theorem x_weak {L' : List Value} (hL : zle L' L) (h : X κ nL em n cs pc L' st M res) : X κ nL em n cs pc L st M res :=
  fun r hr H locs ls h2 hl => h r hr H locs ls h2 ⟨hl.1, hl.2.1, fun i v hi hv => hl.2.2 i v (zle_get hL i v hi hv) hv⟩
end
end
section
/-! System.arraycopy between arrays of ints -/
def zcopy (M : Mem) (a : Nat) (sp : Int32) (a2 : Nat) (dp ln : Int32) : Option Mem :=
  if sp < 0 ∨ dp < 0 ∨ ln < 0 ∨ (zSH a).2 < sp.toNatClampNeg + ln.toNatClampNeg ∨ (zSH a2).2 < dp.toNatClampNeg + ln.toNatClampNeg then none
  else some (zwI M a2 (va_cpy (zI M a) (zI M a2) sp.toNatClampNeg dp.toNatClampNeg ln.toNatClampNeg))
section
variable {α : Type} {κ : KX} {nL : Nat} {em : α → Option Value × Mem} {n : Nat} {cs : Nat × Nat} {pc q : Nat} {L st : List Value} {M : Mem} {res : Option α} {cc : ByteArray} {own : String} {ret : Option FieldType} {d : Nat}
theorem x_acopy {i a a2 : Nat} {sp dp ln : Int32} {K : Mem → Option α} (hw : Cond.methodLink own i arraycopyName ∈ zTb ∧ Cond.native arraycopyName ∈ zTb ∧ Cond.static arraycopyName ∈ zTb ∧ Cond.initialized "java/lang/System" ∈ zTb) (hO : zO n a 20) (hO2 : zO n a2 20) (hC : CX κ cc own nL ret (d + 1)) (hd : decode cc pc = .ok (.invokestatic i, 3)) (hq : pc + 3 = q) (h8 : (st.map fun v => v.category).sum ≤ 8) (kk : ∀ M1, X κ nL em n cs q L st M1 (K M1)) : X κ nL em n cs pc L (.int ln :: .int dp :: .ref a2 :: .int sp :: .ref a :: st) M (Option.bind (zcopy M a sp a2 dp ln) K) := by
  subst hq
  refine x_ldcase fun M1 hM1 => ?_
  unfold zcopy at hM1
  by_cases hcond : sp < 0 ∨ dp < 0 ∨ ln < 0 ∨ (zSH a).2 < sp.toNatClampNeg + ln.toNatClampNeg ∨ (zSH a2).2 < dp.toNatClampNeg + ln.toNatClampNeg
  · rw [if_pos hcond] at hM1; cases hM1
  rw [if_neg hcond] at hM1
  have h1 : ¬ sp < 0 := fun h => hcond (Or.inl h)
  have h2' : ¬ dp < 0 := fun h => hcond (Or.inr (Or.inl h))
  have h3 : ¬ ln < 0 := fun h => hcond (Or.inr (Or.inr (Or.inl h)))
  have h4 : sp.toNatClampNeg + ln.toNatClampNeg ≤ (zSH a).2 := Nat.not_lt.mp fun h => hcond (Or.inr (Or.inr (Or.inr (Or.inl h))))
  have h5 : dp.toNatClampNeg + ln.toNatClampNeg ≤ (zSH a2).2 := Nat.not_lt.mp fun h => hcond (Or.inr (Or.inr (Or.inr (Or.inr h))))
  have kk := kk M1
  cases hM1
  obtain ⟨p, l, e, R, s, m, args, below, meth, c, dC, dI, b, mc, ms, n'⟩ := κ
  obtain ⟨hx, hb, hml, hown, hts, hr, hlk, hK, hR, hNs⟩ := hC
  intro r hr0 H locs ls h2 hl
  obtain ⟨hRL, hlo, hmo, hb0, hfr⟩ := h2
  obtain ⟨w1, w2, w3, w4⟩ := hw
  obtain ⟨cA, g1, -, g3⟩ := zArr (hRL.2.2.1 a hO.1) (by decide) hO.2 rfl
  obtain ⟨cB, k1, k2, k3⟩ := zArr (hRL.2.2.1 a2 hO2.1) (by decide) hO2.2 rfl
  have nn : ∀ z : Int32, ¬ z < 0 → z.toInt = (z.toNatClampNeg : Int) := by
    intro z hz
    have hz0 : (0 : Int) ≤ z.toInt := by
      have := Int32.not_lt.mp hz
      simpa using Int32.le_iff_toInt_le.mp this
    show z.toInt = ((z.toInt.toNat : Nat) : Int)
    omega
  show W p l e R s m args below meth c H locs cs.1 cs.2 _ (F0 m pc ls (.int ln :: .int dp :: .ref (zad b a2) :: .int sp :: .ref (zad b a) :: st.map (zrv b)))
  rw [zad_lt hO.1 hRL.2.1, zad_lt hO2.1 hRL.2.1]
  have g3 : H[b.1 + a]? = some (arrV cA (zSH a).2 (fun j => .int (zI M a j))) := g3
  have k3 : H[b.1 + a2]? = some (arrV cB (zSH a2).2 (fun j => .int (zI M a2 j))) := k3
  intro T hT Z
  obtain ⟨-, kc0, hk0, cm0, hkk0⟩ := g1 (zSH a).2 (fun j => .int (zI M a j))
  obtain ⟨-, kc1, hk1, cm1, hkk1⟩ := k1 (zSH a2).2 (fun j => .int (zI M a2 j))
  obtain ⟨vm', Z', step⟩ := Z.arraycopy hx hown (hts _ w1) (hts _ w2) (hts _ w3) (hts _ w4) (src := b.1 + a) (dst := b.1 + a2) (cs := arrV cA (zSH a).2 (fun j => .int (zI M a j))) (cd := arrV cB (zSH a2).2 (fun j => .int (zI M a2 j))) (srcPos := sp) (destPos := dp) (n := ln) (by rw [hT]; exact g3) (by rw [hT]; exact k3)
    (fun _ h => by cases h) (fun _ h => by cases h) (fun h => by cases h) (fun h => by cases h) hk0 hk1 hkk0 hkk1 (by decide) h1 h2' h3
    (by rw [nn sp h1, nn ln h3, arrV_size]; omega)
    (by rw [nn dp h2', nn ln h3, arrV_size]; omega)
    (fun vm₁ _ i hi => by
      have e : (arrV cA (zSH a).2 (fun j => Value.int (zI M a j))).slots.getD (sp.toNatClampNeg + i) .null = .int (zI M a (sp.toNatClampNeg + i)) := by
        rw [Array.getD_eq_getD_getElem?, arrV_read _ _ (by omega)]
        rfl
      refine ⟨?_, ?_⟩
      · rw [e]; rfl
      · rw [e]; exact trivial)
    (g := F0 m pc ls (.int ln :: .int dp :: .ref (b.1 + a2) :: .int sp :: .ref (b.1 + a) :: st.map (zrv b))) rfl (by rw [hml]; exact hl.1) (rest := st.map (zrv b)) rfl (by rw [hb]; exact hd) (Nat.le_trans (Nat.le_add_left _ _) hR.1) (by
      refine Nat.le_trans ?_ hR.2.1
      have := zCat (b := b) h8
      show 2 * 0 + _ + (nativeFrameWords "java/lang/System" "arraycopy" 5 + 11) ≤ 64 * (d + 1)
      have e : nativeFrameWords "java/lang/System" "arraycopy" 5 ≤ 40 := by decide +kernel
      omega)
  have e1 : copied (arrV cA (zSH a).2 (fun j => .int (zI M a j))) (arrV cB (zSH a2).2 (fun j => .int (zI M a2 j))) sp dp ln = arrV cB (zSH a2).2 (fun j => .int (va_cpy (zI M a) (zI M a2) sp.toNatClampNeg dp.toNatClampNeg ln.toNatClampNeg j)) := va_copied (fun z => .int z) cA cB (zI M a) (zI M a2) h4
  rw [e1] at Z' step
  have hlt : b.1 + a2 < H.size := (Array.getElem?_eq_some_iff.mp k3).1
  have oq : ∀ q : Nat, q ≠ b.1 + a2 → (H.setIfInBounds (b.1 + a2) (arrV cB (zSH a2).2 (fun j => .int (va_cpy (zI M a) (zI M a2) sp.toNatClampNeg dp.toNatClampNeg ln.toNatClampNeg j))))[q]? = H[q]? := fun q hq => by simp [Array.getElem?_setIfInBounds, Ne.symm hq]
  obtain ⟨t, a1, b1⟩ := kk r hr0 (H.setIfInBounds (b.1 + a2) (arrV cB (zSH a2).2 (fun j => .int (va_cpy (zI M a) (zI M a2) sp.toNatClampNeg dp.toNatClampNeg ln.toNatClampNeg j)))) _ ls ⟨hRL.upd (by simp) oq (zOff_wI M a2 _) (zArr' ⟨cB, k1, k2, by
      rw [Array.getElem?_setIfInBounds_self_of_lt hlt]
      congr 2
      funext j
      show _ = Value.int (zup M.1 a2 _ a2 j)
      rw [zup_self]⟩ (by decide) hO2.2 rfl) (hRL.2.2.2.I a2 _), fun q hq => by
        rcases List.mem_append.mp hq with h | h
        · exact hlo q h
        · obtain ⟨z, -, hz⟩ := List.mem_map.mp h
          rw [← hz]; exact Nat.le_add_right _ _, by simp; exact hmo, hb0, fun q h => (oq q (Nat.ne_of_lt (Nat.lt_of_lt_of_le h (Nat.le_add_right _ _)))).trans (hfr q h)⟩ hl _ (by rw [← hT]; rfl) Z'
  exact ⟨t, step t a1, b1⟩
end
end
