section
-- ===== PART A: goes FIRST, ahead of the names: the tables' words, and 'selects' of the private methods out of them =====
/-- a private method of a class that the tables say can be made, by its rows of tables_1 -/
def lw_okq (q : MethodName × Nat) : Prop := (q.1.cls ≠ "java/lang/invoke/MethodHandle" ∧ q.1.cls ≠ "java/lang/invoke/VarHandle") ∧ Cond.instantiable q.1.cls q.2 ∈ tables_1 ∧ Cond.privateMethod q.1 ∈ tables_1 ∧ Cond.instanceMethod q.1 ∈ tables_1
theorem lw_p0 : lw_okq (⟨"HandBook$Works", "tellStates", "()V"⟩, 11) := ⟨⟨by decide +kernel, by decide +kernel⟩, List.mem_of_getElem? (i := 33) (by decide +kernel), List.mem_of_getElem? (i := 63) (by decide +kernel), List.mem_of_getElem? (i := 64) (by decide +kernel)⟩
theorem lw_p1 : lw_okq (⟨"HandBook$Works", "riseOf", "(II)I"⟩, 11) := ⟨⟨by decide +kernel, by decide +kernel⟩, List.mem_of_getElem? (i := 33) (by decide +kernel), List.mem_of_getElem? (i := 67) (by decide +kernel), List.mem_of_getElem? (i := 68) (by decide +kernel)⟩
theorem lw_p2 : lw_okq (⟨"HandBook", "found", "(I)I"⟩, 11) := ⟨⟨by decide +kernel, by decide +kernel⟩, List.mem_of_getElem? (i := 23) (by decide +kernel), List.mem_of_getElem? (i := 462) (by decide +kernel), List.mem_of_getElem? (i := 463) (by decide +kernel)⟩
theorem lw_p3 : lw_okq (⟨"HandBook", "fine", "(I)I"⟩, 11) := ⟨⟨by decide +kernel, by decide +kernel⟩, List.mem_of_getElem? (i := 23) (by decide +kernel), List.mem_of_getElem? (i := 474) (by decide +kernel), List.mem_of_getElem? (i := 475) (by decide +kernel)⟩
theorem lw_p4 : lw_okq (⟨"HandBook$Tape", "endOfToken", "(I)I"⟩, 4) := ⟨⟨by decide +kernel, by decide +kernel⟩, List.mem_of_getElem? (i := 205) (by decide +kernel), List.mem_of_getElem? (i := 522) (by decide +kernel), List.mem_of_getElem? (i := 523) (by decide +kernel)⟩
theorem lw_p5 : lw_okq (⟨"HandBook$Tape", "codeOf", "(II)I"⟩, 4) := ⟨⟨by decide +kernel, by decide +kernel⟩, List.mem_of_getElem? (i := 205) (by decide +kernel), List.mem_of_getElem? (i := 532) (by decide +kernel), List.mem_of_getElem? (i := 533) (by decide +kernel)⟩
theorem lw_p6 : lw_okq (⟨"HandBook$Tape", "wordOf", "(II)I"⟩, 4) := ⟨⟨by decide +kernel, by decide +kernel⟩, List.mem_of_getElem? (i := 205) (by decide +kernel), List.mem_of_getElem? (i := 536) (by decide +kernel), List.mem_of_getElem? (i := 537) (by decide +kernel)⟩
theorem lw_p7 : lw_okq (⟨"HandBook$Reader", "readLine", "()Z"⟩, 7) := ⟨⟨by decide +kernel, by decide +kernel⟩, List.mem_of_getElem? (i := 228) (by decide +kernel), List.mem_of_getElem? (i := 593) (by decide +kernel), List.mem_of_getElem? (i := 594) (by decide +kernel)⟩
theorem lw_p8 : lw_okq (⟨"HandBook$Reader", "readFlow", "()Z"⟩, 7) := ⟨⟨by decide +kernel, by decide +kernel⟩, List.mem_of_getElem? (i := 228) (by decide +kernel), List.mem_of_getElem? (i := 597) (by decide +kernel), List.mem_of_getElem? (i := 598) (by decide +kernel)⟩
theorem lw_p9 : lw_okq (⟨"HandBook$Reader", "refuse", "(I)Z"⟩, 7) := ⟨⟨by decide +kernel, by decide +kernel⟩, List.mem_of_getElem? (i := 228) (by decide +kernel), List.mem_of_getElem? (i := 601) (by decide +kernel), List.mem_of_getElem? (i := 602) (by decide +kernel)⟩
theorem lw_p10 : lw_okq (⟨"HandBook$Reader", "nextToken", "()V"⟩, 7) := ⟨⟨by decide +kernel, by decide +kernel⟩, List.mem_of_getElem? (i := 228) (by decide +kernel), List.mem_of_getElem? (i := 605) (by decide +kernel), List.mem_of_getElem? (i := 606) (by decide +kernel)⟩
theorem lw_p11 : lw_okq (⟨"HandBook$Reader", "readNumber", "(I)I"⟩, 7) := ⟨⟨by decide +kernel, by decide +kernel⟩, List.mem_of_getElem? (i := 228) (by decide +kernel), List.mem_of_getElem? (i := 609) (by decide +kernel), List.mem_of_getElem? (i := 610) (by decide +kernel)⟩
theorem lw_p12 : lw_okq (⟨"HandBook$Reader", "readLineEnd", "()Z"⟩, 7) := ⟨⟨by decide +kernel, by decide +kernel⟩, List.mem_of_getElem? (i := 228) (by decide +kernel), List.mem_of_getElem? (i := 618) (by decide +kernel), List.mem_of_getElem? (i := 619) (by decide +kernel)⟩
theorem lw_p13 : lw_okq (⟨"HandBook$Reader", "readConds", "(LHandBook$Lines;)Z"⟩, 7) := ⟨⟨by decide +kernel, by decide +kernel⟩, List.mem_of_getElem? (i := 228) (by decide +kernel), List.mem_of_getElem? (i := 622) (by decide +kernel), List.mem_of_getElem? (i := 623) (by decide +kernel)⟩
theorem lw_p14 : lw_okq (⟨"HandBook$Reader", "readCond", "()I"⟩, 7) := ⟨⟨by decide +kernel, by decide +kernel⟩, List.mem_of_getElem? (i := 228) (by decide +kernel), List.mem_of_getElem? (i := 626) (by decide +kernel), List.mem_of_getElem? (i := 627) (by decide +kernel)⟩
theorem lw_p15 : lw_okq (⟨"HandBook$Reader", "condSaid", "()I"⟩, 7) := ⟨⟨by decide +kernel, by decide +kernel⟩, List.mem_of_getElem? (i := 228) (by decide +kernel), List.mem_of_getElem? (i := 630) (by decide +kernel), List.mem_of_getElem? (i := 631) (by decide +kernel)⟩
def lw_privs_1 : List (MethodName × Nat) := [(⟨"HandBook$Works", "tellStates", "()V"⟩, 11), (⟨"HandBook$Works", "riseOf", "(II)I"⟩, 11), (⟨"HandBook", "found", "(I)I"⟩, 11), (⟨"HandBook", "fine", "(I)I"⟩, 11), (⟨"HandBook$Tape", "endOfToken", "(I)I"⟩, 4), (⟨"HandBook$Tape", "codeOf", "(II)I"⟩, 4), (⟨"HandBook$Tape", "wordOf", "(II)I"⟩, 4), (⟨"HandBook$Reader", "readLine", "()Z"⟩, 7), (⟨"HandBook$Reader", "readFlow", "()Z"⟩, 7), (⟨"HandBook$Reader", "refuse", "(I)Z"⟩, 7), (⟨"HandBook$Reader", "nextToken", "()V"⟩, 7), (⟨"HandBook$Reader", "readNumber", "(I)I"⟩, 7), (⟨"HandBook$Reader", "readLineEnd", "()Z"⟩, 7), (⟨"HandBook$Reader", "readConds", "(LHandBook$Lines;)Z"⟩, 7), (⟨"HandBook$Reader", "readCond", "()I"⟩, 7), (⟨"HandBook$Reader", "condSaid", "()I"⟩, 7)]
theorem lw_r1 : ∀ q ∈ lw_privs_1, lw_okq q := List.forall_mem_cons.mpr ⟨lw_p0, List.forall_mem_cons.mpr ⟨lw_p1, List.forall_mem_cons.mpr ⟨lw_p2, List.forall_mem_cons.mpr ⟨lw_p3, List.forall_mem_cons.mpr ⟨lw_p4, List.forall_mem_cons.mpr ⟨lw_p5, List.forall_mem_cons.mpr ⟨lw_p6, List.forall_mem_cons.mpr ⟨lw_p7, List.forall_mem_cons.mpr ⟨lw_p8, List.forall_mem_cons.mpr ⟨lw_p9, List.forall_mem_cons.mpr ⟨lw_p10, List.forall_mem_cons.mpr ⟨lw_p11, List.forall_mem_cons.mpr ⟨lw_p12, List.forall_mem_cons.mpr ⟨lw_p13, List.forall_mem_cons.mpr ⟨lw_p14, List.forall_mem_cons.mpr ⟨lw_p15, fun _ h => absurd h List.not_mem_nil⟩⟩⟩⟩⟩⟩⟩⟩⟩⟩⟩⟩⟩⟩⟩⟩
theorem lw_p16 : lw_okq (⟨"HandBook$Reader", "readStep", "()Z"⟩, 7) := ⟨⟨by decide +kernel, by decide +kernel⟩, List.mem_of_getElem? (i := 228) (by decide +kernel), List.mem_of_getElem? (i := 642) (by decide +kernel), List.mem_of_getElem? (i := 643) (by decide +kernel)⟩
theorem lw_p17 : lw_okq (⟨"HandBook$Reader", "actSaid", "()I"⟩, 7) := ⟨⟨by decide +kernel, by decide +kernel⟩, List.mem_of_getElem? (i := 228) (by decide +kernel), List.mem_of_getElem? (i := 646) (by decide +kernel), List.mem_of_getElem? (i := 647) (by decide +kernel)⟩
theorem lw_p18 : lw_okq (⟨"HandBook$Reader", "readTarget", "(I)I"⟩, 7) := ⟨⟨by decide +kernel, by decide +kernel⟩, List.mem_of_getElem? (i := 228) (by decide +kernel), List.mem_of_getElem? (i := 650) (by decide +kernel), List.mem_of_getElem? (i := 651) (by decide +kernel)⟩
theorem lw_p19 : lw_okq (⟨"HandBook$Through", "begin", "(I)V"⟩, 9) := ⟨⟨by decide +kernel, by decide +kernel⟩, List.mem_of_getElem? (i := 350) (by decide +kernel), List.mem_of_getElem? (i := 757) (by decide +kernel), List.mem_of_getElem? (i := 758) (by decide +kernel)⟩
theorem lw_p20 : lw_okq (⟨"HandBook$Through", "put", "([IIII)I"⟩, 9) := ⟨⟨by decide +kernel, by decide +kernel⟩, List.mem_of_getElem? (i := 350) (by decide +kernel), List.mem_of_getElem? (i := 762) (by decide +kernel), List.mem_of_getElem? (i := 763) (by decide +kernel)⟩
theorem lw_p21 : lw_okq (⟨"HandBook$Through", "goOnFromAll", "([III)I"⟩, 9) := ⟨⟨by decide +kernel, by decide +kernel⟩, List.mem_of_getElem? (i := 350) (by decide +kernel), List.mem_of_getElem? (i := 768) (by decide +kernel), List.mem_of_getElem? (i := 769) (by decide +kernel)⟩
theorem lw_p22 : lw_okq (⟨"HandBook$Through", "isOver", "()Z"⟩, 9) := ⟨⟨by decide +kernel, by decide +kernel⟩, List.mem_of_getElem? (i := 350) (by decide +kernel), List.mem_of_getElem? (i := 772) (by decide +kernel), List.mem_of_getElem? (i := 773) (by decide +kernel)⟩
theorem lw_p23 : lw_okq (⟨"HandBook$Through", "endIn", "(I)V"⟩, 9) := ⟨⟨by decide +kernel, by decide +kernel⟩, List.mem_of_getElem? (i := 350) (by decide +kernel), List.mem_of_getElem? (i := 777) (by decide +kernel), List.mem_of_getElem? (i := 778) (by decide +kernel)⟩
theorem lw_p24 : lw_okq (⟨"HandBook$Through", "fateFrom", "(I)I"⟩, 9) := ⟨⟨by decide +kernel, by decide +kernel⟩, List.mem_of_getElem? (i := 350) (by decide +kernel), List.mem_of_getElem? (i := 782) (by decide +kernel), List.mem_of_getElem? (i := 783) (by decide +kernel)⟩
theorem lw_p25 : lw_okq (⟨"HandBook$Through", "fateAt", "(I)I"⟩, 9) := ⟨⟨by decide +kernel, by decide +kernel⟩, List.mem_of_getElem? (i := 350) (by decide +kernel), List.mem_of_getElem? (i := 786) (by decide +kernel), List.mem_of_getElem? (i := 787) (by decide +kernel)⟩
theorem lw_p26 : lw_okq (⟨"HandBook$Through", "setFate", "(II)V"⟩, 9) := ⟨⟨by decide +kernel, by decide +kernel⟩, List.mem_of_getElem? (i := 350) (by decide +kernel), List.mem_of_getElem? (i := 790) (by decide +kernel), List.mem_of_getElem? (i := 791) (by decide +kernel)⟩
theorem lw_p27 : lw_okq (⟨"HandBook$Through", "slipFromAll", "([II[II)I"⟩, 9) := ⟨⟨by decide +kernel, by decide +kernel⟩, List.mem_of_getElem? (i := 350) (by decide +kernel), List.mem_of_getElem? (i := 794) (by decide +kernel), List.mem_of_getElem? (i := 795) (by decide +kernel)⟩
theorem lw_p28 : lw_okq (⟨"HandBook$Cheapest", "offer", "(II)V"⟩, 8) := ⟨⟨by decide +kernel, by decide +kernel⟩, List.mem_of_getElem? (i := 384) (by decide +kernel), List.mem_of_getElem? (i := 809) (by decide +kernel), List.mem_of_getElem? (i := 810) (by decide +kernel)⟩
theorem lw_p29 : lw_okq (⟨"HandBook$Cheapest", "rise", "(II)V"⟩, 8) := ⟨⟨by decide +kernel, by decide +kernel⟩, List.mem_of_getElem? (i := 384) (by decide +kernel), List.mem_of_getElem? (i := 814) (by decide +kernel), List.mem_of_getElem? (i := 815) (by decide +kernel)⟩
theorem lw_p30 : lw_okq (⟨"HandBook$Cheapest", "seat", "(II)V"⟩, 8) := ⟨⟨by decide +kernel, by decide +kernel⟩, List.mem_of_getElem? (i := 384) (by decide +kernel), List.mem_of_getElem? (i := 818) (by decide +kernel), List.mem_of_getElem? (i := 819) (by decide +kernel)⟩
theorem lw_p31 : lw_okq (⟨"HandBook$Cheapest", "takeLeast", "()I"⟩, 8) := ⟨⟨by decide +kernel, by decide +kernel⟩, List.mem_of_getElem? (i := 384) (by decide +kernel), List.mem_of_getElem? (i := 822) (by decide +kernel), List.mem_of_getElem? (i := 823) (by decide +kernel)⟩
def lw_privs_2 : List (MethodName × Nat) := [(⟨"HandBook$Reader", "readStep", "()Z"⟩, 7), (⟨"HandBook$Reader", "actSaid", "()I"⟩, 7), (⟨"HandBook$Reader", "readTarget", "(I)I"⟩, 7), (⟨"HandBook$Through", "begin", "(I)V"⟩, 9), (⟨"HandBook$Through", "put", "([IIII)I"⟩, 9), (⟨"HandBook$Through", "goOnFromAll", "([III)I"⟩, 9), (⟨"HandBook$Through", "isOver", "()Z"⟩, 9), (⟨"HandBook$Through", "endIn", "(I)V"⟩, 9), (⟨"HandBook$Through", "fateFrom", "(I)I"⟩, 9), (⟨"HandBook$Through", "fateAt", "(I)I"⟩, 9), (⟨"HandBook$Through", "setFate", "(II)V"⟩, 9), (⟨"HandBook$Through", "slipFromAll", "([II[II)I"⟩, 9), (⟨"HandBook$Cheapest", "offer", "(II)V"⟩, 8), (⟨"HandBook$Cheapest", "rise", "(II)V"⟩, 8), (⟨"HandBook$Cheapest", "seat", "(II)V"⟩, 8), (⟨"HandBook$Cheapest", "takeLeast", "()I"⟩, 8)]
theorem lw_r2 : ∀ q ∈ lw_privs_2, lw_okq q := List.forall_mem_cons.mpr ⟨lw_p16, List.forall_mem_cons.mpr ⟨lw_p17, List.forall_mem_cons.mpr ⟨lw_p18, List.forall_mem_cons.mpr ⟨lw_p19, List.forall_mem_cons.mpr ⟨lw_p20, List.forall_mem_cons.mpr ⟨lw_p21, List.forall_mem_cons.mpr ⟨lw_p22, List.forall_mem_cons.mpr ⟨lw_p23, List.forall_mem_cons.mpr ⟨lw_p24, List.forall_mem_cons.mpr ⟨lw_p25, List.forall_mem_cons.mpr ⟨lw_p26, List.forall_mem_cons.mpr ⟨lw_p27, List.forall_mem_cons.mpr ⟨lw_p28, List.forall_mem_cons.mpr ⟨lw_p29, List.forall_mem_cons.mpr ⟨lw_p30, List.forall_mem_cons.mpr ⟨lw_p31, fun _ h => absurd h List.not_mem_nil⟩⟩⟩⟩⟩⟩⟩⟩⟩⟩⟩⟩⟩⟩⟩⟩
theorem lw_p32 : lw_okq (⟨"HandBook$Cheapest", "sink", "(I)V"⟩, 8) := ⟨⟨by decide +kernel, by decide +kernel⟩, List.mem_of_getElem? (i := 384) (by decide +kernel), List.mem_of_getElem? (i := 826) (by decide +kernel), List.mem_of_getElem? (i := 827) (by decide +kernel)⟩
theorem lw_p33 : lw_okq (⟨"HandBook$Cheapest", "lesserChild", "(I)I"⟩, 8) := ⟨⟨by decide +kernel, by decide +kernel⟩, List.mem_of_getElem? (i := 384) (by decide +kernel), List.mem_of_getElem? (i := 830) (by decide +kernel), List.mem_of_getElem? (i := 831) (by decide +kernel)⟩
theorem lw_p34 : lw_okq (⟨"HandBook$Cheapest", "offerAll", "(II)V"⟩, 8) := ⟨⟨by decide +kernel, by decide +kernel⟩, List.mem_of_getElem? (i := 384) (by decide +kernel), List.mem_of_getElem? (i := 834) (by decide +kernel), List.mem_of_getElem? (i := 835) (by decide +kernel)⟩
theorem lw_p35 : lw_okq (⟨"HandBook$Walks", "doDeeds", "(II)I"⟩, 9) := ⟨⟨by decide +kernel, by decide +kernel⟩, List.mem_of_getElem? (i := 311) (by decide +kernel), List.mem_of_getElem? (i := 848) (by decide +kernel), List.mem_of_getElem? (i := 849) (by decide +kernel)⟩
theorem lw_p36 : lw_okq (⟨"HandBook$Walks", "behindDeed", "(II)I"⟩, 9) := ⟨⟨by decide +kernel, by decide +kernel⟩, List.mem_of_getElem? (i := 311) (by decide +kernel), List.mem_of_getElem? (i := 852) (by decide +kernel), List.mem_of_getElem? (i := 853) (by decide +kernel)⟩
theorem lw_p37 : lw_okq (⟨"HandBook$Walks", "toNextTick", "(III)I"⟩, 9) := ⟨⟨by decide +kernel, by decide +kernel⟩, List.mem_of_getElem? (i := 311) (by decide +kernel), List.mem_of_getElem? (i := 866) (by decide +kernel), List.mem_of_getElem? (i := 867) (by decide +kernel)⟩
theorem lw_p38 : lw_okq (⟨"HandBook$Through", "isSafe", "(II)Z"⟩, 9) := ⟨⟨by decide +kernel, by decide +kernel⟩, List.mem_of_getElem? (i := 350) (by decide +kernel), List.mem_of_getElem? (i := 882) (by decide +kernel), List.mem_of_getElem? (i := 883) (by decide +kernel)⟩
theorem lw_p39 : lw_okq (⟨"HandBook$Through", "canCome", "(I)Z"⟩, 9) := ⟨⟨by decide +kernel, by decide +kernel⟩, List.mem_of_getElem? (i := 350) (by decide +kernel), List.mem_of_getElem? (i := 887) (by decide +kernel), List.mem_of_getElem? (i := 888) (by decide +kernel)⟩
theorem lw_p40 : lw_okq (⟨"HandBook$Steps", "sizeBody", "(I)I"⟩, 7) := ⟨⟨by decide +kernel, by decide +kernel⟩, List.mem_of_getElem? (i := 143) (by decide +kernel), List.mem_of_getElem? (i := 922) (by decide +kernel), List.mem_of_getElem? (i := 923) (by decide +kernel)⟩
theorem lw_p41 : lw_okq (⟨"HandBook$Steps", "markBody", "(I)I"⟩, 7) := ⟨⟨by decide +kernel, by decide +kernel⟩, List.mem_of_getElem? (i := 143) (by decide +kernel), List.mem_of_getElem? (i := 926) (by decide +kernel), List.mem_of_getElem? (i := 927) (by decide +kernel)⟩
theorem lw_p42 : lw_okq (⟨"HandBook$Steps", "begin", "(III)I"⟩, 7) := ⟨⟨by decide +kernel, by decide +kernel⟩, List.mem_of_getElem? (i := 143) (by decide +kernel), List.mem_of_getElem? (i := 930) (by decide +kernel), List.mem_of_getElem? (i := 931) (by decide +kernel)⟩
theorem lw_p43 : lw_okq (⟨"HandBook$Steps", "leave", "(I)V"⟩, 7) := ⟨⟨by decide +kernel, by decide +kernel⟩, List.mem_of_getElem? (i := 143) (by decide +kernel), List.mem_of_getElem? (i := 934) (by decide +kernel), List.mem_of_getElem? (i := 935) (by decide +kernel)⟩
theorem lw_p44 : lw_okq (⟨"HandBook", "sheetsThere", "()I"⟩, 11) := ⟨⟨by decide +kernel, by decide +kernel⟩, List.mem_of_getElem? (i := 23) (by decide +kernel), List.mem_of_getElem? (i := 950) (by decide +kernel), List.mem_of_getElem? (i := 951) (by decide +kernel)⟩
theorem lw_p45 : lw_okq (⟨"HandBookModel", "finding", "(I)I"⟩, 49) := ⟨⟨by decide +kernel, by decide +kernel⟩, List.mem_of_getElem? (i := 958) (by decide +kernel), List.mem_of_getElem? (i := 1126) (by decide +kernel), List.mem_of_getElem? (i := 1127) (by decide +kernel)⟩
theorem lw_p46 : lw_okq (⟨"HandBookModel", "next", "()V"⟩, 49) := ⟨⟨by decide +kernel, by decide +kernel⟩, List.mem_of_getElem? (i := 958) (by decide +kernel), List.mem_of_getElem? (i := 1154) (by decide +kernel), List.mem_of_getElem? (i := 1155) (by decide +kernel)⟩
theorem lw_p47 : lw_okq (⟨"HandBookModel", "byteAt", "(I)I"⟩, 49) := ⟨⟨by decide +kernel, by decide +kernel⟩, List.mem_of_getElem? (i := 958) (by decide +kernel), List.mem_of_getElem? (i := 1158) (by decide +kernel), List.mem_of_getElem? (i := 1159) (by decide +kernel)⟩
def lw_privs_3 : List (MethodName × Nat) := [(⟨"HandBook$Cheapest", "sink", "(I)V"⟩, 8), (⟨"HandBook$Cheapest", "lesserChild", "(I)I"⟩, 8), (⟨"HandBook$Cheapest", "offerAll", "(II)V"⟩, 8), (⟨"HandBook$Walks", "doDeeds", "(II)I"⟩, 9), (⟨"HandBook$Walks", "behindDeed", "(II)I"⟩, 9), (⟨"HandBook$Walks", "toNextTick", "(III)I"⟩, 9), (⟨"HandBook$Through", "isSafe", "(II)Z"⟩, 9), (⟨"HandBook$Through", "canCome", "(I)Z"⟩, 9), (⟨"HandBook$Steps", "sizeBody", "(I)I"⟩, 7), (⟨"HandBook$Steps", "markBody", "(I)I"⟩, 7), (⟨"HandBook$Steps", "begin", "(III)I"⟩, 7), (⟨"HandBook$Steps", "leave", "(I)V"⟩, 7), (⟨"HandBook", "sheetsThere", "()I"⟩, 11), (⟨"HandBookModel", "finding", "(I)I"⟩, 49), (⟨"HandBookModel", "next", "()V"⟩, 49), (⟨"HandBookModel", "byteAt", "(I)I"⟩, 49)]
theorem lw_r3 : ∀ q ∈ lw_privs_3, lw_okq q := List.forall_mem_cons.mpr ⟨lw_p32, List.forall_mem_cons.mpr ⟨lw_p33, List.forall_mem_cons.mpr ⟨lw_p34, List.forall_mem_cons.mpr ⟨lw_p35, List.forall_mem_cons.mpr ⟨lw_p36, List.forall_mem_cons.mpr ⟨lw_p37, List.forall_mem_cons.mpr ⟨lw_p38, List.forall_mem_cons.mpr ⟨lw_p39, List.forall_mem_cons.mpr ⟨lw_p40, List.forall_mem_cons.mpr ⟨lw_p41, List.forall_mem_cons.mpr ⟨lw_p42, List.forall_mem_cons.mpr ⟨lw_p43, List.forall_mem_cons.mpr ⟨lw_p44, List.forall_mem_cons.mpr ⟨lw_p45, List.forall_mem_cons.mpr ⟨lw_p46, List.forall_mem_cons.mpr ⟨lw_p47, fun _ h => absurd h List.not_mem_nil⟩⟩⟩⟩⟩⟩⟩⟩⟩⟩⟩⟩⟩⟩⟩⟩
theorem lw_p48 : lw_okq (⟨"HandBookModel", "readOne", "()V"⟩, 49) := ⟨⟨by decide +kernel, by decide +kernel⟩, List.mem_of_getElem? (i := 958) (by decide +kernel), List.mem_of_getElem? (i := 1169) (by decide +kernel), List.mem_of_getElem? (i := 1170) (by decide +kernel)⟩
theorem lw_p49 : lw_okq (⟨"HandBookModel", "word", "()J"⟩, 49) := ⟨⟨by decide +kernel, by decide +kernel⟩, List.mem_of_getElem? (i := 958) (by decide +kernel), List.mem_of_getElem? (i := 1173) (by decide +kernel), List.mem_of_getElem? (i := 1174) (by decide +kernel)⟩
theorem lw_p50 : lw_okq (⟨"HandBookModel", "bad", "(I)V"⟩, 49) := ⟨⟨by decide +kernel, by decide +kernel⟩, List.mem_of_getElem? (i := 958) (by decide +kernel), List.mem_of_getElem? (i := 1181) (by decide +kernel), List.mem_of_getElem? (i := 1182) (by decide +kernel)⟩
theorem lw_p51 : lw_okq (⟨"HandBookModel", "must", "(Z)V"⟩, 49) := ⟨⟨by decide +kernel, by decide +kernel⟩, List.mem_of_getElem? (i := 958) (by decide +kernel), List.mem_of_getElem? (i := 1185) (by decide +kernel), List.mem_of_getElem? (i := 1186) (by decide +kernel)⟩
theorem lw_p52 : lw_okq (⟨"HandBookModel", "numberTo", "(I)I"⟩, 49) := ⟨⟨by decide +kernel, by decide +kernel⟩, List.mem_of_getElem? (i := 958) (by decide +kernel), List.mem_of_getElem? (i := 1189) (by decide +kernel), List.mem_of_getElem? (i := 1190) (by decide +kernel)⟩
theorem lw_p53 : lw_okq (⟨"HandBookModel", "readLine", "(I)V"⟩, 49) := ⟨⟨by decide +kernel, by decide +kernel⟩, List.mem_of_getElem? (i := 958) (by decide +kernel), List.mem_of_getElem? (i := 1195) (by decide +kernel), List.mem_of_getElem? (i := 1196) (by decide +kernel)⟩
theorem lw_p54 : lw_okq (⟨"HandBookModel", "whatOfWord", "()I"⟩, 49) := ⟨⟨by decide +kernel, by decide +kernel⟩, List.mem_of_getElem? (i := 958) (by decide +kernel), List.mem_of_getElem? (i := 1199) (by decide +kernel), List.mem_of_getElem? (i := 1200) (by decide +kernel)⟩
theorem lw_p55 : lw_okq (⟨"HandBookModel", "readCond", "(I)V"⟩, 49) := ⟨⟨by decide +kernel, by decide +kernel⟩, List.mem_of_getElem? (i := 958) (by decide +kernel), List.mem_of_getElem? (i := 1212) (by decide +kernel), List.mem_of_getElem? (i := 1213) (by decide +kernel)⟩
theorem lw_p56 : lw_okq (⟨"HandBookModel", "readStep", "()V"⟩, 49) := ⟨⟨by decide +kernel, by decide +kernel⟩, List.mem_of_getElem? (i := 958) (by decide +kernel), List.mem_of_getElem? (i := 1217) (by decide +kernel), List.mem_of_getElem? (i := 1218) (by decide +kernel)⟩
theorem lw_p57 : lw_okq (⟨"HandBookModel", "tickOf", "(I)I"⟩, 49) := ⟨⟨by decide +kernel, by decide +kernel⟩, List.mem_of_getElem? (i := 958) (by decide +kernel), List.mem_of_getElem? (i := 1253) (by decide +kernel), List.mem_of_getElem? (i := 1254) (by decide +kernel)⟩
theorem lw_p58 : lw_okq (⟨"HandBookModel", "isBadState", "(I)Z"⟩, 49) := ⟨⟨by decide +kernel, by decide +kernel⟩, List.mem_of_getElem? (i := 958) (by decide +kernel), List.mem_of_getElem? (i := 1264) (by decide +kernel), List.mem_of_getElem? (i := 1265) (by decide +kernel)⟩
theorem lw_p59 : lw_okq (⟨"HandBookModel", "holdsLine", "(II)Z"⟩, 49) := ⟨⟨by decide +kernel, by decide +kernel⟩, List.mem_of_getElem? (i := 958) (by decide +kernel), List.mem_of_getElem? (i := 1268) (by decide +kernel), List.mem_of_getElem? (i := 1269) (by decide +kernel)⟩
theorem lw_p60 : lw_okq (⟨"HandBookModel", "holds", "(II)Z"⟩, 49) := ⟨⟨by decide +kernel, by decide +kernel⟩, List.mem_of_getElem? (i := 958) (by decide +kernel), List.mem_of_getElem? (i := 1272) (by decide +kernel), List.mem_of_getElem? (i := 1273) (by decide +kernel)⟩
theorem lw_p61 : lw_okq (⟨"HandBookModel", "isGoodState", "(I)Z"⟩, 49) := ⟨⟨by decide +kernel, by decide +kernel⟩, List.mem_of_getElem? (i := 958) (by decide +kernel), List.mem_of_getElem? (i := 1276) (by decide +kernel), List.mem_of_getElem? (i := 1277) (by decide +kernel)⟩
theorem lw_p62 : lw_okq (⟨"HandBookModel", "onFrom", "(I)I"⟩, 49) := ⟨⟨by decide +kernel, by decide +kernel⟩, List.mem_of_getElem? (i := 958) (by decide +kernel), List.mem_of_getElem? (i := 1293) (by decide +kernel), List.mem_of_getElem? (i := 1294) (by decide +kernel)⟩
theorem lw_p63 : lw_okq (⟨"HandBookModel", "endsAt", "(I)Z"⟩, 49) := ⟨⟨by decide +kernel, by decide +kernel⟩, List.mem_of_getElem? (i := 958) (by decide +kernel), List.mem_of_getElem? (i := 1297) (by decide +kernel), List.mem_of_getElem? (i := 1298) (by decide +kernel)⟩
def lw_privs_4 : List (MethodName × Nat) := [(⟨"HandBookModel", "readOne", "()V"⟩, 49), (⟨"HandBookModel", "word", "()J"⟩, 49), (⟨"HandBookModel", "bad", "(I)V"⟩, 49), (⟨"HandBookModel", "must", "(Z)V"⟩, 49), (⟨"HandBookModel", "numberTo", "(I)I"⟩, 49), (⟨"HandBookModel", "readLine", "(I)V"⟩, 49), (⟨"HandBookModel", "whatOfWord", "()I"⟩, 49), (⟨"HandBookModel", "readCond", "(I)V"⟩, 49), (⟨"HandBookModel", "readStep", "()V"⟩, 49), (⟨"HandBookModel", "tickOf", "(I)I"⟩, 49), (⟨"HandBookModel", "isBadState", "(I)Z"⟩, 49), (⟨"HandBookModel", "holdsLine", "(II)Z"⟩, 49), (⟨"HandBookModel", "holds", "(II)Z"⟩, 49), (⟨"HandBookModel", "isGoodState", "(I)Z"⟩, 49), (⟨"HandBookModel", "onFrom", "(I)I"⟩, 49), (⟨"HandBookModel", "endsAt", "(I)Z"⟩, 49)]
theorem lw_r4 : ∀ q ∈ lw_privs_4, lw_okq q := List.forall_mem_cons.mpr ⟨lw_p48, List.forall_mem_cons.mpr ⟨lw_p49, List.forall_mem_cons.mpr ⟨lw_p50, List.forall_mem_cons.mpr ⟨lw_p51, List.forall_mem_cons.mpr ⟨lw_p52, List.forall_mem_cons.mpr ⟨lw_p53, List.forall_mem_cons.mpr ⟨lw_p54, List.forall_mem_cons.mpr ⟨lw_p55, List.forall_mem_cons.mpr ⟨lw_p56, List.forall_mem_cons.mpr ⟨lw_p57, List.forall_mem_cons.mpr ⟨lw_p58, List.forall_mem_cons.mpr ⟨lw_p59, List.forall_mem_cons.mpr ⟨lw_p60, List.forall_mem_cons.mpr ⟨lw_p61, List.forall_mem_cons.mpr ⟨lw_p62, List.forall_mem_cons.mpr ⟨lw_p63, fun _ h => absurd h List.not_mem_nil⟩⟩⟩⟩⟩⟩⟩⟩⟩⟩⟩⟩⟩⟩⟩⟩
theorem lw_p64 : lw_okq (⟨"HandBookModel", "doneTo", "(IIZ)I"⟩, 49) := ⟨⟨by decide +kernel, by decide +kernel⟩, List.mem_of_getElem? (i := 958) (by decide +kernel), List.mem_of_getElem? (i := 1301) (by decide +kernel), List.mem_of_getElem? (i := 1302) (by decide +kernel)⟩
theorem lw_p65 : lw_okq (⟨"HandBookModel", "slipFrom", "(II)I"⟩, 49) := ⟨⟨by decide +kernel, by decide +kernel⟩, List.mem_of_getElem? (i := 958) (by decide +kernel), List.mem_of_getElem? (i := 1309) (by decide +kernel), List.mem_of_getElem? (i := 1310) (by decide +kernel)⟩
theorem lw_p66 : lw_okq (⟨"HandBookModel", "takesTick", "(I)Z"⟩, 49) := ⟨⟨by decide +kernel, by decide +kernel⟩, List.mem_of_getElem? (i := 958) (by decide +kernel), List.mem_of_getElem? (i := 1317) (by decide +kernel), List.mem_of_getElem? (i := 1318) (by decide +kernel)⟩
theorem lw_p67 : lw_okq (⟨"HandBookModel", "goThrough", "(II)V"⟩, 49) := ⟨⟨by decide +kernel, by decide +kernel⟩, List.mem_of_getElem? (i := 958) (by decide +kernel), List.mem_of_getElem? (i := 1326) (by decide +kernel), List.mem_of_getElem? (i := 1327) (by decide +kernel)⟩
theorem lw_p68 : lw_okq (⟨"HandBookModel", "come", "(I)V"⟩, 49) := ⟨⟨by decide +kernel, by decide +kernel⟩, List.mem_of_getElem? (i := 958) (by decide +kernel), List.mem_of_getElem? (i := 1330) (by decide +kernel), List.mem_of_getElem? (i := 1331) (by decide +kernel)⟩
theorem lw_p69 : lw_okq (⟨"HandBookModel", "comesToBad", "()Z"⟩, 49) := ⟨⟨by decide +kernel, by decide +kernel⟩, List.mem_of_getElem? (i := 958) (by decide +kernel), List.mem_of_getElem? (i := 1334) (by decide +kernel), List.mem_of_getElem? (i := 1335) (by decide +kernel)⟩
theorem lw_p70 : lw_okq (⟨"HandBookModel", "neverEndsFrom", "(I)Z"⟩, 49) := ⟨⟨by decide +kernel, by decide +kernel⟩, List.mem_of_getElem? (i := 958) (by decide +kernel), List.mem_of_getElem? (i := 1338) (by decide +kernel), List.mem_of_getElem? (i := 1339) (by decide +kernel)⟩
theorem lw_p71 : lw_okq (⟨"HandBookModel", "offer", "(II)V"⟩, 49) := ⟨⟨by decide +kernel, by decide +kernel⟩, List.mem_of_getElem? (i := 958) (by decide +kernel), List.mem_of_getElem? (i := 1346) (by decide +kernel), List.mem_of_getElem? (i := 1347) (by decide +kernel)⟩
theorem lw_p72 : lw_okq (⟨"HandBookModel", "deed", "(II)I"⟩, 49) := ⟨⟨by decide +kernel, by decide +kernel⟩, List.mem_of_getElem? (i := 958) (by decide +kernel), List.mem_of_getElem? (i := 1354) (by decide +kernel), List.mem_of_getElem? (i := 1355) (by decide +kernel)⟩
theorem lw_p73 : lw_okq (⟨"HandBookModel", "goRun", "(III[I)V"⟩, 49) := ⟨⟨by decide +kernel, by decide +kernel⟩, List.mem_of_getElem? (i := 958) (by decide +kernel), List.mem_of_getElem? (i := 1362) (by decide +kernel), List.mem_of_getElem? (i := 1363) (by decide +kernel)⟩
theorem lw_p74 : lw_okq (⟨"HandBookModel", "isSafeWith", "(II)Z"⟩, 49) := ⟨⟨by decide +kernel, by decide +kernel⟩, List.mem_of_getElem? (i := 958) (by decide +kernel), List.mem_of_getElem? (i := 1370) (by decide +kernel), List.mem_of_getElem? (i := 1371) (by decide +kernel)⟩
theorem lw_p75 : lw_okq (⟨"HandBookModel", "isNewBar", "(I)Z"⟩, 49) := ⟨⟨by decide +kernel, by decide +kernel⟩, List.mem_of_getElem? (i := 958) (by decide +kernel), List.mem_of_getElem? (i := 1374) (by decide +kernel), List.mem_of_getElem? (i := 1375) (by decide +kernel)⟩
theorem lw_p76 : lw_okq (⟨"HandBookModel", "isStep", "(I)Z"⟩, 49) := ⟨⟨by decide +kernel, by decide +kernel⟩, List.mem_of_getElem? (i := 958) (by decide +kernel), List.mem_of_getElem? (i := 1385) (by decide +kernel), List.mem_of_getElem? (i := 1386) (by decide +kernel)⟩
theorem lw_p77 : lw_okq (⟨"HandBookModel", "kindOf", "(I)I"⟩, 49) := ⟨⟨by decide +kernel, by decide +kernel⟩, List.mem_of_getElem? (i := 958) (by decide +kernel), List.mem_of_getElem? (i := 1389) (by decide +kernel), List.mem_of_getElem? (i := 1390) (by decide +kernel)⟩
theorem lw_p78 : lw_okq (⟨"HandBookModel", "sizeOf", "(II)I"⟩, 49) := ⟨⟨by decide +kernel, by decide +kernel⟩, List.mem_of_getElem? (i := 958) (by decide +kernel), List.mem_of_getElem? (i := 1405) (by decide +kernel), List.mem_of_getElem? (i := 1406) (by decide +kernel)⟩
theorem lw_p79 : lw_okq (⟨"HandBookModel", "waitSize", "(I)I"⟩, 49) := ⟨⟨by decide +kernel, by decide +kernel⟩, List.mem_of_getElem? (i := 958) (by decide +kernel), List.mem_of_getElem? (i := 1409) (by decide +kernel), List.mem_of_getElem? (i := 1410) (by decide +kernel)⟩
def lw_privs_5 : List (MethodName × Nat) := [(⟨"HandBookModel", "doneTo", "(IIZ)I"⟩, 49), (⟨"HandBookModel", "slipFrom", "(II)I"⟩, 49), (⟨"HandBookModel", "takesTick", "(I)Z"⟩, 49), (⟨"HandBookModel", "goThrough", "(II)V"⟩, 49), (⟨"HandBookModel", "come", "(I)V"⟩, 49), (⟨"HandBookModel", "comesToBad", "()Z"⟩, 49), (⟨"HandBookModel", "neverEndsFrom", "(I)Z"⟩, 49), (⟨"HandBookModel", "offer", "(II)V"⟩, 49), (⟨"HandBookModel", "deed", "(II)I"⟩, 49), (⟨"HandBookModel", "goRun", "(III[I)V"⟩, 49), (⟨"HandBookModel", "isSafeWith", "(II)Z"⟩, 49), (⟨"HandBookModel", "isNewBar", "(I)Z"⟩, 49), (⟨"HandBookModel", "isStep", "(I)Z"⟩, 49), (⟨"HandBookModel", "kindOf", "(I)I"⟩, 49), (⟨"HandBookModel", "sizeOf", "(II)I"⟩, 49), (⟨"HandBookModel", "waitSize", "(I)I"⟩, 49)]
theorem lw_r5 : ∀ q ∈ lw_privs_5, lw_okq q := List.forall_mem_cons.mpr ⟨lw_p64, List.forall_mem_cons.mpr ⟨lw_p65, List.forall_mem_cons.mpr ⟨lw_p66, List.forall_mem_cons.mpr ⟨lw_p67, List.forall_mem_cons.mpr ⟨lw_p68, List.forall_mem_cons.mpr ⟨lw_p69, List.forall_mem_cons.mpr ⟨lw_p70, List.forall_mem_cons.mpr ⟨lw_p71, List.forall_mem_cons.mpr ⟨lw_p72, List.forall_mem_cons.mpr ⟨lw_p73, List.forall_mem_cons.mpr ⟨lw_p74, List.forall_mem_cons.mpr ⟨lw_p75, List.forall_mem_cons.mpr ⟨lw_p76, List.forall_mem_cons.mpr ⟨lw_p77, List.forall_mem_cons.mpr ⟨lw_p78, List.forall_mem_cons.mpr ⟨lw_p79, fun _ h => absurd h List.not_mem_nil⟩⟩⟩⟩⟩⟩⟩⟩⟩⟩⟩⟩⟩⟩⟩⟩
theorem lw_p80 : lw_okq (⟨"HandBookModel", "began", "(I)V"⟩, 49) := ⟨⟨by decide +kernel, by decide +kernel⟩, List.mem_of_getElem? (i := 958) (by decide +kernel), List.mem_of_getElem? (i := 1413) (by decide +kernel), List.mem_of_getElem? (i := 1414) (by decide +kernel)⟩
theorem lw_p81 : lw_okq (⟨"HandBookModel", "goTo", "(I)I"⟩, 49) := ⟨⟨by decide +kernel, by decide +kernel⟩, List.mem_of_getElem? (i := 958) (by decide +kernel), List.mem_of_getElem? (i := 1417) (by decide +kernel), List.mem_of_getElem? (i := 1418) (by decide +kernel)⟩
theorem lw_p82 : lw_okq (⟨"HandBookModel", "markOf", "(II)I"⟩, 49) := ⟨⟨by decide +kernel, by decide +kernel⟩, List.mem_of_getElem? (i := 958) (by decide +kernel), List.mem_of_getElem? (i := 1421) (by decide +kernel), List.mem_of_getElem? (i := 1422) (by decide +kernel)⟩
def lw_privs_6 : List (MethodName × Nat) := [(⟨"HandBookModel", "began", "(I)V"⟩, 49), (⟨"HandBookModel", "goTo", "(I)I"⟩, 49), (⟨"HandBookModel", "markOf", "(II)I"⟩, 49)]
theorem lw_r6 : ∀ q ∈ lw_privs_6, lw_okq q := List.forall_mem_cons.mpr ⟨lw_p80, List.forall_mem_cons.mpr ⟨lw_p81, List.forall_mem_cons.mpr ⟨lw_p82, fun _ h => absurd h List.not_mem_nil⟩⟩⟩
def lw_privs : List (MethodName × Nat) := lw_privs_1 ++ (lw_privs_2 ++ (lw_privs_3 ++ (lw_privs_4 ++ (lw_privs_5 ++ (lw_privs_6)))))
def lw_tbl : List Cond := k2_sels lw_privs ++ tables_1
theorem lw_privs_ok : ∀ q ∈ lw_privs, lw_okq q := by
  show ∀ q ∈ lw_privs_1 ++ (lw_privs_2 ++ (lw_privs_3 ++ (lw_privs_4 ++ (lw_privs_5 ++ (lw_privs_6))))), lw_okq q
  exact List.forall_mem_append.mpr ⟨lw_r1, List.forall_mem_append.mpr ⟨lw_r2, List.forall_mem_append.mpr ⟨lw_r3, List.forall_mem_append.mpr ⟨lw_r4, List.forall_mem_append.mpr ⟨lw_r5, lw_r6⟩⟩⟩⟩⟩
/-! end of the words -/
end
section
/-! names, fields (as the claim prints them), and the rows of the small machine -/
def RX0 : String := "HandBook$Cheapest"
def TX0 : u_T := fun k => match k with
  | 0 => ("HandBook$Cheapest", "hands", "LHandBook$Hands;", true)
  | 1 => ("HandBook$Cheapest", "rows", "LHandBook$Rows;", true)
  | 2 => ("HandBook$Cheapest", "cost", "I", false)
  | 3 => ("HandBook$Cheapest", "firstSlip", "I", false)
  | 4 => ("HandBook$Cheapest", "heap", "[I", true)
  | 5 => ("HandBook$Cheapest", "spots", "[I", true)
  | 6 => ("HandBook$Cheapest", "keys", "[I", true)
  | _ => ("HandBook$Cheapest", "size", "I", false)
def tyX0 : Nat → FieldType := fun k => match k with
  | 0 => .object "HandBook$Hands"
  | 1 => .object "HandBook$Rows"
  | 2 => .int
  | 3 => .int
  | 4 => .array .int
  | 5 => .array .int
  | 6 => .array .int
  | _ => .int
theorem nmX0 : ∀ a, a < 8 → ∀ b, b < 8 → a ≠ b → (TX0 a).2.1 ≠ (TX0 b).2.1 := by decide +kernel
theorem tyX0_ok : ∀ k, k < 8 → parseFieldDescriptor (TX0 k).2.2.1 = some (tyX0 k) := by decide +kernel
def RX1 : String := "HandBook$Hands"
def TX1 : u_T := fun k => match k with
  | 0 => ("HandBook$Hands", "works", "LHandBook$Works;", true)
  | 1 => ("HandBook$Hands", "steps", "LHandBook$Steps;", true)
  | 2 => ("HandBook$Hands", "likes", "[I", true)
  | _ => ("HandBook$Hands", "prices", "[I", true)
def tyX1 : Nat → FieldType := fun k => match k with
  | 0 => .object "HandBook$Works"
  | 1 => .object "HandBook$Steps"
  | 2 => .array .int
  | _ => .array .int
theorem nmX1 : ∀ a, a < 4 → ∀ b, b < 4 → a ≠ b → (TX1 a).2.1 ≠ (TX1 b).2.1 := by decide +kernel
theorem tyX1_ok : ∀ k, k < 4 → parseFieldDescriptor (TX1 k).2.2.1 = some (tyX1 k) := by decide +kernel
def RX2 : String := "HandBook$Lines"
def TX2 : u_T := fun k => match k with
  | 0 => ("HandBook$Lines", "conds", "[I", true)
  | 1 => ("HandBook$Lines", "sizes", "[I", true)
  | 2 => ("HandBook$Lines", "n", "I", false)
  | _ => ("HandBook$Lines", "drafted", "I", false)
def tyX2 : Nat → FieldType := fun k => match k with
  | 0 => .array .int
  | 1 => .array .int
  | 2 => .int
  | _ => .int
theorem nmX2 : ∀ a, a < 4 → ∀ b, b < 4 → a ≠ b → (TX2 a).2.1 ≠ (TX2 b).2.1 := by decide +kernel
theorem tyX2_ok : ∀ k, k < 4 → parseFieldDescriptor (TX2 k).2.2.1 = some (tyX2 k) := by decide +kernel
def RX3 : String := "HandBook$Reader"
def TX3 : u_T := fun k => match k with
  | 0 => ("HandBook$Reader", "tape", "LHandBook$Tape;", true)
  | 1 => ("HandBook$Reader", "works", "LHandBook$Works;", true)
  | 2 => ("HandBook$Reader", "steps", "LHandBook$Steps;", true)
  | 3 => ("HandBook$Reader", "faultNumber", "I", false)
  | 4 => ("HandBook$Reader", "faultPlace", "I", false)
  | 5 => ("HandBook$Reader", "at", "I", false)
  | _ => ("HandBook$Reader", "code", "I", false)
def tyX3 : Nat → FieldType := fun k => match k with
  | 0 => .object "HandBook$Tape"
  | 1 => .object "HandBook$Works"
  | 2 => .object "HandBook$Steps"
  | 3 => .int
  | 4 => .int
  | 5 => .int
  | _ => .int
theorem nmX3 : ∀ a, a < 7 → ∀ b, b < 7 → a ≠ b → (TX3 a).2.1 ≠ (TX3 b).2.1 := by decide +kernel
theorem tyX3_ok : ∀ k, k < 7 → parseFieldDescriptor (TX3 k).2.2.1 = some (tyX3 k) := by decide +kernel
def RX4 : String := "HandBook$Rows"
def TX4 : u_T := fun k => match k with
  | 0 => ("HandBook$Rows", "first", "[I", true)
  | 1 => ("HandBook$Rows", "second", "[I", true)
  | 2 => ("HandBook$Rows", "third", "[I", true)
  | 3 => ("HandBook$Rows", "marks", "[I", true)
  | _ => ("HandBook$Rows", "round", "I", false)
def tyX4 : Nat → FieldType := fun k => match k with
  | 0 => .array .int
  | 1 => .array .int
  | 2 => .array .int
  | 3 => .array .int
  | _ => .int
theorem nmX4 : ∀ a, a < 5 → ∀ b, b < 5 → a ≠ b → (TX4 a).2.1 ≠ (TX4 b).2.1 := by decide +kernel
theorem tyX4_ok : ∀ k, k < 5 → parseFieldDescriptor (TX4 k).2.2.1 = some (tyX4 k) := by decide +kernel
def RX5 : String := "HandBook$Sheet"
def TX5 : u_T := fun k => match k with
  | 0 => ("HandBook$Sheet", "items", "[I", true)
  | 1 => ("HandBook$Sheet", "there", "Z", false)
  | 2 => ("HandBook$Sheet", "lane", "I", false)
  | _ => ("HandBook$Sheet", "n", "I", false)
def tyX5 : Nat → FieldType := fun k => match k with
  | 0 => .array .int
  | 1 => .boolean
  | 2 => .int
  | _ => .int
theorem nmX5 : ∀ a, a < 4 → ∀ b, b < 4 → a ≠ b → (TX5 a).2.1 ≠ (TX5 b).2.1 := by decide +kernel
theorem tyX5_ok : ∀ k, k < 4 → parseFieldDescriptor (TX5 k).2.2.1 = some (tyX5 k) := by decide +kernel
def RX6 : String := "HandBook$Steps"
def TX6 : u_T := fun k => match k with
  | 0 => ("HandBook$Steps", "acts", "[I", true)
  | 1 => ("HandBook$Steps", "targets", "[I", true)
  | 2 => ("HandBook$Steps", "conds", "[I", true)
  | 3 => ("HandBook$Steps", "trace", "[I", true)
  | 4 => ("HandBook$Steps", "n", "I", false)
  | 5 => ("HandBook$Steps", "drafted", "I", false)
  | _ => ("HandBook$Steps", "traced", "I", false)
def tyX6 : Nat → FieldType := fun k => match k with
  | 0 => .array .int
  | 1 => .array .int
  | 2 => .array .int
  | 3 => .array .int
  | 4 => .int
  | 5 => .int
  | _ => .int
theorem nmX6 : ∀ a, a < 7 → ∀ b, b < 7 → a ≠ b → (TX6 a).2.1 ≠ (TX6 b).2.1 := by decide +kernel
theorem tyX6_ok : ∀ k, k < 7 → parseFieldDescriptor (TX6 k).2.2.1 = some (tyX6 k) := by decide +kernel
def RX7 : String := "HandBook$Tape"
def TX7 : u_T := fun k => match k with
  | 0 => ("HandBook$Tape", "bytes", "[I", true)
  | 1 => ("HandBook$Tape", "starts", "[I", true)
  | 2 => ("HandBook$Tape", "codes", "[I", true)
  | _ => ("HandBook$Tape", "size", "I", false)
def tyX7 : Nat → FieldType := fun k => match k with
  | 0 => .array .int
  | 1 => .array .int
  | 2 => .array .int
  | _ => .int
theorem nmX7 : ∀ a, a < 4 → ∀ b, b < 4 → a ≠ b → (TX7 a).2.1 ≠ (TX7 b).2.1 := by decide +kernel
theorem tyX7_ok : ∀ k, k < 4 → parseFieldDescriptor (TX7 k).2.2.1 = some (tyX7 k) := by decide +kernel
def RX8 : String := "HandBook$Through"
def TX8 : u_T := fun k => match k with
  | 0 => ("HandBook$Through", "hands", "LHandBook$Hands;", true)
  | 1 => ("HandBook$Through", "works", "LHandBook$Works;", true)
  | 2 => ("HandBook$Through", "rows", "LHandBook$Rows;", true)
  | 3 => ("HandBook$Through", "endRounds", "[I", true)
  | 4 => ("HandBook$Through", "fates", "[I", true)
  | 5 => ("HandBook$Through", "tillHarm", "Z", false)
  | 6 => ("HandBook$Through", "harmed", "Z", false)
  | 7 => ("HandBook$Through", "endings", "I", false)
  | _ => ("HandBook$Through", "goodEndings", "I", false)
def tyX8 : Nat → FieldType := fun k => match k with
  | 0 => .object "HandBook$Hands"
  | 1 => .object "HandBook$Works"
  | 2 => .object "HandBook$Rows"
  | 3 => .array .int
  | 4 => .array .int
  | 5 => .boolean
  | 6 => .boolean
  | 7 => .int
  | _ => .int
theorem nmX8 : ∀ a, a < 9 → ∀ b, b < 9 → a ≠ b → (TX8 a).2.1 ≠ (TX8 b).2.1 := by decide +kernel
theorem tyX8_ok : ∀ k, k < 9 → parseFieldDescriptor (TX8 k).2.2.1 = some (tyX8 k) := by decide +kernel
def RX9 : String := "HandBook$Walks"
def TX9 : u_T := fun k => match k with
  | 0 => ("HandBook$Walks", "hands", "LHandBook$Hands;", true)
  | 1 => ("HandBook$Walks", "works", "LHandBook$Works;", true)
  | 2 => ("HandBook$Walks", "rows", "LHandBook$Rows;", true)
  | 3 => ("HandBook$Walks", "endState", "I", false)
  | 4 => ("HandBook$Walks", "ticks", "I", false)
  | 5 => ("HandBook$Walks", "harmed", "Z", false)
  | 6 => ("HandBook$Walks", "deeds", "I", false)
  | 7 => ("HandBook$Walks", "firstDeed", "I", false)
  | _ => ("HandBook$Walks", "slipAhead", "Z", false)
def tyX9 : Nat → FieldType := fun k => match k with
  | 0 => .object "HandBook$Hands"
  | 1 => .object "HandBook$Works"
  | 2 => .object "HandBook$Rows"
  | 3 => .int
  | 4 => .int
  | 5 => .boolean
  | 6 => .int
  | 7 => .int
  | _ => .boolean
theorem nmX9 : ∀ a, a < 9 → ∀ b, b < 9 → a ≠ b → (TX9 a).2.1 ≠ (TX9 b).2.1 := by decide +kernel
theorem tyX9_ok : ∀ k, k < 9 → parseFieldDescriptor (TX9 k).2.2.1 = some (tyX9 k) := by decide +kernel
def RX10 : String := "HandBook$Works"
def TX10 : u_T := fun k => match k with
  | 0 => ("HandBook$Works", "badLines", "LHandBook$Lines;", true)
  | 1 => ("HandBook$Works", "goodLines", "LHandBook$Lines;", true)
  | 2 => ("HandBook$Works", "flowValves", "[I", true)
  | 3 => ("HandBook$Works", "flowHeights", "[I", true)
  | 4 => ("HandBook$Works", "flowRises", "[I", true)
  | 5 => ("HandBook$Works", "behind", "[I", true)
  | 6 => ("HandBook$Works", "bad", "[Z", true)
  | 7 => ("HandBook$Works", "good", "[Z", true)
  | 8 => ("HandBook$Works", "flows", "I", false)
  | 9 => ("HandBook$Works", "flowsDrafted", "I", false)
  | _ => ("HandBook$Works", "bars", "I", false)
def tyX10 : Nat → FieldType := fun k => match k with
  | 0 => .object "HandBook$Lines"
  | 1 => .object "HandBook$Lines"
  | 2 => .array .int
  | 3 => .array .int
  | 4 => .array .int
  | 5 => .array .int
  | 6 => .array .boolean
  | 7 => .array .boolean
  | 8 => .int
  | 9 => .int
  | _ => .int
theorem nmX10 : ∀ a, a < 11 → ∀ b, b < 11 → a ≠ b → (TX10 a).2.1 ≠ (TX10 b).2.1 := by decide +kernel
theorem tyX10_ok : ∀ k, k < 11 → parseFieldDescriptor (TX10 k).2.2.1 = some (tyX10 k) := by decide +kernel
def RX11 : String := "HandBook"
def TX11 : u_T := fun k => match k with
  | 0 => ("HandBook", "sheets", "[LHandBook$Sheet;", true)
  | 1 => ("HandBook", "works", "LHandBook$Works;", true)
  | 2 => ("HandBook", "steps", "LHandBook$Steps;", true)
  | 3 => ("HandBook", "hands", "LHandBook$Hands;", true)
  | 4 => ("HandBook", "tape", "LHandBook$Tape;", true)
  | 5 => ("HandBook", "reader", "LHandBook$Reader;", true)
  | 6 => ("HandBook", "walks", "LHandBook$Walks;", true)
  | 7 => ("HandBook", "plays", "LHandBook$Through;", true)
  | 8 => ("HandBook", "harm", "LHandBook$Cheapest;", true)
  | 9 => ("HandBook", "finding", "I", false)
  | _ => ("HandBook", "latestFault", "I", false)
def tyX11 : Nat → FieldType := fun k => match k with
  | 0 => .array (.object "HandBook$Sheet")
  | 1 => .object "HandBook$Works"
  | 2 => .object "HandBook$Steps"
  | 3 => .object "HandBook$Hands"
  | 4 => .object "HandBook$Tape"
  | 5 => .object "HandBook$Reader"
  | 6 => .object "HandBook$Walks"
  | 7 => .object "HandBook$Through"
  | 8 => .object "HandBook$Cheapest"
  | 9 => .int
  | _ => .int
theorem nmX11 : ∀ a, a < 11 → ∀ b, b < 11 → a ≠ b → (TX11 a).2.1 ≠ (TX11 b).2.1 := by decide +kernel
theorem tyX11_ok : ∀ k, k < 11 → parseFieldDescriptor (TX11 k).2.2.1 = some (tyX11 k) := by decide +kernel
def RX12 : String := "HandBookModel"
def TX12 : u_T := fun k => match k with
  | 0 => ("HandBookModel", "thrown", "I", false)
  | 1 => ("HandBookModel", "status", "I", false)
  | 2 => ("HandBookModel", "lane", "[I", true)
  | 3 => ("HandBookModel", "many", "[I", true)
  | 4 => ("HandBookModel", "item", "[I", true)
  | 5 => ("HandBookModel", "flows", "I", false)
  | 6 => ("HandBookModel", "flowValve", "[I", true)
  | 7 => ("HandBookModel", "flowHeight", "[I", true)
  | 8 => ("HandBookModel", "flowBy", "[I", true)
  | 9 => ("HandBookModel", "bads", "I", false)
  | 10 => ("HandBookModel", "goods", "I", false)
  | 11 => ("HandBookModel", "steps", "I", false)
  | 12 => ("HandBookModel", "newFlows", "I", false)
  | 13 => ("HandBookModel", "newBads", "I", false)
  | 14 => ("HandBookModel", "newGoods", "I", false)
  | 15 => ("HandBookModel", "newSteps", "I", false)
  | 16 => ("HandBookModel", "conds", "[I", true)
  | 17 => ("HandBookModel", "condWhat", "[I", true)
  | 18 => ("HandBookModel", "condOf", "[I", true)
  | 19 => ("HandBookModel", "condBy", "[I", true)
  | 20 => ("HandBookModel", "act", "[I", true)
  | 21 => ("HandBookModel", "actOf", "[I", true)
  | 22 => ("HandBookModel", "tape", "[I", true)
  | 23 => ("HandBookModel", "taped", "I", false)
  | 24 => ("HandBookModel", "latest", "I", false)
  | 25 => ("HandBookModel", "length", "I", false)
  | 26 => ("HandBookModel", "cursor", "I", false)
  | 27 => ("HandBookModel", "token", "I", false)
  | 28 => ("HandBookModel", "from", "I", false)
  | 29 => ("HandBookModel", "till", "I", false)
  | 30 => ("HandBookModel", "fault", "I", false)
  | 31 => ("HandBookModel", "faultAt", "I", false)
  | 32 => ("HandBookModel", "likeOf", "[I", true)
  | 33 => ("HandBookModel", "prices", "[I", true)
  | 34 => ("HandBookModel", "bars", "I", false)
  | 35 => ("HandBookModel", "isCome", "[Z", true)
  | 36 => ("HandBookModel", "waiting", "[I", true)
  | 37 => ("HandBookModel", "came", "I", false)
  | 38 => ("HandBookModel", "isEnding", "[I", true)
  | 39 => ("HandBookModel", "isEndState", "[Z", true)
  | 40 => ("HandBookModel", "least", "[I", true)
  | 41 => ("HandBookModel", "waits", "[Z", true)
  | 42 => ("HandBookModel", "lined", "I", false)
  | 43 => ("HandBookModel", "first", "I", false)
  | 44 => ("HandBookModel", "far", "[I", true)
  | 45 => ("HandBookModel", "alone", "[I", true)
  | 46 => ("HandBookModel", "slipped", "[I", true)
  | 47 => ("HandBookModel", "trace", "[I", true)
  | _ => ("HandBookModel", "traced", "I", false)
def tyX12 : Nat → FieldType := fun k => match k with
  | 0 => .int
  | 1 => .int
  | 2 => .array .int
  | 3 => .array .int
  | 4 => .array .int
  | 5 => .int
  | 6 => .array .int
  | 7 => .array .int
  | 8 => .array .int
  | 9 => .int
  | 10 => .int
  | 11 => .int
  | 12 => .int
  | 13 => .int
  | 14 => .int
  | 15 => .int
  | 16 => .array .int
  | 17 => .array .int
  | 18 => .array .int
  | 19 => .array .int
  | 20 => .array .int
  | 21 => .array .int
  | 22 => .array .int
  | 23 => .int
  | 24 => .int
  | 25 => .int
  | 26 => .int
  | 27 => .int
  | 28 => .int
  | 29 => .int
  | 30 => .int
  | 31 => .int
  | 32 => .array .int
  | 33 => .array .int
  | 34 => .int
  | 35 => .array .boolean
  | 36 => .array .int
  | 37 => .int
  | 38 => .array .int
  | 39 => .array .boolean
  | 40 => .array .int
  | 41 => .array .boolean
  | 42 => .int
  | 43 => .int
  | 44 => .array .int
  | 45 => .array .int
  | 46 => .array .int
  | 47 => .array .int
  | _ => .int
theorem nmX12 : ∀ a, a < 49 → ∀ b, b < 49 → a ≠ b → (TX12 a).2.1 ≠ (TX12 b).2.1 := by decide +kernel
theorem tyX12_ok : ∀ k, k < 49 → parseFieldDescriptor (TX12 k).2.2.1 = some (tyX12 k) := by decide +kernel
abbrev hbCl : List vw_C := [(RX0, TX0, 8), (RX1, TX1, 4), (RX2, TX2, 4), (RX3, TX3, 7), (RX4, TX4, 5), (RX5, TX5, 4), (RX6, TX6, 7), (RX7, TX7, 4), (RX8, TX8, 9), (RX9, TX9, 9), (RX10, TX10, 11), (RX11, TX11, 11), (RX12, TX12, 49)]
def hbTB : List Cond := lw_tbl.filter goodWord
def hbOwn : Nat → String := fun k => ["HandBook$Cheapest", "HandBook$Hands", "HandBook$Lines", "HandBook$Reader", "HandBook$Rows", "HandBook$Sheet", "HandBook$Steps", "HandBook$Tape", "HandBook$Through", "HandBook$Walks", "HandBook$Works", "HandBook", "HandBookModel", "java/lang/Integer", "java/lang/Math", "java/lang/String", "java/lang/StringLatin1", "java/util/Arrays", "jdk/internal/util/Preconditions"].getD k ""
abbrev hbMt : Type := MethodName × ByteArray × Nat × Option FieldType × Nat × Nat × Bool
-- a method: its name, bytes, locals, what it returns, the number of its own type, its arguments without the receiver, whether it is static
def hbm0 : hbMt := (⟨"HandBook$Cheapest", "seek", "(I)V"⟩, prog_2_method_2_code, 5, none, 0, 1, false)
def hbm1 : hbMt := (⟨"HandBook$Cheapest", "offerAll", "(II)V"⟩, prog_2_method_3_code, 6, none, 0, 2, false)
def hbm2 : hbMt := (⟨"HandBook$Cheapest", "offer", "(II)V"⟩, prog_2_method_4_code, 3, none, 0, 2, false)
def hbm3 : hbMt := (⟨"HandBook$Cheapest", "takeLeast", "()I"⟩, prog_2_method_5_code, 2, (some .int), 0, 0, false)
def hbm4 : hbMt := (⟨"HandBook$Cheapest", "rise", "(II)V"⟩, prog_2_method_6_code, 4, none, 0, 2, false)
def hbm5 : hbMt := (⟨"HandBook$Cheapest", "sink", "(I)V"⟩, prog_2_method_7_code, 4, none, 0, 1, false)
def hbm6 : hbMt := (⟨"HandBook$Cheapest", "lesserChild", "(I)I"⟩, prog_2_method_8_code, 4, (some .int), 0, 1, false)
def hbm7 : hbMt := (⟨"HandBook$Cheapest", "seat", "(II)V"⟩, prog_2_method_9_code, 3, none, 0, 2, false)
def hbm8 : hbMt := (⟨"HandBook$Hands", "goingOn", "(I)I"⟩, prog_3_method_2_code, 7, (some .int), 1, 1, false)
def hbm9 : hbMt := (⟨"HandBook$Hands", "ticksGoingOn", "(I)Z"⟩, prog_3_method_3_code, 4, (some .boolean), 1, 1, false)
def hbm10 : hbMt := (⟨"HandBook$Hands", "slipping", "(II)I"⟩, prog_3_method_4_code, 11, (some .int), 1, 2, false)
def hbm11 : hbMt := (⟨"HandBook$Hands", "ticksSlipping", "(I)Z"⟩, prog_3_method_5_code, 1, (some .boolean), 1, 1, true)
def hbm12 : hbMt := (⟨"HandBook$Lines", "draftCond", "(II)V"⟩, prog_4_method_2_code, 3, none, 2, 2, false)
def hbm13 : hbMt := (⟨"HandBook$Lines", "holding", "(I)I"⟩, prog_4_method_3_code, 6, (some .int), 2, 1, false)
def hbm14 : hbMt := (⟨"HandBook$Reader", "readAll", "()Z"⟩, prog_5_method_2_code, 3, (some .boolean), 3, 0, false)
def hbm15 : hbMt := (⟨"HandBook$Reader", "readLine", "()Z"⟩, prog_5_method_3_code, 1, (some .boolean), 3, 0, false)
def hbm16 : hbMt := (⟨"HandBook$Reader", "readFlow", "()Z"⟩, prog_5_method_4_code, 3, (some .boolean), 3, 0, false)
def hbm17 : hbMt := (⟨"HandBook$Reader", "readConds", "(LHandBook$Lines;)Z"⟩, prog_5_method_5_code, 4, (some .boolean), 3, 1, false)
def hbm18 : hbMt := (⟨"HandBook$Reader", "readStep", "()Z"⟩, prog_5_method_6_code, 4, (some .boolean), 3, 0, false)
def hbm19 : hbMt := (⟨"HandBook$Reader", "readTarget", "(I)I"⟩, prog_5_method_7_code, 2, (some .int), 3, 1, false)
def hbm20 : hbMt := (⟨"HandBook$Reader", "readCond", "()I"⟩, prog_5_method_8_code, 5, (some .int), 3, 0, false)
def hbm21 : hbMt := (⟨"HandBook$Reader", "condSaid", "()I"⟩, prog_5_method_9_code, 1, (some .int), 3, 0, false)
def hbm22 : hbMt := (⟨"HandBook$Reader", "actSaid", "()I"⟩, prog_5_method_10_code, 1, (some .int), 3, 0, false)
def hbm23 : hbMt := (⟨"HandBook$Reader", "readNumber", "(I)I"⟩, prog_5_method_11_code, 3, (some .int), 3, 1, false)
def hbm24 : hbMt := (⟨"HandBook$Reader", "readLineEnd", "()Z"⟩, prog_5_method_12_code, 1, (some .boolean), 3, 0, false)
def hbm25 : hbMt := (⟨"HandBook$Reader", "refuse", "(I)Z"⟩, prog_5_method_13_code, 2, (some .boolean), 3, 1, false)
def hbm26 : hbMt := (⟨"HandBook$Reader", "nextToken", "()V"⟩, prog_5_method_14_code, 1, none, 3, 0, false)
def hbm27 : hbMt := (⟨"HandBook$Rows", "begin", "()V"⟩, prog_6_method_2_code, 1, none, 4, 0, false)
def hbm28 : hbMt := (⟨"HandBook$Rows", "enter", "(II)Z"⟩, prog_6_method_3_code, 6, (some .boolean), 4, 2, false)
def hbm29 : hbMt := (⟨"HandBook$Sheet", "lay", "(II)V"⟩, prog_7_method_2_code, 3, none, 5, 2, false)
def hbm30 : hbMt := (⟨"HandBook$Sheet", "has", "(II)Z"⟩, prog_7_method_3_code, 3, (some .boolean), 5, 2, false)
def hbm31 : hbMt := (⟨"HandBook$Sheet", "cut", "(I)I"⟩, prog_7_method_4_code, 2, (some .int), 5, 1, false)
def hbm32 : hbMt := (⟨"HandBook$Steps", "has", "(I)Z"⟩, prog_8_method_2_code, 2, (some .boolean), 6, 1, false)
def hbm33 : hbMt := (⟨"HandBook$Steps", "isDeed", "(I)Z"⟩, prog_8_method_3_code, 2, (some .boolean), 6, 1, false)
def hbm34 : hbMt := (⟨"HandBook$Steps", "draftStep", "(III)V"⟩, prog_8_method_4_code, 4, none, 6, 3, false)
def hbm35 : hbMt := (⟨"HandBook$Steps", "kindOf", "(I)I"⟩, prog_8_method_5_code, 2, (some .int), 6, 1, false)
def hbm36 : hbMt := (⟨"HandBook$Steps", "isOfKind", "(II)Z"⟩, prog_8_method_6_code, 4, (some .boolean), 6, 2, false)
def hbm37 : hbMt := (⟨"HandBook$Steps", "goingTo", "(I)I"⟩, prog_8_method_7_code, 4, (some .int), 6, 1, false)
def hbm38 : hbMt := (⟨"HandBook$Steps", "answer", "(II)I"⟩, prog_8_method_8_code, 3, (some .int), 6, 2, false)
def hbm39 : hbMt := (⟨"HandBook$Steps", "sizeBody", "(I)I"⟩, prog_8_method_9_code, 2, (some .int), 6, 1, false)
def hbm40 : hbMt := (⟨"HandBook$Steps", "markBody", "(I)I"⟩, prog_8_method_10_code, 2, (some .int), 6, 1, false)
def hbm41 : hbMt := (⟨"HandBook$Steps", "begin", "(III)I"⟩, prog_8_method_11_code, 5, (some .int), 6, 3, false)
def hbm42 : hbMt := (⟨"HandBook$Steps", "leave", "(I)V"⟩, prog_8_method_12_code, 2, none, 6, 1, false)
def hbm43 : hbMt := (⟨"HandBook$Tape", "take", "(JI)Z"⟩, prog_9_method_2_code, 5, (some .boolean), 7, 2, false)
def hbm44 : hbMt := (⟨"HandBook$Tape", "split", "()V"⟩, prog_9_method_3_code, 4, none, 7, 0, false)
def hbm45 : hbMt := (⟨"HandBook$Tape", "endOfToken", "(I)I"⟩, prog_9_method_4_code, 5, (some .int), 7, 1, false)
def hbm46 : hbMt := (⟨"HandBook$Tape", "codeOf", "(II)I"⟩, prog_9_method_5_code, 5, (some .int), 7, 2, false)
def hbm47 : hbMt := (⟨"HandBook$Tape", "wordOf", "(II)I"⟩, prog_9_method_6_code, 7, (some .int), 7, 2, false)
def hbm48 : hbMt := (⟨"HandBook$Tape", "isLetter", "(I)Z"⟩, prog_9_method_7_code, 1, (some .boolean), 7, 1, true)
def hbm49 : hbMt := (⟨"HandBook$Tape", "isFigure", "(I)Z"⟩, prog_9_method_8_code, 1, (some .boolean), 7, 1, true)
def hbm50 : hbMt := (⟨"HandBook$Through", "explore", "(III)I"⟩, prog_10_method_2_code, 11, (some .int), 8, 3, false)
def hbm51 : hbMt := (⟨"HandBook$Through", "begin", "(I)V"⟩, prog_10_method_3_code, 2, none, 8, 1, false)
def hbm52 : hbMt := (⟨"HandBook$Through", "put", "([IIII)I"⟩, prog_10_method_4_code, 5, (some .int), 8, 4, false)
def hbm53 : hbMt := (⟨"HandBook$Through", "goOnFromAll", "([III)I"⟩, prog_10_method_5_code, 7, (some .int), 8, 3, false)
def hbm54 : hbMt := (⟨"HandBook$Through", "slipFromAll", "([II[II)I"⟩, prog_10_method_6_code, 8, (some .int), 8, 4, false)
def hbm55 : hbMt := (⟨"HandBook$Through", "isOver", "()Z"⟩, prog_10_method_7_code, 1, (some .boolean), 8, 0, false)
def hbm56 : hbMt := (⟨"HandBook$Through", "endIn", "(I)V"⟩, prog_10_method_8_code, 2, none, 8, 1, false)
def hbm57 : hbMt := (⟨"HandBook$Through", "fateFrom", "(I)I"⟩, prog_10_method_9_code, 5, (some .int), 8, 1, false)
def hbm58 : hbMt := (⟨"HandBook$Through", "fateAt", "(I)I"⟩, prog_10_method_10_code, 3, (some .int), 8, 1, false)
def hbm59 : hbMt := (⟨"HandBook$Through", "setFate", "(II)V"⟩, prog_10_method_11_code, 3, none, 8, 2, false)
def hbm60 : hbMt := (⟨"HandBook$Through", "leastBars", "(I)I"⟩, prog_10_method_12_code, 7, (some .int), 8, 1, false)
def hbm61 : hbMt := (⟨"HandBook$Through", "canCome", "(I)Z"⟩, prog_10_method_13_code, 2, (some .boolean), 8, 1, false)
def hbm62 : hbMt := (⟨"HandBook$Through", "isSafe", "(II)Z"⟩, prog_10_method_14_code, 5, (some .boolean), 8, 2, false)
def hbm63 : hbMt := (⟨"HandBook$Walks", "walk", "(I)V"⟩, prog_11_method_2_code, 6, none, 9, 1, false)
def hbm64 : hbMt := (⟨"HandBook$Walks", "firstUnlike", "(III)I"⟩, prog_11_method_3_code, 7, (some .int), 9, 3, false)
def hbm65 : hbMt := (⟨"HandBook$Walks", "toNextTick", "(III)I"⟩, prog_11_method_4_code, 9, (some .int), 9, 3, false)
def hbm66 : hbMt := (⟨"HandBook$Walks", "seekGood", "(I)V"⟩, prog_11_method_5_code, 4, none, 9, 1, false)
def hbm67 : hbMt := (⟨"HandBook$Walks", "doDeeds", "(II)I"⟩, prog_11_method_6_code, 7, (some .int), 9, 2, false)
def hbm68 : hbMt := (⟨"HandBook$Walks", "behindDeed", "(II)I"⟩, prog_11_method_7_code, 4, (some .int), 9, 2, false)
def hbm69 : hbMt := (⟨"HandBook$Works", "condOf", "(III)I"⟩, prog_12_method_2_code, 3, (some .int), 10, 3, true)
def hbm70 : hbMt := (⟨"HandBook$Works", "holds", "(II)Z"⟩, prog_12_method_3_code, 4, (some .boolean), 10, 2, true)
def hbm71 : hbMt := (⟨"HandBook$Works", "behindDeed", "(IIZ)I"⟩, prog_12_method_4_code, 6, (some .int), 10, 3, false)
def hbm72 : hbMt := (⟨"HandBook$Works", "draftFlow", "(III)V"⟩, prog_12_method_5_code, 4, none, 10, 3, false)
def hbm73 : hbMt := (⟨"HandBook$Works", "beginDraft", "()V"⟩, prog_12_method_6_code, 1, none, 10, 0, false)
def hbm74 : hbMt := (⟨"HandBook$Works", "keepDraft", "()V"⟩, prog_12_method_7_code, 1, none, 10, 0, false)
def hbm75 : hbMt := (⟨"HandBook$Works", "tellStates", "()V"⟩, prog_12_method_8_code, 8, none, 10, 0, false)
def hbm76 : hbMt := (⟨"HandBook$Works", "riseOf", "(II)I"⟩, prog_12_method_9_code, 5, (some .int), 10, 2, false)
def hbm77 : hbMt := (⟨"HandBook$Works", "within", "(I)I"⟩, prog_12_method_10_code, 1, (some .int), 10, 1, true)
def hbm78 : hbMt := (⟨"HandBook", "sheet", "(III)I"⟩, prog_1_method_2_code, 4, (some .int), 11, 3, false)
def hbm79 : hbMt := (⟨"HandBook", "set", "(III)I"⟩, prog_1_method_3_code, 5, (some .int), 11, 3, false)
def hbm80 : hbMt := (⟨"HandBook", "copy", "(IIIII)I"⟩, prog_1_method_4_code, 8, (some .int), 11, 5, false)
def hbm81 : hbMt := (⟨"HandBook", "drop", "(I)I"⟩, prog_1_method_5_code, 3, (some .int), 11, 1, false)
def hbm82 : hbMt := (⟨"HandBook", "feed", "(JI)I"⟩, prog_1_method_6_code, 4, (some .int), 11, 2, false)
def hbm83 : hbMt := (⟨"HandBook", "book", "()I"⟩, prog_1_method_7_code, 1, (some .int), 11, 0, false)
def hbm84 : hbMt := (⟨"HandBook", "fault", "()I"⟩, prog_1_method_8_code, 1, (some .int), 11, 0, false)
def hbm85 : hbMt := (⟨"HandBook", "like", "(II)I"⟩, prog_1_method_9_code, 3, (some .int), 11, 2, false)
def hbm86 : hbMt := (⟨"HandBook", "price", "(II)I"⟩, prog_1_method_10_code, 4, (some .int), 11, 2, false)
def hbm87 : hbMt := (⟨"HandBook", "bar", "(III)I"⟩, prog_1_method_11_code, 6, (some .int), 11, 3, false)
def hbm88 : hbMt := (⟨"HandBook", "tick", "(I)I"⟩, prog_1_method_12_code, 2, (some .int), 11, 1, false)
def hbm89 : hbMt := (⟨"HandBook", "judge", "(II)I"⟩, prog_1_method_13_code, 3, (some .int), 11, 2, false)
def hbm90 : hbMt := (⟨"HandBook", "days", "(III)I"⟩, prog_1_method_14_code, 7, (some .int), 11, 3, false)
def hbm91 : hbMt := (⟨"HandBook", "on", "(II)I"⟩, prog_1_method_15_code, 3, (some .int), 11, 2, false)
def hbm92 : hbMt := (⟨"HandBook", "slip", "(III)I"⟩, prog_1_method_16_code, 4, (some .int), 11, 3, false)
def hbm93 : hbMt := (⟨"HandBook", "run", "(II)I"⟩, prog_1_method_17_code, 3, (some .int), 11, 2, false)
def hbm94 : hbMt := (⟨"HandBook", "through", "(III)I"⟩, prog_1_method_18_code, 4, (some .int), 11, 3, false)
def hbm95 : hbMt := (⟨"HandBook", "cheapest", "(II)I"⟩, prog_1_method_19_code, 3, (some .int), 11, 2, false)
def hbm96 : hbMt := (⟨"HandBook", "back", "(II)I"⟩, prog_1_method_20_code, 3, (some .int), 11, 2, false)
def hbm97 : hbMt := (⟨"HandBook", "shows", "(III)I"⟩, prog_1_method_21_code, 4, (some .int), 11, 3, false)
def hbm98 : hbMt := (⟨"HandBook", "fewest", "(II)I"⟩, prog_1_method_22_code, 4, (some .int), 11, 2, false)
def hbm99 : hbMt := (⟨"HandBook", "kind", "(I)I"⟩, prog_1_method_23_code, 2, (some .int), 11, 1, false)
def hbm100 : hbMt := (⟨"HandBook", "as", "(II)I"⟩, prog_1_method_24_code, 3, (some .int), 11, 2, false)
def hbm101 : hbMt := (⟨"HandBook", "ask", "(II)I"⟩, prog_1_method_25_code, 3, (some .int), 11, 2, false)
def hbm102 : hbMt := (⟨"HandBook", "trace", "(I)I"⟩, prog_1_method_26_code, 2, (some .int), 11, 1, false)
def hbm103 : hbMt := (⟨"HandBook", "count", "(I)I"⟩, prog_1_method_27_code, 2, (some .int), 11, 1, false)
def hbm104 : hbMt := (⟨"HandBook", "status", "()I"⟩, prog_1_method_28_code, 1, (some .int), 11, 0, false)
def hbm105 : hbMt := (⟨"HandBook", "found", "(I)I"⟩, prog_1_method_29_code, 2, (some .int), 11, 1, false)
def hbm106 : hbMt := (⟨"HandBook", "fine", "(I)I"⟩, prog_1_method_30_code, 2, (some .int), 11, 1, false)
def hbm107 : hbMt := (⟨"HandBook", "sheetsThere", "()I"⟩, prog_1_method_31_code, 3, (some .int), 11, 0, false)
def hbm108 : hbMt := (⟨"HandBook", "isSheet", "(I)Z"⟩, prog_1_method_32_code, 1, (some .boolean), 11, 1, true)
def hbm109 : hbMt := (⟨"HandBook", "isState", "(I)Z"⟩, prog_1_method_33_code, 1, (some .boolean), 11, 1, true)
def hbm110 : hbMt := (⟨"HandBook", "isBelow", "(II)Z"⟩, prog_1_method_34_code, 2, (some .boolean), 11, 2, true)
def hbm111 : hbMt := (⟨"HandBook", "asNumber", "(Z)I"⟩, prog_1_method_35_code, 1, (some .int), 11, 1, true)
def hbm112 : hbMt := (⟨"HandBookModel", "in", "(JJJ)Z"⟩, prog_14_method_3_code, 6, (some .boolean), 12, 3, true)
def hbm113 : hbMt := (⟨"HandBookModel", "finding", "(I)I"⟩, prog_14_method_4_code, 2, (some .int), 12, 1, false)
def hbm114 : hbMt := (⟨"HandBookModel", "isSheet", "(I)Z"⟩, prog_14_method_5_code, 1, (some .boolean), 12, 1, true)
def hbm115 : hbMt := (⟨"HandBookModel", "sheet", "(III)I"⟩, prog_14_method_6_code, 5, (some .int), 12, 3, false)
def hbm116 : hbMt := (⟨"HandBookModel", "set", "(III)I"⟩, prog_14_method_7_code, 4, (some .int), 12, 3, false)
def hbm117 : hbMt := (⟨"HandBookModel", "copy", "(IIIII)I"⟩, prog_14_method_8_code, 9, (some .int), 12, 5, false)
def hbm118 : hbMt := (⟨"HandBookModel", "drop", "(I)I"⟩, prog_14_method_9_code, 2, (some .int), 12, 1, false)
def hbm119 : hbMt := (⟨"HandBookModel", "feed", "(JI)I"⟩, prog_14_method_10_code, 5, (some .int), 12, 2, false)
def hbm120 : hbMt := (⟨"HandBookModel", "byteAt", "(I)I"⟩, prog_14_method_11_code, 2, (some .int), 12, 1, false)
def hbm121 : hbMt := (⟨"HandBookModel", "isLetter", "(I)Z"⟩, prog_14_method_12_code, 1, (some .boolean), 12, 1, true)
def hbm122 : hbMt := (⟨"HandBookModel", "isFigure", "(I)Z"⟩, prog_14_method_13_code, 1, (some .boolean), 12, 1, true)
def hbm123 : hbMt := (⟨"HandBookModel", "next", "()V"⟩, prog_14_method_14_code, 2, none, 12, 0, false)
def hbm124 : hbMt := (⟨"HandBookModel", "bad", "(I)V"⟩, prog_14_method_15_code, 2, none, 12, 1, false)
def hbm125 : hbMt := (⟨"HandBookModel", "must", "(Z)V"⟩, prog_14_method_16_code, 2, none, 12, 1, false)
def hbm126 : hbMt := (⟨"HandBookModel", "word", "()J"⟩, prog_14_method_17_code, 4, (some .long), 12, 0, false)
def hbm127 : hbMt := (⟨"HandBookModel", "numberTo", "(I)I"⟩, prog_14_method_18_code, 4, (some .int), 12, 1, false)
def hbm128 : hbMt := (⟨"HandBookModel", "whatOfWord", "()I"⟩, prog_14_method_19_code, 3, (some .int), 12, 0, false)
def hbm129 : hbMt := (⟨"HandBookModel", "readCond", "(I)V"⟩, prog_14_method_20_code, 5, none, 12, 1, false)
def hbm130 : hbMt := (⟨"HandBookModel", "readLine", "(I)V"⟩, prog_14_method_21_code, 3, none, 12, 1, false)
def hbm131 : hbMt := (⟨"HandBookModel", "readStep", "()V"⟩, prog_14_method_22_code, 2, none, 12, 0, false)
def hbm132 : hbMt := (⟨"HandBookModel", "readOne", "()V"⟩, prog_14_method_23_code, 3, none, 12, 0, false)
def hbm133 : hbMt := (⟨"HandBookModel", "book", "()I"⟩, prog_14_method_24_code, 1, (some .int), 12, 0, false)
def hbm134 : hbMt := (⟨"HandBookModel", "fault", "()I"⟩, prog_14_method_25_code, 1, (some .int), 12, 0, false)
def hbm135 : hbMt := (⟨"HandBookModel", "isValve", "(I)Z"⟩, prog_14_method_26_code, 1, (some .boolean), 12, 1, true)
def hbm136 : hbMt := (⟨"HandBookModel", "isState", "(I)Z"⟩, prog_14_method_27_code, 1, (some .boolean), 12, 1, true)
def hbm137 : hbMt := (⟨"HandBookModel", "isSlip", "(I)Z"⟩, prog_14_method_28_code, 1, (some .boolean), 12, 1, true)
def hbm138 : hbMt := (⟨"HandBookModel", "like", "(II)I"⟩, prog_14_method_29_code, 3, (some .int), 12, 2, false)
def hbm139 : hbMt := (⟨"HandBookModel", "price", "(II)I"⟩, prog_14_method_30_code, 4, (some .int), 12, 2, false)
def hbm140 : hbMt := (⟨"HandBookModel", "bar", "(III)I"⟩, prog_14_method_31_code, 5, (some .int), 12, 3, false)
def hbm141 : hbMt := (⟨"HandBookModel", "heightOf", "(II)I"⟩, prog_14_method_32_code, 2, (some .int), 12, 2, true)
def hbm142 : hbMt := (⟨"HandBookModel", "tickOf", "(I)I"⟩, prog_14_method_33_code, 6, (some .int), 12, 1, false)
def hbm143 : hbMt := (⟨"HandBookModel", "tick", "(I)I"⟩, prog_14_method_34_code, 2, (some .int), 12, 1, false)
def hbm144 : hbMt := (⟨"HandBookModel", "holds", "(II)Z"⟩, prog_14_method_35_code, 4, (some .boolean), 12, 2, false)
def hbm145 : hbMt := (⟨"HandBookModel", "holdsLine", "(II)Z"⟩, prog_14_method_36_code, 5, (some .boolean), 12, 2, false)
def hbm146 : hbMt := (⟨"HandBookModel", "isBadState", "(I)Z"⟩, prog_14_method_37_code, 4, (some .boolean), 12, 1, false)
def hbm147 : hbMt := (⟨"HandBookModel", "isGoodState", "(I)Z"⟩, prog_14_method_38_code, 4, (some .boolean), 12, 1, false)
def hbm148 : hbMt := (⟨"HandBookModel", "judge", "(II)I"⟩, prog_14_method_39_code, 3, (some .int), 12, 2, false)
def hbm149 : hbMt := (⟨"HandBookModel", "days", "(III)I"⟩, prog_14_method_40_code, 6, (some .int), 12, 3, false)
def hbm150 : hbMt := (⟨"HandBookModel", "doneTo", "(IIZ)I"⟩, prog_14_method_41_code, 6, (some .int), 12, 3, false)
def hbm151 : hbMt := (⟨"HandBookModel", "endsAt", "(I)Z"⟩, prog_14_method_42_code, 2, (some .boolean), 12, 1, false)
def hbm152 : hbMt := (⟨"HandBookModel", "onFrom", "(I)I"⟩, prog_14_method_43_code, 5, (some .int), 12, 1, false)
def hbm153 : hbMt := (⟨"HandBookModel", "slipFrom", "(II)I"⟩, prog_14_method_44_code, 8, (some .int), 12, 2, false)
def hbm154 : hbMt := (⟨"HandBookModel", "isPlace", "(II)Z"⟩, prog_14_method_45_code, 2, (some .boolean), 12, 2, true)
def hbm155 : hbMt := (⟨"HandBookModel", "on", "(II)I"⟩, prog_14_method_46_code, 3, (some .int), 12, 2, false)
def hbm156 : hbMt := (⟨"HandBookModel", "slip", "(III)I"⟩, prog_14_method_47_code, 4, (some .int), 12, 3, false)
def hbm157 : hbMt := (⟨"HandBookModel", "takesTick", "(I)Z"⟩, prog_14_method_48_code, 3, (some .boolean), 12, 1, false)
def hbm158 : hbMt := (⟨"HandBookModel", "run", "(II)I"⟩, prog_14_method_49_code, 7, (some .int), 12, 2, false)
def hbm159 : hbMt := (⟨"HandBookModel", "come", "(I)V"⟩, prog_14_method_50_code, 2, none, 12, 1, false)
def hbm160 : hbMt := (⟨"HandBookModel", "goThrough", "(II)V"⟩, prog_14_method_51_code, 9, none, 12, 2, false)
def hbm161 : hbMt := (⟨"HandBookModel", "comesToBad", "()Z"⟩, prog_14_method_52_code, 3, (some .boolean), 12, 0, false)
def hbm162 : hbMt := (⟨"HandBookModel", "neverEndsFrom", "(I)Z"⟩, prog_14_method_53_code, 5, (some .boolean), 12, 1, false)
def hbm163 : hbMt := (⟨"HandBookModel", "through", "(III)I"⟩, prog_14_method_54_code, 8, (some .int), 12, 3, false)
def hbm164 : hbMt := (⟨"HandBookModel", "offer", "(II)V"⟩, prog_14_method_55_code, 3, none, 12, 2, false)
def hbm165 : hbMt := (⟨"HandBookModel", "cheapest", "(II)I"⟩, prog_14_method_56_code, 9, (some .int), 12, 2, false)
def hbm166 : hbMt := (⟨"HandBookModel", "deed", "(II)I"⟩, prog_14_method_57_code, 3, (some .int), 12, 2, false)
def hbm167 : hbMt := (⟨"HandBookModel", "back", "(II)I"⟩, prog_14_method_58_code, 7, (some .int), 12, 2, false)
def hbm168 : hbMt := (⟨"HandBookModel", "goRun", "(III[I)V"⟩, prog_14_method_59_code, 11, none, 12, 4, false)
def hbm169 : hbMt := (⟨"HandBookModel", "shows", "(III)I"⟩, prog_14_method_60_code, 5, (some .int), 12, 3, false)
def hbm170 : hbMt := (⟨"HandBookModel", "isSafeWith", "(II)Z"⟩, prog_14_method_61_code, 5, (some .boolean), 12, 2, false)
def hbm171 : hbMt := (⟨"HandBookModel", "barBit", "(I)I"⟩, prog_14_method_62_code, 1, (some .int), 12, 1, true)
def hbm172 : hbMt := (⟨"HandBookModel", "isNewBar", "(I)Z"⟩, prog_14_method_63_code, 2, (some .boolean), 12, 1, false)
def hbm173 : hbMt := (⟨"HandBookModel", "fewest", "(II)I"⟩, prog_14_method_64_code, 5, (some .int), 12, 2, false)
def hbm174 : hbMt := (⟨"HandBookModel", "isStep", "(I)Z"⟩, prog_14_method_65_code, 2, (some .boolean), 12, 1, false)
def hbm175 : hbMt := (⟨"HandBookModel", "kindOf", "(I)I"⟩, prog_14_method_66_code, 2, (some .int), 12, 1, false)
def hbm176 : hbMt := (⟨"HandBookModel", "isOf", "(II)Z"⟩, prog_14_method_67_code, 2, (some .boolean), 12, 2, true)
def hbm177 : hbMt := (⟨"HandBookModel", "kind", "(I)I"⟩, prog_14_method_68_code, 2, (some .int), 12, 1, false)
def hbm178 : hbMt := (⟨"HandBookModel", "as", "(II)I"⟩, prog_14_method_69_code, 3, (some .int), 12, 2, false)
def hbm179 : hbMt := (⟨"HandBookModel", "began", "(I)V"⟩, prog_14_method_70_code, 2, none, 12, 1, false)
def hbm180 : hbMt := (⟨"HandBookModel", "goTo", "(I)I"⟩, prog_14_method_71_code, 4, (some .int), 12, 1, false)
def hbm181 : hbMt := (⟨"HandBookModel", "waitSize", "(I)I"⟩, prog_14_method_72_code, 2, (some .int), 12, 1, false)
def hbm182 : hbMt := (⟨"HandBookModel", "markOf", "(II)I"⟩, prog_14_method_73_code, 3, (some .int), 12, 2, false)
def hbm183 : hbMt := (⟨"HandBookModel", "sizeOf", "(II)I"⟩, prog_14_method_74_code, 5, (some .int), 12, 2, false)
def hbm184 : hbMt := (⟨"HandBookModel", "ask", "(II)I"⟩, prog_14_method_75_code, 3, (some .int), 12, 2, false)
def hbm185 : hbMt := (⟨"HandBookModel", "trace", "(I)I"⟩, prog_14_method_76_code, 2, (some .int), 12, 1, false)
def hbm186 : hbMt := (⟨"HandBookModel", "count", "(I)I"⟩, prog_14_method_77_code, 4, (some .int), 12, 1, false)
def hbm187 : hbMt := (⟨"HandBookModel", "status", "()I"⟩, prog_14_method_78_code, 1, (some .int), 12, 0, false)
def hbm188 : hbMt := (⟨"java/lang/Integer", "bitCount", "(I)I"⟩, prog_15_method_49_code, 1, (some .int), 13, 1, true)
def hbm189 : hbMt := (⟨"java/lang/Math", "max", "(II)I"⟩, prog_16_method_65_code, 2, (some .int), 14, 2, true)
def hbm190 : hbMt := (⟨"java/lang/Math", "min", "(II)I"⟩, prog_16_method_69_code, 2, (some .int), 14, 2, true)
def hbm191 : hbMt := (⟨"java/lang/String", "length", "()I"⟩, prog_17_method_54_code, 1, (some .int), 15, 0, false)
def hbm192 : hbMt := (⟨"java/lang/String", "charAt", "(I)C"⟩, prog_17_method_56_code, 2, (some .char), 15, 1, false)
def hbm193 : hbMt := (⟨"java/lang/String", "coder", "()B"⟩, prog_17_method_152_code, 1, (some .byte), 15, 0, false)
def hbm194 : hbMt := (⟨"java/lang/String", "isLatin1", "()Z"⟩, prog_17_method_154_code, 1, (some .boolean), 15, 0, false)
def hbm195 : hbMt := (⟨"java/lang/String", "checkIndex", "(II)V"⟩, prog_17_method_155_code, 2, none, 15, 2, true)
def hbm196 : hbMt := (⟨"java/lang/StringLatin1", "charAt", "([BI)C"⟩, prog_18_method_2_code, 2, (some .char), 16, 2, true)
def hbm197 : hbMt := (⟨"java/util/Arrays", "fill", "([II)V"⟩, prog_21_method_103_code, 4, none, 17, 2, true)
def hbm198 : hbMt := (⟨"jdk/internal/util/Preconditions", "checkIndex", "(IILjava/util/function/BiFunction;)I"⟩, prog_22_method_11_code, 3, (some .int), 18, 3, true)
def hbMs : List hbMt := [hbm0, hbm1, hbm2, hbm3, hbm4, hbm5, hbm6, hbm7, hbm8, hbm9, hbm10, hbm11, hbm12, hbm13, hbm14, hbm15, hbm16, hbm17, hbm18, hbm19, hbm20, hbm21, hbm22, hbm23, hbm24, hbm25, hbm26, hbm27, hbm28, hbm29, hbm30, hbm31, hbm32, hbm33, hbm34, hbm35, hbm36, hbm37, hbm38, hbm39, hbm40, hbm41, hbm42, hbm43, hbm44, hbm45, hbm46, hbm47, hbm48, hbm49, hbm50, hbm51, hbm52, hbm53, hbm54, hbm55, hbm56, hbm57, hbm58, hbm59, hbm60, hbm61, hbm62, hbm63, hbm64, hbm65, hbm66, hbm67, hbm68, hbm69, hbm70, hbm71, hbm72, hbm73, hbm74, hbm75, hbm76, hbm77, hbm78, hbm79, hbm80, hbm81, hbm82, hbm83, hbm84, hbm85, hbm86, hbm87, hbm88, hbm89, hbm90, hbm91, hbm92, hbm93, hbm94, hbm95, hbm96, hbm97, hbm98, hbm99, hbm100, hbm101, hbm102, hbm103, hbm104, hbm105, hbm106, hbm107, hbm108, hbm109, hbm110, hbm111, hbm112, hbm113, hbm114, hbm115, hbm116, hbm117, hbm118, hbm119, hbm120, hbm121, hbm122, hbm123, hbm124, hbm125, hbm126, hbm127, hbm128, hbm129, hbm130, hbm131, hbm132, hbm133, hbm134, hbm135, hbm136, hbm137, hbm138, hbm139, hbm140, hbm141, hbm142, hbm143, hbm144, hbm145, hbm146, hbm147, hbm148, hbm149, hbm150, hbm151, hbm152, hbm153, hbm154, hbm155, hbm156, hbm157, hbm158, hbm159, hbm160, hbm161, hbm162, hbm163, hbm164, hbm165, hbm166, hbm167, hbm168, hbm169, hbm170, hbm171, hbm172, hbm173, hbm174, hbm175, hbm176, hbm177, hbm178, hbm179, hbm180, hbm181, hbm182, hbm183, hbm184, hbm185, hbm186, hbm187, hbm188, hbm189, hbm190, hbm191, hbm192, hbm193, hbm194, hbm195, hbm196, hbm197, hbm198, hbm41, hbm41, hbm41, hbm41, hbm41, hbm41, hbm41, hbm41]
def hbLs : List Nat := [5, 4, 3, 3, 2, 2, 1, 1, 2, 2, 2, 1, 2, 2, 8, 5, 3, 4, 4, 3, 3, 1, 1, 2, 2, 1, 1, 1, 1, 2, 1, 1, 1, 1, 1, 1, 2, 1, 12, 2, 2, 11, 1, 1, 7, 2, 6, 5, 1, 1, 4, 2, 2, 3, 3, 1, 2, 3, 1, 1, 6, 1, 5, 3, 4, 3, 4, 3, 2, 1, 1, 1, 1, 1, 4, 3, 1, 2, 3, 3, 3, 3, 2, 9, 1, 2, 2, 2, 3, 3, 3, 3, 3, 4, 5, 6, 5, 5, 7, 2, 3, 13, 2, 3, 1, 1, 1, 2, 2, 2, 1, 1, 1, 1, 2, 3, 3, 3, 3, 2, 1, 1, 1, 2, 1, 3, 1, 4, 2, 5, 6, 6, 7, 8, 1, 2, 2, 2, 3, 3, 3, 1, 2, 3, 2, 3, 4, 5, 6, 5, 3, 1, 4, 4, 3, 5, 5, 3, 5, 1, 5, 5, 5, 6, 1, 5, 4, 6, 5, 6, 6, 1, 1, 7, 2, 1, 1, 3, 3, 1, 2, 3, 4, 5, 6, 2, 1, 1, 1, 1, 1, 2, 4, 1, 1, 2, 3, 1, 1, 10, 9, 8, 7, 6, 5, 4, 3]
abbrev hbR : Type := Instr × Nat × Nat × Nat × Nat × Int32 × Int64
def hbk0 : List (Nat × hbR) := [(0, .aload_n 0, 1, 0, 0, 0, 0, 0),
  (1, .ldc 40, 2, 0, 0, 0, (-1000000), 0),
  (3, .putfield 41, 3, 0, 2, 0, 0, 0),
  (6, .aload_n 0, 1, 0, 0, 0, 0, 0),
  (7, .ldc 40, 2, 0, 0, 0, (-1000000), 0),
  (9, .putfield 45, 3, 0, 3, 0, 0, 0),
  (12, .aload_n 0, 1, 0, 0, 0, 0, 0),
  (13, .getfield 15, 3, 0, 1, 0, 0, 0),
  (16, .invokevirtual 48, 3, 27, 0, 0, 0, 0),
  (19, .aload_n 0, 1, 0, 0, 0, 0, 0),
  (20, .iconst 0, 1, 0, 0, 0, 0, 0),
  (21, .putfield 51, 3, 0, 7, 0, 0, 0),
  (24, .aload_n 0, 1, 0, 0, 0, 0, 0),
  (25, .iload_n 1, 1, 1, 0, 0, 0, 0),
  (26, .iconst 0, 1, 0, 0, 0, 0, 0),
  (27, .invokevirtual 54, 3, 2, 2, 0, 0, 0),
  (30, .iconst 0, 1, 0, 0, 0, 0, 0),
  (31, .istore_n 2, 1, 2, 0, 0, 0, 0),
  (32, .iload_n 2, 1, 2, 0, 0, 0, 0),
  (33, .sipush 17408, 3, 0, 0, 0, 17408, 0),
  (36, .if_icmp .ge 99, 3, 135, 0, 0, 0, 0),
  (39, .aload_n 0, 1, 0, 0, 0, 0, 0),
  (40, .getfield 51, 3, 0, 7, 0, 0, 0),
  (43, .ifCond .le 92, 3, 135, 0, 0, 0, 0),
  (46, .aload_n 0, 1, 0, 0, 0, 0, 0),
  (47, .getfield 41, 3, 0, 2, 0, 0, 0),
  (50, .ldc 40, 2, 0, 0, 0, (-1000000), 0),
  (52, .if_icmp .ne 83, 3, 135, 0, 0, 0, 0),
  (55, .aload_n 0, 1, 0, 0, 0, 0, 0),
  (56, .invokevirtual 58, 3, 3, 0, 0, 0, 0),
  (59, .istore_n 3, 1, 3, 0, 0, 0, 0),
  (60, .aload_n 0, 1, 0, 0, 0, 0, 0),
  (61, .getfield 37, 3, 0, 6, 0, 0, 0),
  (64, .iload_n 3, 1, 3, 0, 0, 0, 0),
  (65, .iaload, 1, 0, 0, 0, 0, 0),
  (66, .istore 4, 2, 4, 0, 0, 0, 0),
  (68, .aload_n 0, 1, 0, 0, 0, 0, 0),
  (69, .getfield 9, 3, 0, 0, 0, 0, 0),
  (72, .getfield 62, 3, 1, 0, 0, 0, 0),
  (75, .getfield 68, 3, 10, 6, 0, 0, 0),
  (78, .iload_n 3, 1, 3, 0, 0, 0, 0),
  (79, .sipush 1024, 3, 0, 0, 0, 1024, 0),
  (82, .irem, 1, 0, 0, 0, 0, 0),
  (83, .baload, 1, 0, 0, 0, 0, 0),
  (84, .ifCond .eq 38, 3, 122, 0, 0, 0, 0),
  (87, .aload_n 0, 1, 0, 0, 0, 0, 0),
  (88, .iload 4, 2, 4, 0, 0, 0, 0),
  (90, .sipush 128, 3, 0, 0, 0, 128, 0),
  (93, .idiv, 1, 0, 0, 0, 0, 0),
  (94, .putfield 41, 3, 0, 2, 0, 0, 0),
  (97, .aload_n 0, 1, 0, 0, 0, 0, 0),
  (98, .iload 4, 2, 4, 0, 0, 0, 0),
  (100, .ifCond .ne 8, 3, 108, 0, 0, 0, 0),
  (103, .ldc 40, 2, 0, 0, 0, (-1000000), 0),
  (105, .goto 11, 3, 116, 0, 0, 0, 0),
  (108, .iload 4, 2, 4, 0, 0, 0, 0),
  (110, .sipush 128, 3, 0, 0, 0, 128, 0),
  (113, .irem, 1, 0, 0, 0, 0, 0),
  (114, .iconst 1, 1, 0, 0, 0, 1, 0),
  (115, .isub, 1, 0, 0, 0, 0, 0),
  (116, .putfield 45, 3, 0, 3, 0, 0, 0),
  (119, .goto 10, 3, 129, 0, 0, 0, 0),
  (122, .aload_n 0, 1, 0, 0, 0, 0, 0),
  (123, .iload_n 3, 1, 3, 0, 0, 0, 0),
  (124, .iload 4, 2, 4, 0, 0, 0, 0),
  (126, .invokevirtual 74, 3, 1, 2, 0, 0, 0),
  (129, .iinc 2 1, 3, 2, 0, 0, 1, 0),
  (132, .goto (-100), 3, 32, 0, 0, 0, 0),
  (135, .return_, 1, 0, 0, 0, 0, 0)]
def hbk1 : List (Nat × hbR) := [(0, .aload_n 0, 1, 0, 0, 0, 0, 0),
  (1, .aload_n 0, 1, 0, 0, 0, 0, 0),
  (2, .getfield 9, 3, 0, 0, 0, 0, 0),
  (5, .iload_n 1, 1, 1, 0, 0, 0, 0),
  (6, .invokevirtual 77, 3, 8, 1, 0, 0, 0),
  (9, .iload_n 2, 1, 2, 0, 0, 0, 0),
  (10, .invokevirtual 54, 3, 2, 2, 0, 0, 0),
  (13, .iconst 0, 1, 0, 0, 0, 0, 0),
  (14, .istore_n 3, 1, 3, 0, 0, 0, 0),
  (15, .iload_n 3, 1, 3, 0, 0, 0, 0),
  (16, .iconst 4, 1, 0, 0, 0, 4, 0),
  (17, .if_icmp .ge 65, 3, 82, 0, 0, 0, 0),
  (20, .iload_n 2, 1, 2, 0, 0, 0, 0),
  (21, .aload_n 0, 1, 0, 0, 0, 0, 0),
  (22, .getfield 9, 3, 0, 0, 0, 0, 0),
  (25, .getfield 81, 3, 1, 3, 0, 0, 0),
  (28, .iload_n 3, 1, 3, 0, 0, 0, 0),
  (29, .iaload, 1, 0, 0, 0, 0, 0),
  (30, .sipush 128, 3, 0, 0, 0, 128, 0),
  (33, .imul, 1, 0, 0, 0, 0, 0),
  (34, .iadd, 1, 0, 0, 0, 0, 0),
  (35, .istore 4, 2, 4, 0, 0, 0, 0),
  (37, .iload_n 2, 1, 2, 0, 0, 0, 0),
  (38, .ifCond .ne 17, 3, 55, 0, 0, 0, 0),
  (41, .iconst 4, 1, 0, 0, 0, 4, 0),
  (42, .iload_n 1, 1, 1, 0, 0, 0, 0),
  (43, .sipush 1024, 3, 0, 0, 0, 1024, 0),
  (46, .idiv, 1, 0, 0, 0, 0, 0),
  (47, .imul, 1, 0, 0, 0, 0, 0),
  (48, .iload_n 3, 1, 3, 0, 0, 0, 0),
  (49, .iadd, 1, 0, 0, 0, 0, 0),
  (50, .iconst 1, 1, 0, 0, 0, 1, 0),
  (51, .iadd, 1, 0, 0, 0, 0, 0),
  (52, .goto 4, 3, 56, 0, 0, 0, 0),
  (55, .iconst 0, 1, 0, 0, 0, 0, 0),
  (56, .istore 5, 2, 5, 0, 0, 0, 0),
  (58, .aload_n 0, 1, 0, 0, 0, 0, 0),
  (59, .aload_n 0, 1, 0, 0, 0, 0, 0),
  (60, .getfield 9, 3, 0, 0, 0, 0, 0),
  (63, .iload_n 1, 1, 1, 0, 0, 0, 0),
  (64, .iload_n 3, 1, 3, 0, 0, 0, 0),
  (65, .invokevirtual 84, 3, 10, 2, 0, 0, 0),
  (68, .iload 4, 2, 4, 0, 0, 0, 0),
  (70, .iload 5, 2, 5, 0, 0, 0, 0),
  (72, .iadd, 1, 0, 0, 0, 0, 0),
  (73, .invokevirtual 54, 3, 2, 2, 0, 0, 0),
  (76, .iinc 3 1, 3, 3, 0, 0, 1, 0),
  (79, .goto (-64), 3, 15, 0, 0, 0, 0),
  (82, .return_, 1, 0, 0, 0, 0, 0)]
def hbk2 : List (Nat × hbR) := [(0, .iload_n 1, 1, 1, 0, 0, 0, 0),
  (1, .ldc 40, 2, 0, 0, 0, (-1000000), 0),
  (3, .if_icmp .ne 4, 3, 7, 0, 0, 0, 0),
  (6, .return_, 1, 0, 0, 0, 0, 0),
  (7, .aload_n 0, 1, 0, 0, 0, 0, 0),
  (8, .getfield 15, 3, 0, 1, 0, 0, 0),
  (11, .iload_n 1, 1, 1, 0, 0, 0, 0),
  (12, .iconst 0, 1, 0, 0, 0, 0, 0),
  (13, .invokevirtual 88, 3, 28, 2, 0, 0, 0),
  (16, .ifCond .eq 34, 3, 50, 0, 0, 0, 0),
  (19, .aload_n 0, 1, 0, 0, 0, 0, 0),
  (20, .getfield 37, 3, 0, 6, 0, 0, 0),
  (23, .iload_n 1, 1, 1, 0, 0, 0, 0),
  (24, .iload_n 2, 1, 2, 0, 0, 0, 0),
  (25, .iastore, 1, 0, 0, 0, 0, 0),
  (26, .aload_n 0, 1, 0, 0, 0, 0, 0),
  (27, .dup, 1, 0, 0, 0, 0, 0),
  (28, .getfield 51, 3, 0, 7, 0, 0, 0),
  (31, .iconst 1, 1, 0, 0, 0, 1, 0),
  (32, .iadd, 1, 0, 0, 0, 0, 0),
  (33, .putfield 51, 3, 0, 7, 0, 0, 0),
  (36, .aload_n 0, 1, 0, 0, 0, 0, 0),
  (37, .aload_n 0, 1, 0, 0, 0, 0, 0),
  (38, .getfield 51, 3, 0, 7, 0, 0, 0),
  (41, .iconst 1, 1, 0, 0, 0, 1, 0),
  (42, .isub, 1, 0, 0, 0, 0, 0),
  (43, .iload_n 1, 1, 1, 0, 0, 0, 0),
  (44, .invokevirtual 92, 3, 4, 2, 0, 0, 0),
  (47, .goto 41, 3, 88, 0, 0, 0, 0),
  (50, .aload_n 0, 1, 0, 0, 0, 0, 0),
  (51, .getfield 31, 3, 0, 5, 0, 0, 0),
  (54, .iload_n 1, 1, 1, 0, 0, 0, 0),
  (55, .iaload, 1, 0, 0, 0, 0, 0),
  (56, .iconst (-1), 1, 0, 0, 0, (-1), 0),
  (57, .if_icmp .eq 31, 3, 88, 0, 0, 0, 0),
  (60, .iload_n 2, 1, 2, 0, 0, 0, 0),
  (61, .aload_n 0, 1, 0, 0, 0, 0, 0),
  (62, .getfield 37, 3, 0, 6, 0, 0, 0),
  (65, .iload_n 1, 1, 1, 0, 0, 0, 0),
  (66, .iaload, 1, 0, 0, 0, 0, 0),
  (67, .if_icmp .ge 21, 3, 88, 0, 0, 0, 0),
  (70, .aload_n 0, 1, 0, 0, 0, 0, 0),
  (71, .getfield 37, 3, 0, 6, 0, 0, 0),
  (74, .iload_n 1, 1, 1, 0, 0, 0, 0),
  (75, .iload_n 2, 1, 2, 0, 0, 0, 0),
  (76, .iastore, 1, 0, 0, 0, 0, 0),
  (77, .aload_n 0, 1, 0, 0, 0, 0, 0),
  (78, .aload_n 0, 1, 0, 0, 0, 0, 0),
  (79, .getfield 31, 3, 0, 5, 0, 0, 0),
  (82, .iload_n 1, 1, 1, 0, 0, 0, 0),
  (83, .iaload, 1, 0, 0, 0, 0, 0),
  (84, .iload_n 1, 1, 1, 0, 0, 0, 0),
  (85, .invokevirtual 92, 3, 4, 2, 0, 0, 0),
  (88, .return_, 1, 0, 0, 0, 0, 0)]
def hbk3 : List (Nat × hbR) := [(0, .aload_n 0, 1, 0, 0, 0, 0, 0),
  (1, .getfield 25, 3, 0, 4, 0, 0, 0),
  (4, .iconst 0, 1, 0, 0, 0, 0, 0),
  (5, .iaload, 1, 0, 0, 0, 0, 0),
  (6, .istore_n 1, 1, 1, 0, 0, 0, 0),
  (7, .aload_n 0, 1, 0, 0, 0, 0, 0),
  (8, .getfield 31, 3, 0, 5, 0, 0, 0),
  (11, .iload_n 1, 1, 1, 0, 0, 0, 0),
  (12, .iconst (-1), 1, 0, 0, 0, (-1), 0),
  (13, .iastore, 1, 0, 0, 0, 0, 0),
  (14, .aload_n 0, 1, 0, 0, 0, 0, 0),
  (15, .dup, 1, 0, 0, 0, 0, 0),
  (16, .getfield 51, 3, 0, 7, 0, 0, 0),
  (19, .iconst 1, 1, 0, 0, 0, 1, 0),
  (20, .isub, 1, 0, 0, 0, 0, 0),
  (21, .putfield 51, 3, 0, 7, 0, 0, 0),
  (24, .aload_n 0, 1, 0, 0, 0, 0, 0),
  (25, .getfield 51, 3, 0, 7, 0, 0, 0),
  (28, .ifCond .le 16, 3, 44, 0, 0, 0, 0),
  (31, .aload_n 0, 1, 0, 0, 0, 0, 0),
  (32, .aload_n 0, 1, 0, 0, 0, 0, 0),
  (33, .getfield 25, 3, 0, 4, 0, 0, 0),
  (36, .aload_n 0, 1, 0, 0, 0, 0, 0),
  (37, .getfield 51, 3, 0, 7, 0, 0, 0),
  (40, .iaload, 1, 0, 0, 0, 0, 0),
  (41, .invokevirtual 95, 3, 5, 1, 0, 0, 0),
  (44, .iload_n 1, 1, 1, 0, 0, 0, 0),
  (45, .ireturn, 1, 0, 0, 0, 0, 0)]
def hbk4 : List (Nat × hbR) := [(0, .iload_n 1, 1, 1, 0, 0, 0, 0),
  (1, .istore_n 3, 1, 3, 0, 0, 0, 0),
  (2, .iload_n 3, 1, 3, 0, 0, 0, 0),
  (3, .ifCond .le 51, 3, 54, 0, 0, 0, 0),
  (6, .aload_n 0, 1, 0, 0, 0, 0, 0),
  (7, .getfield 37, 3, 0, 6, 0, 0, 0),
  (10, .aload_n 0, 1, 0, 0, 0, 0, 0),
  (11, .getfield 25, 3, 0, 4, 0, 0, 0),
  (14, .iload_n 3, 1, 3, 0, 0, 0, 0),
  (15, .iconst 1, 1, 0, 0, 0, 1, 0),
  (16, .isub, 1, 0, 0, 0, 0, 0),
  (17, .iconst 2, 1, 0, 0, 0, 2, 0),
  (18, .idiv, 1, 0, 0, 0, 0, 0),
  (19, .iaload, 1, 0, 0, 0, 0, 0),
  (20, .iaload, 1, 0, 0, 0, 0, 0),
  (21, .aload_n 0, 1, 0, 0, 0, 0, 0),
  (22, .getfield 37, 3, 0, 6, 0, 0, 0),
  (25, .iload_n 2, 1, 2, 0, 0, 0, 0),
  (26, .iaload, 1, 0, 0, 0, 0, 0),
  (27, .if_icmp .le 27, 3, 54, 0, 0, 0, 0),
  (30, .aload_n 0, 1, 0, 0, 0, 0, 0),
  (31, .aload_n 0, 1, 0, 0, 0, 0, 0),
  (32, .getfield 25, 3, 0, 4, 0, 0, 0),
  (35, .iload_n 3, 1, 3, 0, 0, 0, 0),
  (36, .iconst 1, 1, 0, 0, 0, 1, 0),
  (37, .isub, 1, 0, 0, 0, 0, 0),
  (38, .iconst 2, 1, 0, 0, 0, 2, 0),
  (39, .idiv, 1, 0, 0, 0, 0, 0),
  (40, .iaload, 1, 0, 0, 0, 0, 0),
  (41, .iload_n 3, 1, 3, 0, 0, 0, 0),
  (42, .invokevirtual 99, 3, 7, 2, 0, 0, 0),
  (45, .iload_n 3, 1, 3, 0, 0, 0, 0),
  (46, .iconst 1, 1, 0, 0, 0, 1, 0),
  (47, .isub, 1, 0, 0, 0, 0, 0),
  (48, .iconst 2, 1, 0, 0, 0, 2, 0),
  (49, .idiv, 1, 0, 0, 0, 0, 0),
  (50, .istore_n 3, 1, 3, 0, 0, 0, 0),
  (51, .goto (-49), 3, 2, 0, 0, 0, 0),
  (54, .aload_n 0, 1, 0, 0, 0, 0, 0),
  (55, .iload_n 2, 1, 2, 0, 0, 0, 0),
  (56, .iload_n 3, 1, 3, 0, 0, 0, 0),
  (57, .invokevirtual 99, 3, 7, 2, 0, 0, 0),
  (60, .return_, 1, 0, 0, 0, 0, 0)]
def hbk5 : List (Nat × hbR) := [(0, .iconst 0, 1, 0, 0, 0, 0, 0),
  (1, .istore_n 2, 1, 2, 0, 0, 0, 0),
  (2, .aload_n 0, 1, 0, 0, 0, 0, 0),
  (3, .iload_n 2, 1, 2, 0, 0, 0, 0),
  (4, .invokevirtual 102, 3, 6, 1, 0, 0, 0),
  (7, .istore_n 3, 1, 3, 0, 0, 0, 0),
  (8, .iload_n 3, 1, 3, 0, 0, 0, 0),
  (9, .aload_n 0, 1, 0, 0, 0, 0, 0),
  (10, .getfield 51, 3, 0, 7, 0, 0, 0),
  (13, .if_icmp .ge 45, 3, 58, 0, 0, 0, 0),
  (16, .aload_n 0, 1, 0, 0, 0, 0, 0),
  (17, .getfield 37, 3, 0, 6, 0, 0, 0),
  (20, .aload_n 0, 1, 0, 0, 0, 0, 0),
  (21, .getfield 25, 3, 0, 4, 0, 0, 0),
  (24, .iload_n 3, 1, 3, 0, 0, 0, 0),
  (25, .iaload, 1, 0, 0, 0, 0, 0),
  (26, .iaload, 1, 0, 0, 0, 0, 0),
  (27, .aload_n 0, 1, 0, 0, 0, 0, 0),
  (28, .getfield 37, 3, 0, 6, 0, 0, 0),
  (31, .iload_n 1, 1, 1, 0, 0, 0, 0),
  (32, .iaload, 1, 0, 0, 0, 0, 0),
  (33, .if_icmp .ge 25, 3, 58, 0, 0, 0, 0),
  (36, .aload_n 0, 1, 0, 0, 0, 0, 0),
  (37, .aload_n 0, 1, 0, 0, 0, 0, 0),
  (38, .getfield 25, 3, 0, 4, 0, 0, 0),
  (41, .iload_n 3, 1, 3, 0, 0, 0, 0),
  (42, .iaload, 1, 0, 0, 0, 0, 0),
  (43, .iload_n 2, 1, 2, 0, 0, 0, 0),
  (44, .invokevirtual 99, 3, 7, 2, 0, 0, 0),
  (47, .iload_n 3, 1, 3, 0, 0, 0, 0),
  (48, .istore_n 2, 1, 2, 0, 0, 0, 0),
  (49, .aload_n 0, 1, 0, 0, 0, 0, 0),
  (50, .iload_n 2, 1, 2, 0, 0, 0, 0),
  (51, .invokevirtual 102, 3, 6, 1, 0, 0, 0),
  (54, .istore_n 3, 1, 3, 0, 0, 0, 0),
  (55, .goto (-47), 3, 8, 0, 0, 0, 0),
  (58, .aload_n 0, 1, 0, 0, 0, 0, 0),
  (59, .iload_n 1, 1, 1, 0, 0, 0, 0),
  (60, .iload_n 2, 1, 2, 0, 0, 0, 0),
  (61, .invokevirtual 99, 3, 7, 2, 0, 0, 0),
  (64, .return_, 1, 0, 0, 0, 0, 0)]
def hbk6 : List (Nat × hbR) := [(0, .iconst 2, 1, 0, 0, 0, 2, 0),
  (1, .iload_n 1, 1, 1, 0, 0, 0, 0),
  (2, .imul, 1, 0, 0, 0, 0, 0),
  (3, .iconst 1, 1, 0, 0, 0, 1, 0),
  (4, .iadd, 1, 0, 0, 0, 0, 0),
  (5, .istore_n 2, 1, 2, 0, 0, 0, 0),
  (6, .iload_n 2, 1, 2, 0, 0, 0, 0),
  (7, .iconst 1, 1, 0, 0, 0, 1, 0),
  (8, .iadd, 1, 0, 0, 0, 0, 0),
  (9, .aload_n 0, 1, 0, 0, 0, 0, 0),
  (10, .getfield 51, 3, 0, 7, 0, 0, 0),
  (13, .if_icmp .ge 34, 3, 47, 0, 0, 0, 0),
  (16, .aload_n 0, 1, 0, 0, 0, 0, 0),
  (17, .getfield 37, 3, 0, 6, 0, 0, 0),
  (20, .aload_n 0, 1, 0, 0, 0, 0, 0),
  (21, .getfield 25, 3, 0, 4, 0, 0, 0),
  (24, .iload_n 2, 1, 2, 0, 0, 0, 0),
  (25, .iconst 1, 1, 0, 0, 0, 1, 0),
  (26, .iadd, 1, 0, 0, 0, 0, 0),
  (27, .iaload, 1, 0, 0, 0, 0, 0),
  (28, .iaload, 1, 0, 0, 0, 0, 0),
  (29, .aload_n 0, 1, 0, 0, 0, 0, 0),
  (30, .getfield 37, 3, 0, 6, 0, 0, 0),
  (33, .aload_n 0, 1, 0, 0, 0, 0, 0),
  (34, .getfield 25, 3, 0, 4, 0, 0, 0),
  (37, .iload_n 2, 1, 2, 0, 0, 0, 0),
  (38, .iaload, 1, 0, 0, 0, 0, 0),
  (39, .iaload, 1, 0, 0, 0, 0, 0),
  (40, .if_icmp .ge 7, 3, 47, 0, 0, 0, 0),
  (43, .iconst 1, 1, 0, 0, 0, 1, 0),
  (44, .goto 4, 3, 48, 0, 0, 0, 0),
  (47, .iconst 0, 1, 0, 0, 0, 0, 0),
  (48, .istore_n 3, 1, 3, 0, 0, 0, 0),
  (49, .iload_n 3, 1, 3, 0, 0, 0, 0),
  (50, .ifCond .eq 9, 3, 59, 0, 0, 0, 0),
  (53, .iload_n 2, 1, 2, 0, 0, 0, 0),
  (54, .iconst 1, 1, 0, 0, 0, 1, 0),
  (55, .iadd, 1, 0, 0, 0, 0, 0),
  (56, .goto 4, 3, 60, 0, 0, 0, 0),
  (59, .iload_n 2, 1, 2, 0, 0, 0, 0),
  (60, .ireturn, 1, 0, 0, 0, 0, 0)]
def hbk7 : List (Nat × hbR) := [(0, .aload_n 0, 1, 0, 0, 0, 0, 0),
  (1, .getfield 25, 3, 0, 4, 0, 0, 0),
  (4, .iload_n 2, 1, 2, 0, 0, 0, 0),
  (5, .iload_n 1, 1, 1, 0, 0, 0, 0),
  (6, .iastore, 1, 0, 0, 0, 0, 0),
  (7, .aload_n 0, 1, 0, 0, 0, 0, 0),
  (8, .getfield 31, 3, 0, 5, 0, 0, 0),
  (11, .iload_n 1, 1, 1, 0, 0, 0, 0),
  (12, .iload_n 2, 1, 2, 0, 0, 0, 0),
  (13, .iastore, 1, 0, 0, 0, 0, 0),
  (14, .return_, 1, 0, 0, 0, 0, 0)]
def hbk8 : List (Nat × hbR) := [(0, .iload_n 1, 1, 1, 0, 0, 0, 0),
  (1, .sipush 1024, 3, 0, 0, 0, 1024, 0),
  (4, .idiv, 1, 0, 0, 0, 0, 0),
  (5, .istore_n 2, 1, 2, 0, 0, 0, 0),
  (6, .iload_n 1, 1, 1, 0, 0, 0, 0),
  (7, .sipush 1024, 3, 0, 0, 0, 1024, 0),
  (10, .irem, 1, 0, 0, 0, 0, 0),
  (11, .istore_n 3, 1, 3, 0, 0, 0, 0),
  (12, .aload_n 0, 1, 0, 0, 0, 0, 0),
  (13, .getfield 23, 3, 1, 1, 0, 0, 0),
  (16, .iload_n 2, 1, 2, 0, 0, 0, 0),
  (17, .invokevirtual 27, 3, 32, 1, 0, 0, 0),
  (20, .ifCond .ne 6, 3, 26, 0, 0, 0, 0),
  (23, .ldc 9, 2, 0, 0, 0, (-1000000), 0),
  (25, .ireturn, 1, 0, 0, 0, 0, 0),
  (26, .iload_n 1, 1, 1, 0, 0, 0, 0),
  (27, .sipush 1024, 3, 0, 0, 0, 1024, 0),
  (30, .iadd, 1, 0, 0, 0, 0, 0),
  (31, .istore 4, 2, 4, 0, 0, 0, 0),
  (33, .aload_n 0, 1, 0, 0, 0, 0, 0),
  (34, .getfield 23, 3, 1, 1, 0, 0, 0),
  (37, .getfield 33, 3, 6, 1, 0, 0, 0),
  (40, .iload_n 2, 1, 2, 0, 0, 0, 0),
  (41, .iaload, 1, 0, 0, 0, 0, 0),
  (42, .istore 5, 2, 5, 0, 0, 0, 0),
  (44, .aload_n 0, 1, 0, 0, 0, 0, 0),
  (45, .getfield 23, 3, 1, 1, 0, 0, 0),
  (48, .getfield 36, 3, 6, 2, 0, 0, 0),
  (51, .iload_n 2, 1, 2, 0, 0, 0, 0),
  (52, .iaload, 1, 0, 0, 0, 0, 0),
  (53, .iload_n 3, 1, 3, 0, 0, 0, 0),
  (54, .invokestatic 39, 3, 70, 2, 0, 0, 0),
  (57, .istore 6, 2, 6, 0, 0, 0, 0),
  (59, .aload_n 0, 1, 0, 0, 0, 0, 0),
  (60, .getfield 23, 3, 1, 1, 0, 0, 0),
  (63, .getfield 45, 3, 6, 0, 0, 0, 0),
  (66, .iload_n 2, 1, 2, 0, 0, 0, 0),
  (67, .iaload, 1, 0, 0, 0, 0, 0),
  (68, .tableswitch 122 0 4 #[36, 53, 70, 94, 113], 36, 0, 0, 0, 0, 0),
  (104, .iload 4, 2, 4, 0, 0, 0, 0),
  (106, .iload_n 3, 1, 3, 0, 0, 0, 0),
  (107, .isub, 1, 0, 0, 0, 0, 0),
  (108, .aload_n 0, 1, 0, 0, 0, 0, 0),
  (109, .getfield 19, 3, 1, 0, 0, 0, 0),
  (112, .iload_n 3, 1, 3, 0, 0, 0, 0),
  (113, .iload 5, 2, 5, 0, 0, 0, 0),
  (115, .iconst 1, 1, 0, 0, 0, 1, 0),
  (116, .invokevirtual 48, 3, 71, 3, 0, 0, 0),
  (119, .iadd, 1, 0, 0, 0, 0, 0),
  (120, .ireturn, 1, 0, 0, 0, 0, 0),
  (121, .iload 4, 2, 4, 0, 0, 0, 0),
  (123, .iload_n 3, 1, 3, 0, 0, 0, 0),
  (124, .isub, 1, 0, 0, 0, 0, 0),
  (125, .aload_n 0, 1, 0, 0, 0, 0, 0),
  (126, .getfield 19, 3, 1, 0, 0, 0, 0),
  (129, .iload_n 3, 1, 3, 0, 0, 0, 0),
  (130, .iload 5, 2, 5, 0, 0, 0, 0),
  (132, .iconst 0, 1, 0, 0, 0, 0, 0),
  (133, .invokevirtual 48, 3, 71, 3, 0, 0, 0),
  (136, .iadd, 1, 0, 0, 0, 0, 0),
  (137, .ireturn, 1, 0, 0, 0, 0, 0),
  (138, .iload 6, 2, 6, 0, 0, 0, 0),
  (140, .ifCond .eq 8, 3, 148, 0, 0, 0, 0),
  (143, .iload 4, 2, 4, 0, 0, 0, 0),
  (145, .goto 16, 3, 161, 0, 0, 0, 0),
  (148, .iload_n 1, 1, 1, 0, 0, 0, 0),
  (149, .iload_n 3, 1, 3, 0, 0, 0, 0),
  (150, .isub, 1, 0, 0, 0, 0, 0),
  (151, .aload_n 0, 1, 0, 0, 0, 0, 0),
  (152, .getfield 19, 3, 1, 0, 0, 0, 0),
  (155, .getfield 52, 3, 10, 5, 0, 0, 0),
  (158, .iload_n 3, 1, 3, 0, 0, 0, 0),
  (159, .iaload, 1, 0, 0, 0, 0, 0),
  (160, .iadd, 1, 0, 0, 0, 0, 0),
  (161, .ireturn, 1, 0, 0, 0, 0, 0),
  (162, .iload 6, 2, 6, 0, 0, 0, 0),
  (164, .ifCond .eq 14, 3, 178, 0, 0, 0, 0),
  (167, .iload 5, 2, 5, 0, 0, 0, 0),
  (169, .sipush 1024, 3, 0, 0, 0, 1024, 0),
  (172, .imul, 1, 0, 0, 0, 0, 0),
  (173, .iload_n 3, 1, 3, 0, 0, 0, 0),
  (174, .iadd, 1, 0, 0, 0, 0, 0),
  (175, .goto 5, 3, 180, 0, 0, 0, 0),
  (178, .iload 4, 2, 4, 0, 0, 0, 0),
  (180, .ireturn, 1, 0, 0, 0, 0, 0),
  (181, .iload 5, 2, 5, 0, 0, 0, 0),
  (183, .sipush 1024, 3, 0, 0, 0, 1024, 0),
  (186, .imul, 1, 0, 0, 0, 0, 0),
  (187, .iload_n 3, 1, 3, 0, 0, 0, 0),
  (188, .iadd, 1, 0, 0, 0, 0, 0),
  (189, .ireturn, 1, 0, 0, 0, 0, 0),
  (190, .ldc 9, 2, 0, 0, 0, (-1000000), 0),
  (192, .ireturn, 1, 0, 0, 0, 0, 0)]
def hbk9 : List (Nat × hbR) := [(0, .iload_n 1, 1, 1, 0, 0, 0, 0),
  (1, .sipush 1024, 3, 0, 0, 0, 1024, 0),
  (4, .idiv, 1, 0, 0, 0, 0, 0),
  (5, .istore_n 2, 1, 2, 0, 0, 0, 0),
  (6, .aload_n 0, 1, 0, 0, 0, 0, 0),
  (7, .getfield 23, 3, 1, 1, 0, 0, 0),
  (10, .iload_n 2, 1, 2, 0, 0, 0, 0),
  (11, .invokevirtual 27, 3, 32, 1, 0, 0, 0),
  (14, .ifCond .ne 5, 3, 19, 0, 0, 0, 0),
  (17, .iconst 0, 1, 0, 0, 0, 0, 0),
  (18, .ireturn, 1, 0, 0, 1, 0, 0),
  (19, .aload_n 0, 1, 0, 0, 0, 0, 0),
  (20, .getfield 23, 3, 1, 1, 0, 0, 0),
  (23, .getfield 45, 3, 6, 0, 0, 0, 0),
  (26, .iload_n 2, 1, 2, 0, 0, 0, 0),
  (27, .iaload, 1, 0, 0, 0, 0, 0),
  (28, .iconst 2, 1, 0, 0, 0, 2, 0),
  (29, .if_icmp .ne 7, 3, 36, 0, 0, 0, 0),
  (32, .iconst 1, 1, 0, 0, 0, 1, 0),
  (33, .goto 4, 3, 37, 0, 0, 0, 0),
  (36, .iconst 0, 1, 0, 0, 0, 0, 0),
  (37, .istore_n 3, 1, 3, 0, 0, 0, 0),
  (38, .aload_n 0, 1, 0, 0, 0, 0, 0),
  (39, .getfield 23, 3, 1, 1, 0, 0, 0),
  (42, .iload_n 2, 1, 2, 0, 0, 0, 0),
  (43, .invokevirtual 55, 3, 33, 1, 0, 0, 0),
  (46, .ifCond .ne 27, 3, 73, 0, 0, 0, 0),
  (49, .iload_n 3, 1, 3, 0, 0, 0, 0),
  (50, .ifCond .eq 27, 3, 77, 0, 0, 0, 0),
  (53, .aload_n 0, 1, 0, 0, 0, 0, 0),
  (54, .getfield 23, 3, 1, 1, 0, 0, 0),
  (57, .getfield 36, 3, 6, 2, 0, 0, 0),
  (60, .iload_n 2, 1, 2, 0, 0, 0, 0),
  (61, .iaload, 1, 0, 0, 0, 0, 0),
  (62, .iload_n 1, 1, 1, 0, 0, 0, 0),
  (63, .sipush 1024, 3, 0, 0, 0, 1024, 0),
  (66, .irem, 1, 0, 0, 0, 0, 0),
  (67, .invokestatic 39, 3, 70, 2, 0, 0, 0),
  (70, .ifCond .ne 7, 3, 77, 0, 0, 0, 0),
  (73, .iconst 1, 1, 0, 0, 0, 1, 0),
  (74, .goto 4, 3, 78, 0, 0, 0, 0),
  (77, .iconst 0, 1, 0, 0, 0, 0, 0),
  (78, .ireturn, 1, 0, 0, 1, 0, 0)]
def hbk10 : List (Nat × hbR) := [(0, .iload_n 1, 1, 1, 0, 0, 0, 0),
  (1, .sipush 1024, 3, 0, 0, 0, 1024, 0),
  (4, .idiv, 1, 0, 0, 0, 0, 0),
  (5, .istore_n 3, 1, 3, 0, 0, 0, 0),
  (6, .iload_n 1, 1, 1, 0, 0, 0, 0),
  (7, .sipush 1024, 3, 0, 0, 0, 1024, 0),
  (10, .irem, 1, 0, 0, 0, 0, 0),
  (11, .istore 4, 2, 4, 0, 0, 0, 0),
  (13, .aload_n 0, 1, 0, 0, 0, 0, 0),
  (14, .getfield 23, 3, 1, 1, 0, 0, 0),
  (17, .iload_n 3, 1, 3, 0, 0, 0, 0),
  (18, .invokevirtual 27, 3, 32, 1, 0, 0, 0),
  (21, .ifCond .ne 6, 3, 27, 0, 0, 0, 0),
  (24, .ldc 9, 2, 0, 0, 0, (-1000000), 0),
  (26, .ireturn, 1, 0, 0, 0, 0, 0),
  (27, .aload_n 0, 1, 0, 0, 0, 0, 0),
  (28, .getfield 23, 3, 1, 1, 0, 0, 0),
  (31, .iload_n 3, 1, 3, 0, 0, 0, 0),
  (32, .invokevirtual 55, 3, 33, 1, 0, 0, 0),
  (35, .istore 5, 2, 5, 0, 0, 0, 0),
  (37, .aload_n 0, 1, 0, 0, 0, 0, 0),
  (38, .getfield 23, 3, 1, 1, 0, 0, 0),
  (41, .getfield 45, 3, 6, 0, 0, 0, 0),
  (44, .iload_n 3, 1, 3, 0, 0, 0, 0),
  (45, .iaload, 1, 0, 0, 0, 0, 0),
  (46, .iconst 2, 1, 0, 0, 0, 2, 0),
  (47, .if_icmp .ne 7, 3, 54, 0, 0, 0, 0),
  (50, .iconst 1, 1, 0, 0, 0, 1, 0),
  (51, .goto 4, 3, 55, 0, 0, 0, 0),
  (54, .iconst 0, 1, 0, 0, 0, 0, 0),
  (55, .istore 6, 2, 6, 0, 0, 0, 0),
  (57, .iload 5, 2, 5, 0, 0, 0, 0),
  (59, .ifCond .ne 11, 3, 70, 0, 0, 0, 0),
  (62, .iload 6, 2, 6, 0, 0, 0, 0),
  (64, .ifCond .ne 6, 3, 70, 0, 0, 0, 0),
  (67, .ldc 9, 2, 0, 0, 0, (-1000000), 0),
  (69, .ireturn, 1, 0, 0, 0, 0, 0),
  (70, .iload_n 1, 1, 1, 0, 0, 0, 0),
  (71, .sipush 1024, 3, 0, 0, 0, 1024, 0),
  (74, .iadd, 1, 0, 0, 0, 0, 0),
  (75, .istore 7, 2, 7, 0, 0, 0, 0),
  (77, .iload 5, 2, 5, 0, 0, 0, 0),
  (79, .ifCond .eq 20, 3, 99, 0, 0, 0, 0),
  (82, .aload_n 0, 1, 0, 0, 0, 0, 0),
  (83, .getfield 10, 3, 1, 2, 0, 0, 0),
  (86, .aload_n 0, 1, 0, 0, 0, 0, 0),
  (87, .getfield 23, 3, 1, 1, 0, 0, 0),
  (90, .getfield 33, 3, 6, 1, 0, 0, 0),
  (93, .iload_n 3, 1, 3, 0, 0, 0, 0),
  (94, .iaload, 1, 0, 0, 0, 0, 0),
  (95, .iaload, 1, 0, 0, 0, 0, 0),
  (96, .goto 5, 3, 101, 0, 0, 0, 0),
  (99, .ldc 9, 2, 0, 0, 0, (-1000000), 0),
  (101, .istore 8, 2, 8, 0, 0, 0, 0),
  (103, .aload_n 0, 1, 0, 0, 0, 0, 0),
  (104, .getfield 23, 3, 1, 1, 0, 0, 0),
  (107, .getfield 45, 3, 6, 0, 0, 0, 0),
  (110, .iload_n 3, 1, 3, 0, 0, 0, 0),
  (111, .iaload, 1, 0, 0, 0, 0, 0),
  (112, .ifCond .ne 7, 3, 119, 0, 0, 0, 0),
  (115, .iconst 1, 1, 0, 0, 0, 1, 0),
  (116, .goto 4, 3, 120, 0, 0, 0, 0),
  (119, .iconst 0, 1, 0, 0, 0, 0, 0),
  (120, .istore 9, 2, 9, 0, 0, 0, 0),
  (122, .iload 6, 2, 6, 0, 0, 0, 0),
  (124, .ifCond .eq 24, 3, 148, 0, 0, 0, 0),
  (127, .aload_n 0, 1, 0, 0, 0, 0, 0),
  (128, .getfield 23, 3, 1, 1, 0, 0, 0),
  (131, .getfield 36, 3, 6, 2, 0, 0, 0),
  (134, .iload_n 3, 1, 3, 0, 0, 0, 0),
  (135, .iaload, 1, 0, 0, 0, 0, 0),
  (136, .iload 4, 2, 4, 0, 0, 0, 0),
  (138, .invokestatic 39, 3, 70, 2, 0, 0, 0),
  (141, .ifCond .ne 7, 3, 148, 0, 0, 0, 0),
  (144, .iconst 1, 1, 0, 0, 0, 1, 0),
  (145, .goto 4, 3, 149, 0, 0, 0, 0),
  (148, .iconst 0, 1, 0, 0, 0, 0, 0),
  (149, .istore 10, 2, 10, 0, 0, 0, 0),
  (151, .iload_n 2, 1, 2, 0, 0, 0, 0),
  (152, .tableswitch 90 0 2 #[28, 31, 63], 28, 0, 0, 0, 0, 0),
  (180, .iload 7, 2, 7, 0, 0, 0, 0),
  (182, .ireturn, 1, 0, 0, 0, 0, 0),
  (183, .iload 8, 2, 8, 0, 0, 0, 0),
  (185, .ldc 9, 2, 0, 0, 0, (-1000000), 0),
  (187, .if_icmp .ne 8, 3, 195, 0, 0, 0, 0),
  (190, .ldc 9, 2, 0, 0, 0, (-1000000), 0),
  (192, .goto 22, 3, 214, 0, 0, 0, 0),
  (195, .iload 7, 2, 7, 0, 0, 0, 0),
  (197, .iload 4, 2, 4, 0, 0, 0, 0),
  (199, .isub, 1, 0, 0, 0, 0, 0),
  (200, .aload_n 0, 1, 0, 0, 0, 0, 0),
  (201, .getfield 19, 3, 1, 0, 0, 0, 0),
  (204, .iload 4, 2, 4, 0, 0, 0, 0),
  (206, .iload 8, 2, 8, 0, 0, 0, 0),
  (208, .iload 9, 2, 9, 0, 0, 0, 0),
  (210, .invokevirtual 48, 3, 71, 3, 0, 0, 0),
  (213, .iadd, 1, 0, 0, 0, 0, 0),
  (214, .ireturn, 1, 0, 0, 0, 0, 0),
  (215, .iload 10, 2, 10, 0, 0, 0, 0),
  (217, .ifCond .eq 22, 3, 239, 0, 0, 0, 0),
  (220, .iload 7, 2, 7, 0, 0, 0, 0),
  (222, .iload 4, 2, 4, 0, 0, 0, 0),
  (224, .isub, 1, 0, 0, 0, 0, 0),
  (225, .aload_n 0, 1, 0, 0, 0, 0, 0),
  (226, .getfield 19, 3, 1, 0, 0, 0, 0),
  (229, .getfield 52, 3, 10, 5, 0, 0, 0),
  (232, .iload 4, 2, 4, 0, 0, 0, 0),
  (234, .iaload, 1, 0, 0, 0, 0, 0),
  (235, .iadd, 1, 0, 0, 0, 0, 0),
  (236, .goto 5, 3, 241, 0, 0, 0, 0),
  (239, .ldc 9, 2, 0, 0, 0, (-1000000), 0),
  (241, .ireturn, 1, 0, 0, 0, 0, 0),
  (242, .iload_n 3, 1, 3, 0, 0, 0, 0),
  (243, .ifCond .ne 8, 3, 251, 0, 0, 0, 0),
  (246, .ldc 9, 2, 0, 0, 0, (-1000000), 0),
  (248, .goto 8, 3, 256, 0, 0, 0, 0),
  (251, .iload_n 1, 1, 1, 0, 0, 0, 0),
  (252, .sipush 1024, 3, 0, 0, 0, 1024, 0),
  (255, .isub, 1, 0, 0, 0, 0, 0),
  (256, .ireturn, 1, 0, 0, 0, 0, 0)]
def hbk11 : List (Nat × hbR) := [(0, .iload_n 0, 1, 0, 0, 0, 0, 0),
  (1, .iconst 1, 1, 0, 0, 0, 1, 0),
  (2, .if_icmp .eq 8, 3, 10, 0, 0, 0, 0),
  (5, .iload_n 0, 1, 0, 0, 0, 0, 0),
  (6, .iconst 2, 1, 0, 0, 0, 2, 0),
  (7, .if_icmp .ne 7, 3, 14, 0, 0, 0, 0),
  (10, .iconst 1, 1, 0, 0, 0, 1, 0),
  (11, .goto 4, 3, 15, 0, 0, 0, 0),
  (14, .iconst 0, 1, 0, 0, 0, 0, 0),
  (15, .ireturn, 1, 0, 0, 1, 0, 0)]
def hbk12 : List (Nat × hbR) := [(0, .aload_n 0, 1, 0, 0, 0, 0, 0),
  (1, .getfield 18, 3, 2, 3, 0, 0, 0),
  (4, .iconst 4, 1, 0, 0, 0, 4, 0),
  (5, .if_icmp .ge 37, 3, 42, 0, 0, 0, 0),
  (8, .iload_n 1, 1, 1, 0, 0, 0, 0),
  (9, .iconst 3, 1, 0, 0, 0, 3, 0),
  (10, .invokestatic 22, 3, 110, 2, 1, 0, 0),
  (13, .ifCond .eq 29, 3, 42, 0, 0, 0, 0),
  (16, .aload_n 0, 1, 0, 0, 0, 0, 0),
  (17, .getfield 9, 3, 2, 0, 0, 0, 0),
  (20, .aload_n 0, 1, 0, 0, 0, 0, 0),
  (21, .getfield 18, 3, 2, 3, 0, 0, 0),
  (24, .iconst 3, 1, 0, 0, 0, 3, 0),
  (25, .imul, 1, 0, 0, 0, 0, 0),
  (26, .iload_n 1, 1, 1, 0, 0, 0, 0),
  (27, .iadd, 1, 0, 0, 0, 0, 0),
  (28, .iload_n 2, 1, 2, 0, 0, 0, 0),
  (29, .iastore, 1, 0, 0, 0, 0, 0),
  (30, .aload_n 0, 1, 0, 0, 0, 0, 0),
  (31, .getfield 15, 3, 2, 1, 0, 0, 0),
  (34, .aload_n 0, 1, 0, 0, 0, 0, 0),
  (35, .getfield 18, 3, 2, 3, 0, 0, 0),
  (38, .iload_n 1, 1, 1, 0, 0, 0, 0),
  (39, .iconst 1, 1, 0, 0, 0, 1, 0),
  (40, .iadd, 1, 0, 0, 0, 0, 0),
  (41, .iastore, 1, 0, 0, 0, 0, 0),
  (42, .return_, 1, 0, 0, 0, 0, 0)]
def hbk13 : List (Nat × hbR) := [(0, .iconst 0, 1, 0, 0, 0, 0, 0),
  (1, .istore_n 2, 1, 2, 0, 0, 0, 0),
  (2, .iconst 0, 1, 0, 0, 0, 0, 0),
  (3, .istore_n 3, 1, 3, 0, 0, 0, 0),
  (4, .iload_n 3, 1, 3, 0, 0, 0, 0),
  (5, .aload_n 0, 1, 0, 0, 0, 0, 0),
  (6, .getfield 26, 3, 2, 2, 0, 0, 0),
  (9, .if_icmp .ge 77, 3, 86, 0, 0, 0, 0),
  (12, .iload_n 3, 1, 3, 0, 0, 0, 0),
  (13, .iconst 3, 1, 0, 0, 0, 3, 0),
  (14, .imul, 1, 0, 0, 0, 0, 0),
  (15, .istore 4, 2, 4, 0, 0, 0, 0),
  (17, .iload 4, 2, 4, 0, 0, 0, 0),
  (19, .istore 5, 2, 5, 0, 0, 0, 0),
  (21, .iload 5, 2, 5, 0, 0, 0, 0),
  (23, .iload 4, 2, 4, 0, 0, 0, 0),
  (25, .aload_n 0, 1, 0, 0, 0, 0, 0),
  (26, .getfield 15, 3, 2, 1, 0, 0, 0),
  (29, .iload_n 3, 1, 3, 0, 0, 0, 0),
  (30, .iaload, 1, 0, 0, 0, 0, 0),
  (31, .iadd, 1, 0, 0, 0, 0, 0),
  (32, .if_icmp .ge 23, 3, 55, 0, 0, 0, 0),
  (35, .aload_n 0, 1, 0, 0, 0, 0, 0),
  (36, .getfield 9, 3, 2, 0, 0, 0, 0),
  (39, .iload 5, 2, 5, 0, 0, 0, 0),
  (41, .iaload, 1, 0, 0, 0, 0, 0),
  (42, .iload_n 1, 1, 1, 0, 0, 0, 0),
  (43, .invokestatic 29, 3, 70, 2, 0, 0, 0),
  (46, .ifCond .eq 9, 3, 55, 0, 0, 0, 0),
  (49, .iinc 5 1, 3, 5, 0, 0, 1, 0),
  (52, .goto (-31), 3, 21, 0, 0, 0, 0),
  (55, .iload_n 2, 1, 2, 0, 0, 0, 0),
  (56, .iload 5, 2, 5, 0, 0, 0, 0),
  (58, .iload 4, 2, 4, 0, 0, 0, 0),
  (60, .aload_n 0, 1, 0, 0, 0, 0, 0),
  (61, .getfield 15, 3, 2, 1, 0, 0, 0),
  (64, .iload_n 3, 1, 3, 0, 0, 0, 0),
  (65, .iaload, 1, 0, 0, 0, 0, 0),
  (66, .iadd, 1, 0, 0, 0, 0, 0),
  (67, .if_icmp .ne 7, 3, 74, 0, 0, 0, 0),
  (70, .iconst 1, 1, 0, 0, 0, 1, 0),
  (71, .goto 4, 3, 75, 0, 0, 0, 0),
  (74, .iconst 0, 1, 0, 0, 0, 0, 0),
  (75, .invokestatic 34, 3, 111, 1, 1, 0, 0),
  (78, .iadd, 1, 0, 0, 0, 0, 0),
  (79, .istore_n 2, 1, 2, 0, 0, 0, 0),
  (80, .iinc 3 1, 3, 3, 0, 0, 1, 0),
  (83, .goto (-79), 3, 4, 0, 0, 0, 0),
  (86, .iload_n 2, 1, 2, 0, 0, 0, 0),
  (87, .ireturn, 1, 0, 0, 0, 0, 0)]
def hbk14 : List (Nat × hbR) := [(0, .aload_n 0, 1, 0, 0, 0, 0, 0),
  (1, .getfield 9, 3, 3, 0, 0, 0, 0),
  (4, .invokevirtual 23, 3, 44, 0, 0, 0, 0),
  (7, .aload_n 0, 1, 0, 0, 0, 0, 0),
  (8, .getfield 15, 3, 3, 1, 0, 0, 0),
  (11, .invokevirtual 28, 3, 73, 0, 0, 0, 0),
  (14, .aload_n 0, 1, 0, 0, 0, 0, 0),
  (15, .getfield 19, 3, 3, 2, 0, 0, 0),
  (18, .aload_n 0, 1, 0, 0, 0, 0, 0),
  (19, .getfield 19, 3, 3, 2, 0, 0, 0),
  (22, .getfield 33, 3, 6, 4, 0, 0, 0),
  (25, .putfield 39, 3, 6, 5, 0, 0, 0),
  (28, .aload_n 0, 1, 0, 0, 0, 0, 0),
  (29, .iconst 0, 1, 0, 0, 0, 0, 0),
  (30, .putfield 42, 3, 3, 5, 0, 0, 0),
  (33, .aload_n 0, 1, 0, 0, 0, 0, 0),
  (34, .aload_n 0, 1, 0, 0, 0, 0, 0),
  (35, .getfield 9, 3, 3, 0, 0, 0, 0),
  (38, .getfield 45, 3, 7, 2, 0, 0, 0),
  (41, .iconst 0, 1, 0, 0, 0, 0, 0),
  (42, .iaload, 1, 0, 0, 0, 0, 0),
  (43, .putfield 49, 3, 3, 6, 0, 0, 0),
  (46, .iconst 1, 1, 0, 0, 0, 1, 0),
  (47, .istore_n 1, 1, 1, 0, 0, 0, 0),
  (48, .iconst 0, 1, 0, 0, 0, 0, 0),
  (49, .istore_n 2, 1, 2, 0, 0, 0, 0),
  (50, .iload_n 2, 1, 2, 0, 0, 0, 0),
  (51, .sipush 400, 3, 0, 0, 0, 400, 0),
  (54, .if_icmp .ge 27, 3, 81, 0, 0, 0, 0),
  (57, .iload_n 1, 1, 1, 0, 0, 0, 0),
  (58, .ifCond .eq 23, 3, 81, 0, 0, 0, 0),
  (61, .aload_n 0, 1, 0, 0, 0, 0, 0),
  (62, .getfield 49, 3, 3, 6, 0, 0, 0),
  (65, .bipush 21, 2, 0, 0, 0, 21, 0),
  (67, .if_icmp .eq 14, 3, 81, 0, 0, 0, 0),
  (70, .aload_n 0, 1, 0, 0, 0, 0, 0),
  (71, .invokevirtual 52, 3, 15, 0, 0, 0, 0),
  (74, .istore_n 1, 1, 1, 0, 0, 0, 0),
  (75, .iinc 2 1, 3, 2, 0, 0, 1, 0),
  (78, .goto (-28), 3, 50, 0, 0, 0, 0),
  (81, .iload_n 1, 1, 1, 0, 0, 0, 0),
  (82, .ifCond .eq 24, 3, 106, 0, 0, 0, 0),
  (85, .aload_n 0, 1, 0, 0, 0, 0, 0),
  (86, .getfield 15, 3, 3, 1, 0, 0, 0),
  (89, .invokevirtual 56, 3, 74, 0, 0, 0, 0),
  (92, .aload_n 0, 1, 0, 0, 0, 0, 0),
  (93, .getfield 19, 3, 3, 2, 0, 0, 0),
  (96, .aload_n 0, 1, 0, 0, 0, 0, 0),
  (97, .getfield 19, 3, 3, 2, 0, 0, 0),
  (100, .getfield 39, 3, 6, 5, 0, 0, 0),
  (103, .putfield 33, 3, 6, 4, 0, 0, 0),
  (106, .aload_n 0, 1, 0, 0, 0, 0, 0),
  (107, .getfield 9, 3, 3, 0, 0, 0, 0),
  (110, .iconst 0, 1, 0, 0, 0, 0, 0),
  (111, .putfield 59, 3, 7, 3, 0, 0, 0),
  (114, .iload_n 1, 1, 1, 0, 0, 0, 0),
  (115, .ireturn, 1, 0, 0, 1, 0, 0)]
def hbk15 : List (Nat × hbR) := [(0, .aload_n 0, 1, 0, 0, 0, 0, 0),
  (1, .getfield 49, 3, 3, 6, 0, 0, 0),
  (4, .tableswitch 66 0 3 #[32, 37, 49, 61], 32, 0, 0, 0, 0, 0),
  (36, .aload_n 0, 1, 0, 0, 0, 0, 0),
  (37, .invokevirtual 62, 3, 16, 0, 0, 0, 0),
  (40, .ireturn, 1, 0, 0, 1, 0, 0),
  (41, .aload_n 0, 1, 0, 0, 0, 0, 0),
  (42, .aload_n 0, 1, 0, 0, 0, 0, 0),
  (43, .getfield 15, 3, 3, 1, 0, 0, 0),
  (46, .getfield 65, 3, 10, 0, 0, 0, 0),
  (49, .invokevirtual 69, 3, 17, 1, 0, 0, 0),
  (52, .ireturn, 1, 0, 0, 1, 0, 0),
  (53, .aload_n 0, 1, 0, 0, 0, 0, 0),
  (54, .aload_n 0, 1, 0, 0, 0, 0, 0),
  (55, .getfield 15, 3, 3, 1, 0, 0, 0),
  (58, .getfield 73, 3, 10, 1, 0, 0, 0),
  (61, .invokevirtual 69, 3, 17, 1, 0, 0, 0),
  (64, .ireturn, 1, 0, 0, 1, 0, 0),
  (65, .aload_n 0, 1, 0, 0, 0, 0, 0),
  (66, .invokevirtual 76, 3, 18, 0, 0, 0, 0),
  (69, .ireturn, 1, 0, 0, 1, 0, 0),
  (70, .aload_n 0, 1, 0, 0, 0, 0, 0),
  (71, .iconst 1, 1, 0, 0, 0, 1, 0),
  (72, .invokevirtual 79, 3, 25, 1, 0, 0, 0),
  (75, .ireturn, 1, 0, 0, 1, 0, 0)]
def hbk16 : List (Nat × hbR) := [(0, .aload_n 0, 1, 0, 0, 0, 0, 0),
  (1, .getfield 15, 3, 3, 1, 0, 0, 0),
  (4, .getfield 83, 3, 10, 9, 0, 0, 0),
  (7, .bipush 8, 2, 0, 0, 0, 8, 0),
  (9, .if_icmp .lt 9, 3, 18, 0, 0, 0, 0),
  (12, .aload_n 0, 1, 0, 0, 0, 0, 0),
  (13, .iconst 3, 1, 0, 0, 0, 3, 0),
  (14, .invokevirtual 79, 3, 25, 1, 0, 0, 0),
  (17, .ireturn, 1, 0, 0, 1, 0, 0),
  (18, .aload_n 0, 1, 0, 0, 0, 0, 0),
  (19, .invokevirtual 86, 3, 26, 0, 0, 0, 0),
  (22, .aload_n 0, 1, 0, 0, 0, 0, 0),
  (23, .iconst 4, 1, 0, 0, 0, 4, 0),
  (24, .invokevirtual 89, 3, 23, 1, 0, 0, 0),
  (27, .istore_n 1, 1, 1, 0, 0, 0, 0),
  (28, .iload_n 1, 1, 1, 0, 0, 0, 0),
  (29, .ldc 93, 2, 0, 0, 0, (-1000000), 0),
  (31, .if_icmp .ne 8, 3, 39, 0, 0, 0, 0),
  (34, .ldc 93, 2, 0, 0, 0, (-1000000), 0),
  (36, .goto 8, 3, 44, 0, 0, 0, 0),
  (39, .aload_n 0, 1, 0, 0, 0, 0, 0),
  (40, .iconst 2, 1, 0, 0, 0, 2, 0),
  (41, .invokevirtual 89, 3, 23, 1, 0, 0, 0),
  (44, .istore_n 2, 1, 2, 0, 0, 0, 0),
  (45, .iload_n 2, 1, 2, 0, 0, 0, 0),
  (46, .ldc 93, 2, 0, 0, 0, (-1000000), 0),
  (48, .if_icmp .ne 5, 3, 53, 0, 0, 0, 0),
  (51, .iconst 0, 1, 0, 0, 0, 0, 0),
  (52, .ireturn, 1, 0, 0, 1, 0, 0),
  (53, .aload_n 0, 1, 0, 0, 0, 0, 0),
  (54, .getfield 49, 3, 3, 6, 0, 0, 0),
  (57, .iconst 5, 1, 0, 0, 0, 5, 0),
  (58, .if_icmp .eq 18, 3, 76, 0, 0, 0, 0),
  (61, .aload_n 0, 1, 0, 0, 0, 0, 0),
  (62, .getfield 49, 3, 3, 6, 0, 0, 0),
  (65, .bipush 6, 2, 0, 0, 0, 6, 0),
  (67, .if_icmp .eq 9, 3, 76, 0, 0, 0, 0),
  (70, .aload_n 0, 1, 0, 0, 0, 0, 0),
  (71, .iconst 1, 1, 0, 0, 0, 1, 0),
  (72, .invokevirtual 79, 3, 25, 1, 0, 0, 0),
  (75, .ireturn, 1, 0, 0, 1, 0, 0),
  (76, .aload_n 0, 1, 0, 0, 0, 0, 0),
  (77, .getfield 15, 3, 3, 1, 0, 0, 0),
  (80, .iload_n 1, 1, 1, 0, 0, 0, 0),
  (81, .iload_n 2, 1, 2, 0, 0, 0, 0),
  (82, .aload_n 0, 1, 0, 0, 0, 0, 0),
  (83, .getfield 49, 3, 3, 6, 0, 0, 0),
  (86, .iconst 5, 1, 0, 0, 0, 5, 0),
  (87, .if_icmp .ne 7, 3, 94, 0, 0, 0, 0),
  (90, .iconst 1, 1, 0, 0, 0, 1, 0),
  (91, .goto 4, 3, 95, 0, 0, 0, 0),
  (94, .iconst (-1), 1, 0, 0, 0, (-1), 0),
  (95, .invokevirtual 94, 3, 72, 3, 0, 0, 0),
  (98, .aload_n 0, 1, 0, 0, 0, 0, 0),
  (99, .invokevirtual 86, 3, 26, 0, 0, 0, 0),
  (102, .aload_n 0, 1, 0, 0, 0, 0, 0),
  (103, .invokevirtual 98, 3, 24, 0, 0, 0, 0),
  (106, .ireturn, 1, 0, 0, 1, 0, 0)]
def hbk17 : List (Nat × hbR) := [(0, .aload_n 1, 1, 1, 0, 0, 0, 0),
  (1, .getfield 101, 3, 2, 3, 0, 0, 0),
  (4, .iconst 4, 1, 0, 0, 0, 4, 0),
  (5, .if_icmp .lt 9, 3, 14, 0, 0, 0, 0),
  (8, .aload_n 0, 1, 0, 0, 0, 0, 0),
  (9, .iconst 3, 1, 0, 0, 0, 3, 0),
  (10, .invokevirtual 79, 3, 25, 1, 0, 0, 0),
  (13, .ireturn, 1, 0, 0, 1, 0, 0),
  (14, .aload_n 0, 1, 0, 0, 0, 0, 0),
  (15, .invokevirtual 86, 3, 26, 0, 0, 0, 0),
  (18, .iconst 0, 1, 0, 0, 0, 0, 0),
  (19, .istore_n 2, 1, 2, 0, 0, 0, 0),
  (20, .iload_n 2, 1, 2, 0, 0, 0, 0),
  (21, .iconst 3, 1, 0, 0, 0, 3, 0),
  (22, .if_icmp .ge 55, 3, 77, 0, 0, 0, 0),
  (25, .aload_n 0, 1, 0, 0, 0, 0, 0),
  (26, .invokevirtual 104, 3, 20, 0, 0, 0, 0),
  (29, .istore_n 3, 1, 3, 0, 0, 0, 0),
  (30, .iload_n 3, 1, 3, 0, 0, 0, 0),
  (31, .ldc 93, 2, 0, 0, 0, (-1000000), 0),
  (33, .if_icmp .ne 5, 3, 38, 0, 0, 0, 0),
  (36, .iconst 0, 1, 0, 0, 0, 0, 0),
  (37, .ireturn, 1, 0, 0, 1, 0, 0),
  (38, .aload_n 1, 1, 1, 0, 0, 0, 0),
  (39, .iload_n 2, 1, 2, 0, 0, 0, 0),
  (40, .iload_n 3, 1, 3, 0, 0, 0, 0),
  (41, .invokevirtual 108, 3, 12, 2, 0, 0, 0),
  (44, .aload_n 0, 1, 0, 0, 0, 0, 0),
  (45, .getfield 49, 3, 3, 6, 0, 0, 0),
  (48, .iconst 4, 1, 0, 0, 0, 4, 0),
  (49, .if_icmp .eq 18, 3, 67, 0, 0, 0, 0),
  (52, .aload_n 1, 1, 1, 0, 0, 0, 0),
  (53, .dup, 1, 0, 0, 0, 0, 0),
  (54, .getfield 101, 3, 2, 3, 0, 0, 0),
  (57, .iconst 1, 1, 0, 0, 0, 1, 0),
  (58, .iadd, 1, 0, 0, 0, 0, 0),
  (59, .putfield 101, 3, 2, 3, 0, 0, 0),
  (62, .aload_n 0, 1, 0, 0, 0, 0, 0),
  (63, .invokevirtual 98, 3, 24, 0, 0, 0, 0),
  (66, .ireturn, 1, 0, 0, 1, 0, 0),
  (67, .aload_n 0, 1, 0, 0, 0, 0, 0),
  (68, .invokevirtual 86, 3, 26, 0, 0, 0, 0),
  (71, .iinc 2 1, 3, 2, 0, 0, 1, 0),
  (74, .goto (-54), 3, 20, 0, 0, 0, 0),
  (77, .aload_n 0, 1, 0, 0, 0, 0, 0),
  (78, .aload_n 0, 1, 0, 0, 0, 0, 0),
  (79, .invokevirtual 112, 3, 21, 0, 0, 0, 0),
  (82, .ldc 93, 2, 0, 0, 0, (-1000000), 0),
  (84, .if_icmp .ne 7, 3, 91, 0, 0, 0, 0),
  (87, .iconst 1, 1, 0, 0, 0, 1, 0),
  (88, .goto 4, 3, 92, 0, 0, 0, 0),
  (91, .iconst 3, 1, 0, 0, 0, 3, 0),
  (92, .invokevirtual 79, 3, 25, 1, 0, 0, 0),
  (95, .ireturn, 1, 0, 0, 1, 0, 0)]
def hbk18 : List (Nat × hbR) := [(0, .aload_n 0, 1, 0, 0, 0, 0, 0),
  (1, .getfield 19, 3, 3, 2, 0, 0, 0),
  (4, .getfield 39, 3, 6, 5, 0, 0, 0),
  (7, .bipush 16, 2, 0, 0, 0, 16, 0),
  (9, .if_icmp .lt 9, 3, 18, 0, 0, 0, 0),
  (12, .aload_n 0, 1, 0, 0, 0, 0, 0),
  (13, .iconst 3, 1, 0, 0, 0, 3, 0),
  (14, .invokevirtual 79, 3, 25, 1, 0, 0, 0),
  (17, .ireturn, 1, 0, 0, 1, 0, 0),
  (18, .aload_n 0, 1, 0, 0, 0, 0, 0),
  (19, .invokevirtual 86, 3, 26, 0, 0, 0, 0),
  (22, .aload_n 0, 1, 0, 0, 0, 0, 0),
  (23, .invokevirtual 115, 3, 22, 0, 0, 0, 0),
  (26, .istore_n 1, 1, 1, 0, 0, 0, 0),
  (27, .iload_n 1, 1, 1, 0, 0, 0, 0),
  (28, .ldc 93, 2, 0, 0, 0, (-1000000), 0),
  (30, .if_icmp .ne 9, 3, 39, 0, 0, 0, 0),
  (33, .aload_n 0, 1, 0, 0, 0, 0, 0),
  (34, .iconst 1, 1, 0, 0, 0, 1, 0),
  (35, .invokevirtual 79, 3, 25, 1, 0, 0, 0),
  (38, .ireturn, 1, 0, 0, 1, 0, 0),
  (39, .aload_n 0, 1, 0, 0, 0, 0, 0),
  (40, .invokevirtual 86, 3, 26, 0, 0, 0, 0),
  (43, .iload_n 1, 1, 1, 0, 0, 0, 0),
  (44, .iconst 2, 1, 0, 0, 0, 2, 0),
  (45, .if_icmp .eq 8, 3, 53, 0, 0, 0, 0),
  (48, .iload_n 1, 1, 1, 0, 0, 0, 0),
  (49, .iconst 3, 1, 0, 0, 0, 3, 0),
  (50, .if_icmp .ne 10, 3, 60, 0, 0, 0, 0),
  (53, .aload_n 0, 1, 0, 0, 0, 0, 0),
  (54, .invokevirtual 104, 3, 20, 0, 0, 0, 0),
  (57, .goto 4, 3, 61, 0, 0, 0, 0),
  (60, .iconst 0, 1, 0, 0, 0, 0, 0),
  (61, .istore_n 2, 1, 2, 0, 0, 0, 0),
  (62, .iload_n 2, 1, 2, 0, 0, 0, 0),
  (63, .ldc 93, 2, 0, 0, 0, (-1000000), 0),
  (65, .if_icmp .ne 8, 3, 73, 0, 0, 0, 0),
  (68, .ldc 93, 2, 0, 0, 0, (-1000000), 0),
  (70, .goto 8, 3, 78, 0, 0, 0, 0),
  (73, .aload_n 0, 1, 0, 0, 0, 0, 0),
  (74, .iload_n 1, 1, 1, 0, 0, 0, 0),
  (75, .invokevirtual 118, 3, 19, 1, 0, 0, 0),
  (78, .istore_n 3, 1, 3, 0, 0, 0, 0),
  (79, .iload_n 3, 1, 3, 0, 0, 0, 0),
  (80, .ldc 93, 2, 0, 0, 0, (-1000000), 0),
  (82, .if_icmp .ne 5, 3, 87, 0, 0, 0, 0),
  (85, .iconst 0, 1, 0, 0, 0, 0, 0),
  (86, .ireturn, 1, 0, 0, 1, 0, 0),
  (87, .aload_n 0, 1, 0, 0, 0, 0, 0),
  (88, .getfield 19, 3, 3, 2, 0, 0, 0),
  (91, .iload_n 1, 1, 1, 0, 0, 0, 0),
  (92, .iload_n 3, 1, 3, 0, 0, 0, 0),
  (93, .iload_n 2, 1, 2, 0, 0, 0, 0),
  (94, .invokevirtual 121, 3, 34, 3, 0, 0, 0),
  (97, .aload_n 0, 1, 0, 0, 0, 0, 0),
  (98, .invokevirtual 98, 3, 24, 0, 0, 0, 0),
  (101, .ireturn, 1, 0, 0, 1, 0, 0)]
def hbk19 : List (Nat × hbR) := [(0, .iload_n 1, 1, 1, 0, 0, 0, 0),
  (1, .tableswitch 48 0 4 #[35, 35, 48, 41, 41], 35, 0, 0, 0, 0, 0),
  (36, .aload_n 0, 1, 0, 0, 0, 0, 0),
  (37, .iconst 4, 1, 0, 0, 0, 4, 0),
  (38, .invokevirtual 89, 3, 23, 1, 0, 0, 0),
  (41, .ireturn, 1, 0, 0, 0, 0, 0),
  (42, .aload_n 0, 1, 0, 0, 0, 0, 0),
  (43, .bipush 16, 2, 0, 0, 0, 16, 0),
  (45, .invokevirtual 89, 3, 23, 1, 0, 0, 0),
  (48, .ireturn, 1, 0, 0, 0, 0, 0),
  (49, .iconst 0, 1, 0, 0, 0, 0, 0),
  (50, .ireturn, 1, 0, 0, 0, 0, 0)]
def hbk20 : List (Nat × hbR) := [(0, .aload_n 0, 1, 0, 0, 0, 0, 0),
  (1, .invokevirtual 112, 3, 21, 0, 0, 0, 0),
  (4, .istore_n 1, 1, 1, 0, 0, 0, 0),
  (5, .iload_n 1, 1, 1, 0, 0, 0, 0),
  (6, .ldc 93, 2, 0, 0, 0, (-1000000), 0),
  (8, .if_icmp .ne 12, 3, 20, 0, 0, 0, 0),
  (11, .aload_n 0, 1, 0, 0, 0, 0, 0),
  (12, .iconst 1, 1, 0, 0, 0, 1, 0),
  (13, .invokevirtual 79, 3, 25, 1, 0, 0, 0),
  (16, .pop, 1, 0, 0, 0, 0, 0),
  (17, .ldc 93, 2, 0, 0, 0, (-1000000), 0),
  (19, .ireturn, 1, 0, 0, 0, 0, 0),
  (20, .aload_n 0, 1, 0, 0, 0, 0, 0),
  (21, .invokevirtual 86, 3, 26, 0, 0, 0, 0),
  (24, .iload_n 1, 1, 1, 0, 0, 0, 0),
  (25, .ifCond .eq 8, 3, 33, 0, 0, 0, 0),
  (28, .iload_n 1, 1, 1, 0, 0, 0, 0),
  (29, .iconst 1, 1, 0, 0, 0, 1, 0),
  (30, .if_icmp .ne 7, 3, 37, 0, 0, 0, 0),
  (33, .iconst 1, 1, 0, 0, 0, 1, 0),
  (34, .goto 4, 3, 38, 0, 0, 0, 0),
  (37, .iconst 0, 1, 0, 0, 0, 0, 0),
  (38, .istore_n 2, 1, 2, 0, 0, 0, 0),
  (39, .aload_n 0, 1, 0, 0, 0, 0, 0),
  (40, .iload_n 2, 1, 2, 0, 0, 0, 0),
  (41, .ifCond .eq 7, 3, 48, 0, 0, 0, 0),
  (44, .iconst 4, 1, 0, 0, 0, 4, 0),
  (45, .goto 4, 3, 49, 0, 0, 0, 0),
  (48, .iconst 2, 1, 0, 0, 0, 2, 0),
  (49, .invokevirtual 89, 3, 23, 1, 0, 0, 0),
  (52, .istore_n 3, 1, 3, 0, 0, 0, 0),
  (53, .iload_n 3, 1, 3, 0, 0, 0, 0),
  (54, .ldc 93, 2, 0, 0, 0, (-1000000), 0),
  (56, .if_icmp .ne 6, 3, 62, 0, 0, 0, 0),
  (59, .ldc 93, 2, 0, 0, 0, (-1000000), 0),
  (61, .ireturn, 1, 0, 0, 0, 0, 0),
  (62, .iload_n 2, 1, 2, 0, 0, 0, 0),
  (63, .ifCond .eq 7, 3, 70, 0, 0, 0, 0),
  (66, .iconst 0, 1, 0, 0, 0, 0, 0),
  (67, .goto 9, 3, 76, 0, 0, 0, 0),
  (70, .aload_n 0, 1, 0, 0, 0, 0, 0),
  (71, .bipush 8, 2, 0, 0, 0, 8, 0),
  (73, .invokevirtual 89, 3, 23, 1, 0, 0, 0),
  (76, .istore 4, 2, 4, 0, 0, 0, 0),
  (78, .iload 4, 2, 4, 0, 0, 0, 0),
  (80, .ldc 93, 2, 0, 0, 0, (-1000000), 0),
  (82, .if_icmp .ne 8, 3, 90, 0, 0, 0, 0),
  (85, .ldc 93, 2, 0, 0, 0, (-1000000), 0),
  (87, .goto 10, 3, 97, 0, 0, 0, 0),
  (90, .iload_n 1, 1, 1, 0, 0, 0, 0),
  (91, .iload_n 3, 1, 3, 0, 0, 0, 0),
  (92, .iload 4, 2, 4, 0, 0, 0, 0),
  (94, .invokestatic 124, 3, 69, 3, 0, 0, 0),
  (97, .ireturn, 1, 0, 0, 0, 0, 0)]
def hbk21 : List (Nat × hbR) := [(0, .aload_n 0, 1, 0, 0, 0, 0, 0),
  (1, .getfield 49, 3, 3, 6, 0, 0, 0),
  (4, .tableswitch 40 7 10 #[32, 34, 36, 38], 32, 0, 0, 0, 0, 0),
  (36, .iconst 0, 1, 0, 0, 0, 0, 0),
  (37, .ireturn, 1, 0, 0, 0, 0, 0),
  (38, .iconst 1, 1, 0, 0, 0, 1, 0),
  (39, .ireturn, 1, 0, 0, 0, 0, 0),
  (40, .iconst 2, 1, 0, 0, 0, 2, 0),
  (41, .ireturn, 1, 0, 0, 0, 0, 0),
  (42, .iconst 3, 1, 0, 0, 0, 3, 0),
  (43, .ireturn, 1, 0, 0, 0, 0, 0),
  (44, .ldc 93, 2, 0, 0, 0, (-1000000), 0),
  (46, .ireturn, 1, 0, 0, 0, 0, 0)]
def hbk22 : List (Nat × hbR) := [(0, .aload_n 0, 1, 0, 0, 0, 0, 0),
  (1, .getfield 49, 3, 3, 6, 0, 0, 0),
  (4, .tableswitch 60 7 14 #[48, 50, 60, 60, 52, 54, 56, 58], 48, 0, 0, 0, 0, 0),
  (52, .iconst 0, 1, 0, 0, 0, 0, 0),
  (53, .ireturn, 1, 0, 0, 0, 0, 0),
  (54, .iconst 1, 1, 0, 0, 0, 1, 0),
  (55, .ireturn, 1, 0, 0, 0, 0, 0),
  (56, .iconst 2, 1, 0, 0, 0, 2, 0),
  (57, .ireturn, 1, 0, 0, 0, 0, 0),
  (58, .iconst 3, 1, 0, 0, 0, 3, 0),
  (59, .ireturn, 1, 0, 0, 0, 0, 0),
  (60, .iconst 4, 1, 0, 0, 0, 4, 0),
  (61, .ireturn, 1, 0, 0, 0, 0, 0),
  (62, .iconst 5, 1, 0, 0, 0, 5, 0),
  (63, .ireturn, 1, 0, 0, 0, 0, 0),
  (64, .ldc 93, 2, 0, 0, 0, (-1000000), 0),
  (66, .ireturn, 1, 0, 0, 0, 0, 0)]
def hbk23 : List (Nat × hbR) := [(0, .aload_n 0, 1, 0, 0, 0, 0, 0),
  (1, .getfield 49, 3, 3, 6, 0, 0, 0),
  (4, .bipush 100, 2, 0, 0, 0, 100, 0),
  (6, .isub, 1, 0, 0, 0, 0, 0),
  (7, .istore_n 2, 1, 2, 0, 0, 0, 0),
  (8, .iload_n 2, 1, 2, 0, 0, 0, 0),
  (9, .ifCond .lt 8, 3, 17, 0, 0, 0, 0),
  (12, .iload_n 2, 1, 2, 0, 0, 0, 0),
  (13, .iload_n 1, 1, 1, 0, 0, 0, 0),
  (14, .if_icmp .lt 20, 3, 34, 0, 0, 0, 0),
  (17, .aload_n 0, 1, 0, 0, 0, 0, 0),
  (18, .iload_n 2, 1, 2, 0, 0, 0, 0),
  (19, .ifCond .ge 7, 3, 26, 0, 0, 0, 0),
  (22, .iconst 1, 1, 0, 0, 0, 1, 0),
  (23, .goto 4, 3, 27, 0, 0, 0, 0),
  (26, .iconst 2, 1, 0, 0, 0, 2, 0),
  (27, .invokevirtual 79, 3, 25, 1, 0, 0, 0),
  (30, .pop, 1, 0, 0, 0, 0, 0),
  (31, .ldc 93, 2, 0, 0, 0, (-1000000), 0),
  (33, .ireturn, 1, 0, 0, 0, 0, 0),
  (34, .aload_n 0, 1, 0, 0, 0, 0, 0),
  (35, .invokevirtual 86, 3, 26, 0, 0, 0, 0),
  (38, .iload_n 2, 1, 2, 0, 0, 0, 0),
  (39, .ireturn, 1, 0, 0, 0, 0, 0)]
def hbk24 : List (Nat × hbR) := [(0, .aload_n 0, 1, 0, 0, 0, 0, 0),
  (1, .getfield 49, 3, 3, 6, 0, 0, 0),
  (4, .bipush 20, 2, 0, 0, 0, 20, 0),
  (6, .if_icmp .eq 9, 3, 15, 0, 0, 0, 0),
  (9, .aload_n 0, 1, 0, 0, 0, 0, 0),
  (10, .iconst 1, 1, 0, 0, 0, 1, 0),
  (11, .invokevirtual 79, 3, 25, 1, 0, 0, 0),
  (14, .ireturn, 1, 0, 0, 1, 0, 0),
  (15, .aload_n 0, 1, 0, 0, 0, 0, 0),
  (16, .invokevirtual 86, 3, 26, 0, 0, 0, 0),
  (19, .iconst 1, 1, 0, 0, 0, 1, 0),
  (20, .ireturn, 1, 0, 0, 1, 0, 0)]
def hbk25 : List (Nat × hbR) := [(0, .aload_n 0, 1, 0, 0, 0, 0, 0),
  (1, .iload_n 1, 1, 1, 0, 0, 0, 0),
  (2, .putfield 128, 3, 3, 3, 0, 0, 0),
  (5, .aload_n 0, 1, 0, 0, 0, 0, 0),
  (6, .aload_n 0, 1, 0, 0, 0, 0, 0),
  (7, .getfield 9, 3, 3, 0, 0, 0, 0),
  (10, .getfield 131, 3, 7, 1, 0, 0, 0),
  (13, .aload_n 0, 1, 0, 0, 0, 0, 0),
  (14, .getfield 42, 3, 3, 5, 0, 0, 0),
  (17, .iaload, 1, 0, 0, 0, 0, 0),
  (18, .putfield 134, 3, 3, 4, 0, 0, 0),
  (21, .iconst 0, 1, 0, 0, 0, 0, 0),
  (22, .ireturn, 1, 0, 0, 1, 0, 0)]
def hbk26 : List (Nat × hbR) := [(0, .aload_n 0, 1, 0, 0, 0, 0, 0),
  (1, .getfield 49, 3, 3, 6, 0, 0, 0),
  (4, .bipush 21, 2, 0, 0, 0, 21, 0),
  (6, .if_icmp .eq 39, 3, 45, 0, 0, 0, 0),
  (9, .aload_n 0, 1, 0, 0, 0, 0, 0),
  (10, .getfield 42, 3, 3, 5, 0, 0, 0),
  (13, .sipush 400, 3, 0, 0, 0, 400, 0),
  (16, .if_icmp .ge 29, 3, 45, 0, 0, 0, 0),
  (19, .aload_n 0, 1, 0, 0, 0, 0, 0),
  (20, .dup, 1, 0, 0, 0, 0, 0),
  (21, .getfield 42, 3, 3, 5, 0, 0, 0),
  (24, .iconst 1, 1, 0, 0, 0, 1, 0),
  (25, .iadd, 1, 0, 0, 0, 0, 0),
  (26, .putfield 42, 3, 3, 5, 0, 0, 0),
  (29, .aload_n 0, 1, 0, 0, 0, 0, 0),
  (30, .aload_n 0, 1, 0, 0, 0, 0, 0),
  (31, .getfield 9, 3, 3, 0, 0, 0, 0),
  (34, .getfield 45, 3, 7, 2, 0, 0, 0),
  (37, .aload_n 0, 1, 0, 0, 0, 0, 0),
  (38, .getfield 42, 3, 3, 5, 0, 0, 0),
  (41, .iaload, 1, 0, 0, 0, 0, 0),
  (42, .putfield 49, 3, 3, 6, 0, 0, 0),
  (45, .return_, 1, 0, 0, 0, 0, 0)]
def hbk27 : List (Nat × hbR) := [(0, .aload_n 0, 1, 0, 0, 0, 0, 0),
  (1, .dup, 1, 0, 0, 0, 0, 0),
  (2, .getfield 24, 3, 4, 4, 0, 0, 0),
  (5, .iconst 1, 1, 0, 0, 0, 1, 0),
  (6, .iadd, 1, 0, 0, 0, 0, 0),
  (7, .putfield 24, 3, 4, 4, 0, 0, 0),
  (10, .return_, 1, 0, 0, 0, 0, 0)]
def hbk28 : List (Nat × hbR) := [(0, .aload_n 0, 1, 0, 0, 0, 0, 0),
  (1, .getfield 21, 3, 4, 3, 0, 0, 0),
  (4, .iload_n 1, 1, 1, 0, 0, 0, 0),
  (5, .iaload, 1, 0, 0, 0, 0, 0),
  (6, .istore_n 3, 1, 3, 0, 0, 0, 0),
  (7, .iload_n 3, 1, 3, 0, 0, 0, 0),
  (8, .iconst 3, 1, 0, 0, 0, 3, 0),
  (9, .ishr, 1, 0, 0, 0, 0, 0),
  (10, .aload_n 0, 1, 0, 0, 0, 0, 0),
  (11, .getfield 24, 3, 4, 4, 0, 0, 0),
  (14, .if_icmp .ne 10, 3, 24, 0, 0, 0, 0),
  (17, .iload_n 3, 1, 3, 0, 0, 0, 0),
  (18, .bipush 7, 2, 0, 0, 0, 7, 0),
  (20, .iand, 1, 0, 0, 0, 0, 0),
  (21, .goto 4, 3, 25, 0, 0, 0, 0),
  (24, .iconst 0, 1, 0, 0, 0, 0, 0),
  (25, .istore 4, 2, 4, 0, 0, 0, 0),
  (27, .iconst 1, 1, 0, 0, 0, 1, 0),
  (28, .iload_n 2, 1, 2, 0, 0, 0, 0),
  (29, .ishl, 1, 0, 0, 0, 0, 0),
  (30, .istore 5, 2, 5, 0, 0, 0, 0),
  (32, .aload_n 0, 1, 0, 0, 0, 0, 0),
  (33, .getfield 21, 3, 4, 3, 0, 0, 0),
  (36, .iload_n 1, 1, 1, 0, 0, 0, 0),
  (37, .aload_n 0, 1, 0, 0, 0, 0, 0),
  (38, .getfield 24, 3, 4, 4, 0, 0, 0),
  (41, .iconst 3, 1, 0, 0, 0, 3, 0),
  (42, .ishl, 1, 0, 0, 0, 0, 0),
  (43, .iload 4, 2, 4, 0, 0, 0, 0),
  (45, .ior, 1, 0, 0, 0, 0, 0),
  (46, .iload 5, 2, 5, 0, 0, 0, 0),
  (48, .ior, 1, 0, 0, 0, 0, 0),
  (49, .iastore, 1, 0, 0, 0, 0, 0),
  (50, .iload 4, 2, 4, 0, 0, 0, 0),
  (52, .iload 5, 2, 5, 0, 0, 0, 0),
  (54, .iand, 1, 0, 0, 0, 0, 0),
  (55, .ifCond .ne 7, 3, 62, 0, 0, 0, 0),
  (58, .iconst 1, 1, 0, 0, 0, 1, 0),
  (59, .goto 4, 3, 63, 0, 0, 0, 0),
  (62, .iconst 0, 1, 0, 0, 0, 0, 0),
  (63, .ireturn, 1, 0, 0, 1, 0, 0)]
def hbk29 : List (Nat × hbR) := [(0, .aload_n 0, 1, 0, 0, 0, 0, 0),
  (1, .iconst 1, 1, 0, 0, 0, 1, 0),
  (2, .putfield 15, 3, 5, 1, 1, 0, 0),
  (5, .aload_n 0, 1, 0, 0, 0, 0, 0),
  (6, .iload_n 1, 1, 1, 0, 0, 0, 0),
  (7, .putfield 19, 3, 5, 2, 0, 0, 0),
  (10, .aload_n 0, 1, 0, 0, 0, 0, 0),
  (11, .iload_n 2, 1, 2, 0, 0, 0, 0),
  (12, .putfield 23, 3, 5, 3, 0, 0, 0),
  (15, .aload_n 0, 1, 0, 0, 0, 0, 0),
  (16, .getfield 9, 3, 5, 0, 0, 0, 0),
  (19, .iconst 0, 1, 0, 0, 0, 0, 0),
  (20, .invokestatic 26, 3, 197, 2, 0, 0, 0),
  (23, .return_, 1, 0, 0, 0, 0, 0)]
def hbk30 : List (Nat × hbR) := [(0, .iload_n 1, 1, 1, 0, 0, 0, 0),
  (1, .ifCond .lt 29, 3, 30, 0, 0, 0, 0),
  (4, .iload_n 2, 1, 2, 0, 0, 0, 0),
  (5, .ifCond .lt 25, 3, 30, 0, 0, 0, 0),
  (8, .iload_n 1, 1, 1, 0, 0, 0, 0),
  (9, .aload_n 0, 1, 0, 0, 0, 0, 0),
  (10, .getfield 23, 3, 5, 3, 0, 0, 0),
  (13, .if_icmp .gt 17, 3, 30, 0, 0, 0, 0),
  (16, .iload_n 2, 1, 2, 0, 0, 0, 0),
  (17, .aload_n 0, 1, 0, 0, 0, 0, 0),
  (18, .getfield 23, 3, 5, 3, 0, 0, 0),
  (21, .iload_n 1, 1, 1, 0, 0, 0, 0),
  (22, .isub, 1, 0, 0, 0, 0, 0),
  (23, .if_icmp .gt 7, 3, 30, 0, 0, 0, 0),
  (26, .iconst 1, 1, 0, 0, 0, 1, 0),
  (27, .goto 4, 3, 31, 0, 0, 0, 0),
  (30, .iconst 0, 1, 0, 0, 0, 0, 0),
  (31, .ireturn, 1, 0, 0, 1, 0, 0)]
def hbk31 : List (Nat × hbR) := [(0, .aload_n 0, 1, 0, 0, 0, 0, 0),
  (1, .getfield 19, 3, 5, 2, 0, 0, 0),
  (4, .ifCond .ne 6, 3, 10, 0, 0, 0, 0),
  (7, .iload_n 1, 1, 1, 0, 0, 0, 0),
  (8, .i2b, 1, 0, 0, 0, 0, 0),
  (9, .ireturn, 1, 0, 0, 0, 0, 0),
  (10, .aload_n 0, 1, 0, 0, 0, 0, 0),
  (11, .getfield 19, 3, 5, 2, 0, 0, 0),
  (14, .iconst 1, 1, 0, 0, 0, 1, 0),
  (15, .if_icmp .ne 8, 3, 23, 0, 0, 0, 0),
  (18, .iload_n 1, 1, 1, 0, 0, 0, 0),
  (19, .i2s, 1, 0, 0, 0, 0, 0),
  (20, .goto 4, 3, 24, 0, 0, 0, 0),
  (23, .iload_n 1, 1, 1, 0, 0, 0, 0),
  (24, .ireturn, 1, 0, 0, 0, 0, 0)]
def hbk32 : List (Nat × hbR) := [(0, .iload_n 1, 1, 1, 0, 0, 0, 0),
  (1, .ifCond .lt 15, 3, 16, 0, 0, 0, 0),
  (4, .iload_n 1, 1, 1, 0, 0, 0, 0),
  (5, .aload_n 0, 1, 0, 0, 0, 0, 0),
  (6, .getfield 24, 3, 6, 4, 0, 0, 0),
  (9, .if_icmp .ge 7, 3, 16, 0, 0, 0, 0),
  (12, .iconst 1, 1, 0, 0, 0, 1, 0),
  (13, .goto 4, 3, 17, 0, 0, 0, 0),
  (16, .iconst 0, 1, 0, 0, 0, 0, 0),
  (17, .ireturn, 1, 0, 0, 1, 0, 0)]
def hbk33 : List (Nat × hbR) := [(0, .aload_n 0, 1, 0, 0, 0, 0, 0),
  (1, .getfield 9, 3, 6, 0, 0, 0, 0),
  (4, .iload_n 1, 1, 1, 0, 0, 0, 0),
  (5, .iaload, 1, 0, 0, 0, 0, 0),
  (6, .ifCond .eq 13, 3, 19, 0, 0, 0, 0),
  (9, .aload_n 0, 1, 0, 0, 0, 0, 0),
  (10, .getfield 9, 3, 6, 0, 0, 0, 0),
  (13, .iload_n 1, 1, 1, 0, 0, 0, 0),
  (14, .iaload, 1, 0, 0, 0, 0, 0),
  (15, .iconst 1, 1, 0, 0, 0, 1, 0),
  (16, .if_icmp .ne 7, 3, 23, 0, 0, 0, 0),
  (19, .iconst 1, 1, 0, 0, 0, 1, 0),
  (20, .goto 4, 3, 24, 0, 0, 0, 0),
  (23, .iconst 0, 1, 0, 0, 0, 0, 0),
  (24, .ireturn, 1, 0, 0, 1, 0, 0)]
def hbk34 : List (Nat × hbR) := [(0, .aload_n 0, 1, 0, 0, 0, 0, 0),
  (1, .getfield 28, 3, 6, 5, 0, 0, 0),
  (4, .bipush 16, 2, 0, 0, 0, 16, 0),
  (6, .if_icmp .ge 43, 3, 49, 0, 0, 0, 0),
  (9, .aload_n 0, 1, 0, 0, 0, 0, 0),
  (10, .getfield 9, 3, 6, 0, 0, 0, 0),
  (13, .aload_n 0, 1, 0, 0, 0, 0, 0),
  (14, .getfield 28, 3, 6, 5, 0, 0, 0),
  (17, .iload_n 1, 1, 1, 0, 0, 0, 0),
  (18, .iastore, 1, 0, 0, 0, 0, 0),
  (19, .aload_n 0, 1, 0, 0, 0, 0, 0),
  (20, .getfield 15, 3, 6, 1, 0, 0, 0),
  (23, .aload_n 0, 1, 0, 0, 0, 0, 0),
  (24, .getfield 28, 3, 6, 5, 0, 0, 0),
  (27, .iload_n 2, 1, 2, 0, 0, 0, 0),
  (28, .iastore, 1, 0, 0, 0, 0, 0),
  (29, .aload_n 0, 1, 0, 0, 0, 0, 0),
  (30, .getfield 18, 3, 6, 2, 0, 0, 0),
  (33, .aload_n 0, 1, 0, 0, 0, 0, 0),
  (34, .getfield 28, 3, 6, 5, 0, 0, 0),
  (37, .iload_n 3, 1, 3, 0, 0, 0, 0),
  (38, .iastore, 1, 0, 0, 0, 0, 0),
  (39, .aload_n 0, 1, 0, 0, 0, 0, 0),
  (40, .dup, 1, 0, 0, 0, 0, 0),
  (41, .getfield 28, 3, 6, 5, 0, 0, 0),
  (44, .iconst 1, 1, 0, 0, 0, 1, 0),
  (45, .iadd, 1, 0, 0, 0, 0, 0),
  (46, .putfield 28, 3, 6, 5, 0, 0, 0),
  (49, .return_, 1, 0, 0, 0, 0, 0)]
def hbk35 : List (Nat × hbR) := [(0, .aload_n 0, 1, 0, 0, 0, 0, 0),
  (1, .getfield 9, 3, 6, 0, 0, 0, 0),
  (4, .iload_n 1, 1, 1, 0, 0, 0, 0),
  (5, .iaload, 1, 0, 0, 0, 0, 0),
  (6, .tableswitch 46 0 5 #[38, 40, 42, 46, 46, 44], 38, 0, 0, 0, 0, 0),
  (44, .iconst 2, 1, 0, 0, 0, 2, 0),
  (45, .ireturn, 1, 0, 0, 0, 0, 0),
  (46, .iconst 1, 1, 0, 0, 0, 1, 0),
  (47, .ireturn, 1, 0, 0, 0, 0, 0),
  (48, .iconst 3, 1, 0, 0, 0, 3, 0),
  (49, .ireturn, 1, 0, 0, 0, 0, 0),
  (50, .iconst 5, 1, 0, 0, 0, 5, 0),
  (51, .ireturn, 1, 0, 0, 0, 0, 0),
  (52, .iconst 4, 1, 0, 0, 0, 4, 0),
  (53, .ireturn, 1, 0, 0, 0, 0, 0)]
def hbk36 : List (Nat × hbR) := [(0, .aload_n 0, 1, 0, 0, 0, 0, 0),
  (1, .iload_n 1, 1, 1, 0, 0, 0, 0),
  (2, .invokevirtual 31, 3, 35, 1, 0, 0, 0),
  (5, .istore_n 3, 1, 3, 0, 0, 0, 0),
  (6, .iload_n 2, 1, 2, 0, 0, 0, 0),
  (7, .tableswitch 67 0 4 #[33, 35, 67, 67, 51], 33, 0, 0, 0, 0, 0),
  (40, .iconst 1, 1, 0, 0, 0, 1, 0),
  (41, .ireturn, 1, 0, 0, 1, 0, 0),
  (42, .iload_n 3, 1, 3, 0, 0, 0, 0),
  (43, .iconst 1, 1, 0, 0, 0, 1, 0),
  (44, .if_icmp .eq 8, 3, 52, 0, 0, 0, 0),
  (47, .iload_n 3, 1, 3, 0, 0, 0, 0),
  (48, .iconst 2, 1, 0, 0, 0, 2, 0),
  (49, .if_icmp .ne 7, 3, 56, 0, 0, 0, 0),
  (52, .iconst 1, 1, 0, 0, 0, 1, 0),
  (53, .goto 4, 3, 57, 0, 0, 0, 0),
  (56, .iconst 0, 1, 0, 0, 0, 0, 0),
  (57, .ireturn, 1, 0, 0, 1, 0, 0),
  (58, .iload_n 3, 1, 3, 0, 0, 0, 0),
  (59, .iconst 4, 1, 0, 0, 0, 4, 0),
  (60, .if_icmp .eq 8, 3, 68, 0, 0, 0, 0),
  (63, .iload_n 3, 1, 3, 0, 0, 0, 0),
  (64, .iconst 5, 1, 0, 0, 0, 5, 0),
  (65, .if_icmp .ne 7, 3, 72, 0, 0, 0, 0),
  (68, .iconst 1, 1, 0, 0, 0, 1, 0),
  (69, .goto 4, 3, 73, 0, 0, 0, 0),
  (72, .iconst 0, 1, 0, 0, 0, 0, 0),
  (73, .ireturn, 1, 0, 0, 1, 0, 0),
  (74, .iload_n 3, 1, 3, 0, 0, 0, 0),
  (75, .iload_n 2, 1, 2, 0, 0, 0, 0),
  (76, .if_icmp .ne 7, 3, 83, 0, 0, 0, 0),
  (79, .iconst 1, 1, 0, 0, 0, 1, 0),
  (80, .goto 4, 3, 84, 0, 0, 0, 0),
  (83, .iconst 0, 1, 0, 0, 0, 0, 0),
  (84, .ireturn, 1, 0, 0, 1, 0, 0)]
def hbk37 : List (Nat × hbR) := [(0, .iconst 0, 1, 0, 0, 0, 0, 0),
  (1, .istore_n 2, 1, 2, 0, 0, 0, 0),
  (2, .iconst 0, 1, 0, 0, 0, 0, 0),
  (3, .istore_n 3, 1, 3, 0, 0, 0, 0),
  (4, .iload_n 3, 1, 3, 0, 0, 0, 0),
  (5, .aload_n 0, 1, 0, 0, 0, 0, 0),
  (6, .getfield 24, 3, 6, 4, 0, 0, 0),
  (9, .if_icmp .ge 42, 3, 51, 0, 0, 0, 0),
  (12, .aload_n 0, 1, 0, 0, 0, 0, 0),
  (13, .getfield 9, 3, 6, 0, 0, 0, 0),
  (16, .iload_n 3, 1, 3, 0, 0, 0, 0),
  (17, .iaload, 1, 0, 0, 0, 0, 0),
  (18, .iconst 3, 1, 0, 0, 0, 3, 0),
  (19, .if_icmp .eq 13, 3, 32, 0, 0, 0, 0),
  (22, .aload_n 0, 1, 0, 0, 0, 0, 0),
  (23, .getfield 9, 3, 6, 0, 0, 0, 0),
  (26, .iload_n 3, 1, 3, 0, 0, 0, 0),
  (27, .iaload, 1, 0, 0, 0, 0, 0),
  (28, .iconst 4, 1, 0, 0, 0, 4, 0),
  (29, .if_icmp .ne 16, 3, 45, 0, 0, 0, 0),
  (32, .aload_n 0, 1, 0, 0, 0, 0, 0),
  (33, .getfield 15, 3, 6, 1, 0, 0, 0),
  (36, .iload_n 3, 1, 3, 0, 0, 0, 0),
  (37, .iaload, 1, 0, 0, 0, 0, 0),
  (38, .iload_n 1, 1, 1, 0, 0, 0, 0),
  (39, .if_icmp .ne 6, 3, 45, 0, 0, 0, 0),
  (42, .iinc 2 1, 3, 2, 0, 0, 1, 0),
  (45, .iinc 3 1, 3, 3, 0, 0, 1, 0),
  (48, .goto (-44), 3, 4, 0, 0, 0, 0),
  (51, .iload_n 2, 1, 2, 0, 0, 0, 0),
  (52, .ireturn, 1, 0, 0, 0, 0, 0)]
def hbk38 : List (Nat × hbR) := [(0, .aload_n 0, 1, 0, 0, 0, 0, 0),
  (1, .iconst 0, 1, 0, 0, 0, 0, 0),
  (2, .putfield 35, 3, 6, 6, 0, 0, 0),
  (5, .aload_n 0, 1, 0, 0, 0, 0, 0),
  (6, .iload_n 2, 1, 2, 0, 0, 0, 0),
  (7, .ifCond .ne 11, 3, 18, 0, 0, 0, 0),
  (10, .aload_n 0, 1, 0, 0, 0, 0, 0),
  (11, .iload_n 1, 1, 1, 0, 0, 0, 0),
  (12, .invokevirtual 38, 3, 39, 1, 0, 0, 0),
  (15, .goto 8, 3, 23, 0, 0, 0, 0),
  (18, .aload_n 0, 1, 0, 0, 0, 0, 0),
  (19, .iload_n 1, 1, 1, 0, 0, 0, 0),
  (20, .invokevirtual 41, 3, 40, 1, 0, 0, 0),
  (23, .iload_n 1, 1, 1, 0, 0, 0, 0),
  (24, .iconst 0, 1, 0, 0, 0, 0, 0),
  (25, .invokevirtual 44, 3, 41, 3, 0, 0, 0),
  (28, .ireturn, 1, 0, 0, 0, 0, 0)]
def hbk39 : List (Nat × hbR) := [(0, .aload_n 0, 1, 0, 0, 0, 0, 0),
  (1, .iload_n 1, 1, 1, 0, 0, 0, 0),
  (2, .invokevirtual 31, 3, 35, 1, 0, 0, 0),
  (5, .tableswitch 50 1 5 #[35, 38, 41, 44, 47], 35, 0, 0, 0, 0, 0),
  (40, .bipush 11, 2, 0, 0, 0, 11, 0),
  (42, .ireturn, 1, 0, 0, 0, 0, 0),
  (43, .bipush 12, 2, 0, 0, 0, 12, 0),
  (45, .ireturn, 1, 0, 0, 0, 0, 0),
  (46, .bipush 13, 2, 0, 0, 0, 13, 0),
  (48, .ireturn, 1, 0, 0, 0, 0, 0),
  (49, .bipush 14, 2, 0, 0, 0, 14, 0),
  (51, .ireturn, 1, 0, 0, 0, 0, 0),
  (52, .bipush 15, 2, 0, 0, 0, 15, 0),
  (54, .ireturn, 1, 0, 0, 0, 0, 0),
  (55, .bipush 10, 2, 0, 0, 0, 10, 0),
  (57, .ireturn, 1, 0, 0, 0, 0, 0)]
def hbk40 : List (Nat × hbR) := [(0, .aload_n 0, 1, 0, 0, 0, 0, 0),
  (1, .iload_n 1, 1, 1, 0, 0, 0, 0),
  (2, .invokevirtual 31, 3, 35, 1, 0, 0, 0),
  (5, .tableswitch 44 1 5 #[35, 35, 38, 44, 41], 35, 0, 0, 0, 0, 0),
  (40, .bipush 21, 2, 0, 0, 0, 21, 0),
  (42, .ireturn, 1, 0, 0, 0, 0, 0),
  (43, .bipush 22, 2, 0, 0, 0, 22, 0),
  (45, .ireturn, 1, 0, 0, 0, 0, 0),
  (46, .bipush 23, 2, 0, 0, 0, 23, 0),
  (48, .ireturn, 1, 0, 0, 0, 0, 0),
  (49, .bipush 20, 2, 0, 0, 0, 20, 0),
  (51, .ireturn, 1, 0, 0, 0, 0, 0)]
def hbk41 : List (Nat × hbR) := [(0, .iload_n 3, 1, 3, 0, 0, 0, 0),
  (1, .bipush 8, 2, 0, 0, 0, 8, 0),
  (3, .if_icmp .lt 5, 3, 8, 0, 0, 0, 0),
  (6, .iconst 0, 1, 0, 0, 0, 0, 0),
  (7, .ireturn, 1, 0, 0, 0, 0, 0),
  (8, .aload_n 0, 1, 0, 0, 0, 0, 0),
  (9, .iload_n 1, 1, 1, 0, 0, 0, 0),
  (10, .invokevirtual 48, 3, 42, 1, 0, 0, 0),
  (13, .iload_n 3, 1, 3, 0, 0, 0, 0),
  (14, .iconst 1, 1, 0, 0, 0, 1, 0),
  (15, .iadd, 1, 0, 0, 0, 0, 0),
  (16, .istore 4, 2, 4, 0, 0, 0, 0),
  (18, .iload_n 1, 1, 1, 0, 0, 0, 0),
  (19, .tableswitch 216 10 23 #[69, 75, 98, 110, 123, 146, 216, 216, 216, 216, 216, 158, 178, 201], 69, 0, 0, 0, 0, 0),
  (88, .aload_n 0, 1, 0, 0, 0, 0, 0),
  (89, .iload_n 2, 1, 2, 0, 0, 0, 0),
  (90, .invokevirtual 52, 3, 37, 1, 0, 0, 0),
  (93, .ireturn, 1, 0, 0, 0, 0, 0),
  (94, .aload_n 0, 1, 0, 0, 0, 0, 0),
  (95, .bipush 10, 2, 0, 0, 0, 10, 0),
  (97, .iload_n 2, 1, 2, 0, 0, 0, 0),
  (98, .iload 4, 2, 4, 0, 0, 0, 0),
  (100, .invokevirtual 44, 3, 199, 3, 0, 0, 0),
  (103, .aload_n 0, 1, 0, 0, 0, 0, 0),
  (104, .aload_n 0, 1, 0, 0, 0, 0, 0),
  (105, .iload_n 2, 1, 2, 0, 0, 0, 0),
  (106, .invokevirtual 41, 3, 40, 1, 0, 0, 0),
  (109, .iload_n 2, 1, 2, 0, 0, 0, 0),
  (110, .iload 4, 2, 4, 0, 0, 0, 0),
  (112, .invokevirtual 44, 3, 199, 3, 0, 0, 0),
  (115, .iadd, 1, 0, 0, 0, 0, 0),
  (116, .ireturn, 1, 0, 0, 0, 0, 0),
  (117, .iconst 2, 1, 0, 0, 0, 2, 0),
  (118, .aload_n 0, 1, 0, 0, 0, 0, 0),
  (119, .bipush 11, 2, 0, 0, 0, 11, 0),
  (121, .iload_n 2, 1, 2, 0, 0, 0, 0),
  (122, .iload 4, 2, 4, 0, 0, 0, 0),
  (124, .invokevirtual 44, 3, 199, 3, 0, 0, 0),
  (127, .imul, 1, 0, 0, 0, 0, 0),
  (128, .ireturn, 1, 0, 0, 0, 0, 0),
  (129, .aload_n 0, 1, 0, 0, 0, 0, 0),
  (130, .bipush 10, 2, 0, 0, 0, 10, 0),
  (132, .iload_n 2, 1, 2, 0, 0, 0, 0),
  (133, .iload 4, 2, 4, 0, 0, 0, 0),
  (135, .invokevirtual 44, 3, 199, 3, 0, 0, 0),
  (138, .bipush 50, 2, 0, 0, 0, 50, 0),
  (140, .iadd, 1, 0, 0, 0, 0, 0),
  (141, .ireturn, 1, 0, 0, 0, 0, 0),
  (142, .aload_n 0, 1, 0, 0, 0, 0, 0),
  (143, .bipush 10, 2, 0, 0, 0, 10, 0),
  (145, .iload_n 2, 1, 2, 0, 0, 0, 0),
  (146, .iload 4, 2, 4, 0, 0, 0, 0),
  (148, .invokevirtual 44, 3, 199, 3, 0, 0, 0),
  (151, .aload_n 0, 1, 0, 0, 0, 0, 0),
  (152, .aload_n 0, 1, 0, 0, 0, 0, 0),
  (153, .iload_n 2, 1, 2, 0, 0, 0, 0),
  (154, .invokevirtual 41, 3, 40, 1, 0, 0, 0),
  (157, .iload_n 2, 1, 2, 0, 0, 0, 0),
  (158, .iload 4, 2, 4, 0, 0, 0, 0),
  (160, .invokevirtual 44, 3, 199, 3, 0, 0, 0),
  (163, .isub, 1, 0, 0, 0, 0, 0),
  (164, .ireturn, 1, 0, 0, 0, 0, 0),
  (165, .iconst 2, 1, 0, 0, 0, 2, 0),
  (166, .aload_n 0, 1, 0, 0, 0, 0, 0),
  (167, .bipush 14, 2, 0, 0, 0, 14, 0),
  (169, .iload_n 2, 1, 2, 0, 0, 0, 0),
  (170, .iload 4, 2, 4, 0, 0, 0, 0),
  (172, .invokevirtual 44, 3, 199, 3, 0, 0, 0),
  (175, .imul, 1, 0, 0, 0, 0, 0),
  (176, .ireturn, 1, 0, 0, 0, 0, 0),
  (177, .aload_n 0, 1, 0, 0, 0, 0, 0),
  (178, .bipush 20, 2, 0, 0, 0, 20, 0),
  (180, .iload_n 2, 1, 2, 0, 0, 0, 0),
  (181, .iload 4, 2, 4, 0, 0, 0, 0),
  (183, .invokevirtual 44, 3, 199, 3, 0, 0, 0),
  (186, .bipush 100, 2, 0, 0, 0, 100, 0),
  (188, .aload_n 0, 1, 0, 0, 0, 0, 0),
  (189, .getfield 15, 3, 6, 1, 0, 0, 0),
  (192, .iload_n 2, 1, 2, 0, 0, 0, 0),
  (193, .iaload, 1, 0, 0, 0, 0, 0),
  (194, .imul, 1, 0, 0, 0, 0, 0),
  (195, .iadd, 1, 0, 0, 0, 0, 0),
  (196, .ireturn, 1, 0, 0, 0, 0, 0),
  (197, .aload_n 0, 1, 0, 0, 0, 0, 0),
  (198, .bipush 20, 2, 0, 0, 0, 20, 0),
  (200, .iload_n 2, 1, 2, 0, 0, 0, 0),
  (201, .iload 4, 2, 4, 0, 0, 0, 0),
  (203, .invokevirtual 44, 3, 199, 3, 0, 0, 0),
  (206, .aload_n 0, 1, 0, 0, 0, 0, 0),
  (207, .aload_n 0, 1, 0, 0, 0, 0, 0),
  (208, .iload_n 2, 1, 2, 0, 0, 0, 0),
  (209, .invokevirtual 38, 3, 39, 1, 0, 0, 0),
  (212, .iload_n 2, 1, 2, 0, 0, 0, 0),
  (213, .iload 4, 2, 4, 0, 0, 0, 0),
  (215, .invokevirtual 44, 3, 199, 3, 0, 0, 0),
  (218, .iadd, 1, 0, 0, 0, 0, 0),
  (219, .ireturn, 1, 0, 0, 0, 0, 0),
  (220, .aload_n 0, 1, 0, 0, 0, 0, 0),
  (221, .bipush 20, 2, 0, 0, 0, 20, 0),
  (223, .iload_n 2, 1, 2, 0, 0, 0, 0),
  (224, .iload 4, 2, 4, 0, 0, 0, 0),
  (226, .invokevirtual 44, 3, 199, 3, 0, 0, 0),
  (229, .aload_n 0, 1, 0, 0, 0, 0, 0),
  (230, .getfield 24, 3, 6, 4, 0, 0, 0),
  (233, .iadd, 1, 0, 0, 0, 0, 0),
  (234, .ireturn, 1, 0, 0, 0, 0, 0),
  (235, .iload_n 2, 1, 2, 0, 0, 0, 0),
  (236, .ireturn, 1, 0, 0, 0, 0, 0)]
def hbk42 : List (Nat × hbR) := [(0, .aload_n 0, 1, 0, 0, 0, 0, 0),
  (1, .getfield 35, 3, 6, 6, 0, 0, 0),
  (4, .bipush 16, 2, 0, 0, 0, 16, 0),
  (6, .if_icmp .ge 23, 3, 29, 0, 0, 0, 0),
  (9, .aload_n 0, 1, 0, 0, 0, 0, 0),
  (10, .getfield 21, 3, 6, 3, 0, 0, 0),
  (13, .aload_n 0, 1, 0, 0, 0, 0, 0),
  (14, .getfield 35, 3, 6, 6, 0, 0, 0),
  (17, .iload_n 1, 1, 1, 0, 0, 0, 0),
  (18, .iastore, 1, 0, 0, 0, 0, 0),
  (19, .aload_n 0, 1, 0, 0, 0, 0, 0),
  (20, .dup, 1, 0, 0, 0, 0, 0),
  (21, .getfield 35, 3, 6, 6, 0, 0, 0),
  (24, .iconst 1, 1, 0, 0, 0, 1, 0),
  (25, .iadd, 1, 0, 0, 0, 0, 0),
  (26, .putfield 35, 3, 6, 6, 0, 0, 0),
  (29, .return_, 1, 0, 0, 0, 0, 0)]
def hbk43 : List (Nat × hbR) := [(0, .iload_n 3, 1, 3, 0, 0, 0, 0),
  (1, .sipush 400, 3, 0, 0, 0, 400, 0),
  (4, .aload_n 0, 1, 0, 0, 0, 0, 0),
  (5, .getfield 21, 3, 7, 3, 0, 0, 0),
  (8, .isub, 1, 0, 0, 0, 0, 0),
  (9, .if_icmp .le 5, 3, 14, 0, 0, 0, 0),
  (12, .iconst 0, 1, 0, 0, 0, 0, 0),
  (13, .ireturn, 1, 0, 0, 1, 0, 0),
  (14, .iload_n 3, 1, 3, 0, 0, 0, 0),
  (15, .iconst 1, 1, 0, 0, 0, 1, 0),
  (16, .isub, 1, 0, 0, 0, 0, 0),
  (17, .istore 4, 2, 4, 0, 0, 0, 0),
  (19, .iload 4, 2, 4, 0, 0, 0, 0),
  (21, .ifCond .lt 40, 3, 61, 0, 0, 0, 0),
  (24, .aload_n 0, 1, 0, 0, 0, 0, 0),
  (25, .getfield 9, 3, 7, 0, 0, 0, 0),
  (28, .aload_n 0, 1, 0, 0, 0, 0, 0),
  (29, .getfield 21, 3, 7, 3, 0, 0, 0),
  (32, .lload_n 1, 1, 1, 0, 0, 0, 0),
  (33, .bipush 8, 2, 0, 0, 0, 8, 0),
  (35, .iload 4, 2, 4, 0, 0, 0, 0),
  (37, .imul, 1, 0, 0, 0, 0, 0),
  (38, .lshr, 1, 0, 0, 0, 0, 0),
  (39, .l2i, 1, 0, 0, 0, 0, 0),
  (40, .sipush 255, 3, 0, 0, 0, 255, 0),
  (43, .iand, 1, 0, 0, 0, 0, 0),
  (44, .iastore, 1, 0, 0, 0, 0, 0),
  (45, .aload_n 0, 1, 0, 0, 0, 0, 0),
  (46, .dup, 1, 0, 0, 0, 0, 0),
  (47, .getfield 21, 3, 7, 3, 0, 0, 0),
  (50, .iconst 1, 1, 0, 0, 0, 1, 0),
  (51, .iadd, 1, 0, 0, 0, 0, 0),
  (52, .putfield 21, 3, 7, 3, 0, 0, 0),
  (55, .iinc 4 (-1), 3, 4, 0, 0, (-1), 0),
  (58, .goto (-39), 3, 19, 0, 0, 0, 0),
  (61, .iconst 1, 1, 0, 0, 0, 1, 0),
  (62, .ireturn, 1, 0, 0, 1, 0, 0)]
def hbk44 : List (Nat × hbR) := [(0, .iconst 0, 1, 0, 0, 0, 0, 0),
  (1, .istore_n 1, 1, 1, 0, 0, 0, 0),
  (2, .iconst 0, 1, 0, 0, 0, 0, 0),
  (3, .istore_n 2, 1, 2, 0, 0, 0, 0),
  (4, .iconst 0, 1, 0, 0, 0, 0, 0),
  (5, .istore_n 3, 1, 3, 0, 0, 0, 0),
  (6, .iload_n 3, 1, 3, 0, 0, 0, 0),
  (7, .aload_n 0, 1, 0, 0, 0, 0, 0),
  (8, .getfield 21, 3, 7, 3, 0, 0, 0),
  (11, .if_icmp .ge 62, 3, 73, 0, 0, 0, 0),
  (14, .iload_n 3, 1, 3, 0, 0, 0, 0),
  (15, .iconst 1, 1, 0, 0, 0, 1, 0),
  (16, .iadd, 1, 0, 0, 0, 0, 0),
  (17, .istore_n 2, 1, 2, 0, 0, 0, 0),
  (18, .aload_n 0, 1, 0, 0, 0, 0, 0),
  (19, .getfield 9, 3, 7, 0, 0, 0, 0),
  (22, .iload_n 3, 1, 3, 0, 0, 0, 0),
  (23, .iaload, 1, 0, 0, 0, 0, 0),
  (24, .bipush 32, 2, 0, 0, 0, 32, 0),
  (26, .if_icmp .eq 42, 3, 68, 0, 0, 0, 0),
  (29, .aload_n 0, 1, 0, 0, 0, 0, 0),
  (30, .getfield 9, 3, 7, 0, 0, 0, 0),
  (33, .iload_n 3, 1, 3, 0, 0, 0, 0),
  (34, .iaload, 1, 0, 0, 0, 0, 0),
  (35, .bipush 10, 2, 0, 0, 0, 10, 0),
  (37, .if_icmp .eq 31, 3, 68, 0, 0, 0, 0),
  (40, .aload_n 0, 1, 0, 0, 0, 0, 0),
  (41, .iload_n 3, 1, 3, 0, 0, 0, 0),
  (42, .invokevirtual 25, 3, 45, 1, 0, 0, 0),
  (45, .istore_n 2, 1, 2, 0, 0, 0, 0),
  (46, .aload_n 0, 1, 0, 0, 0, 0, 0),
  (47, .getfield 15, 3, 7, 1, 0, 0, 0),
  (50, .iload_n 1, 1, 1, 0, 0, 0, 0),
  (51, .iload_n 3, 1, 3, 0, 0, 0, 0),
  (52, .iastore, 1, 0, 0, 0, 0, 0),
  (53, .aload_n 0, 1, 0, 0, 0, 0, 0),
  (54, .getfield 18, 3, 7, 2, 0, 0, 0),
  (57, .iload_n 1, 1, 1, 0, 0, 0, 0),
  (58, .aload_n 0, 1, 0, 0, 0, 0, 0),
  (59, .iload_n 3, 1, 3, 0, 0, 0, 0),
  (60, .iload_n 2, 1, 2, 0, 0, 0, 0),
  (61, .invokevirtual 29, 3, 46, 2, 0, 0, 0),
  (64, .iastore, 1, 0, 0, 0, 0, 0),
  (65, .iinc 1 1, 3, 1, 0, 0, 1, 0),
  (68, .iload_n 2, 1, 2, 0, 0, 0, 0),
  (69, .istore_n 3, 1, 3, 0, 0, 0, 0),
  (70, .goto (-64), 3, 6, 0, 0, 0, 0),
  (73, .aload_n 0, 1, 0, 0, 0, 0, 0),
  (74, .getfield 15, 3, 7, 1, 0, 0, 0),
  (77, .iload_n 1, 1, 1, 0, 0, 0, 0),
  (78, .aload_n 0, 1, 0, 0, 0, 0, 0),
  (79, .getfield 21, 3, 7, 3, 0, 0, 0),
  (82, .iastore, 1, 0, 0, 0, 0, 0),
  (83, .aload_n 0, 1, 0, 0, 0, 0, 0),
  (84, .getfield 18, 3, 7, 2, 0, 0, 0),
  (87, .iload_n 1, 1, 1, 0, 0, 0, 0),
  (88, .bipush 21, 2, 0, 0, 0, 21, 0),
  (90, .iastore, 1, 0, 0, 0, 0, 0),
  (91, .return_, 1, 0, 0, 0, 0, 0)]
def hbk45 : List (Nat × hbR) := [(0, .aload_n 0, 1, 0, 0, 0, 0, 0),
  (1, .getfield 9, 3, 7, 0, 0, 0, 0),
  (4, .iload_n 1, 1, 1, 0, 0, 0, 0),
  (5, .iaload, 1, 0, 0, 0, 0, 0),
  (6, .invokestatic 33, 3, 48, 1, 0, 0, 0),
  (9, .istore_n 2, 1, 2, 0, 0, 0, 0),
  (10, .aload_n 0, 1, 0, 0, 0, 0, 0),
  (11, .getfield 9, 3, 7, 0, 0, 0, 0),
  (14, .iload_n 1, 1, 1, 0, 0, 0, 0),
  (15, .iaload, 1, 0, 0, 0, 0, 0),
  (16, .invokestatic 37, 3, 49, 1, 0, 0, 0),
  (19, .istore_n 3, 1, 3, 0, 0, 0, 0),
  (20, .iload_n 1, 1, 1, 0, 0, 0, 0),
  (21, .iconst 1, 1, 0, 0, 0, 1, 0),
  (22, .iadd, 1, 0, 0, 0, 0, 0),
  (23, .istore 4, 2, 4, 0, 0, 0, 0),
  (25, .iload 4, 2, 4, 0, 0, 0, 0),
  (27, .aload_n 0, 1, 0, 0, 0, 0, 0),
  (28, .getfield 21, 3, 7, 3, 0, 0, 0),
  (31, .if_icmp .ge 43, 3, 74, 0, 0, 0, 0),
  (34, .iload_n 2, 1, 2, 0, 0, 0, 0),
  (35, .ifCond .eq 16, 3, 51, 0, 0, 0, 0),
  (38, .aload_n 0, 1, 0, 0, 0, 0, 0),
  (39, .getfield 9, 3, 7, 0, 0, 0, 0),
  (42, .iload 4, 2, 4, 0, 0, 0, 0),
  (44, .iaload, 1, 0, 0, 0, 0, 0),
  (45, .invokestatic 33, 3, 48, 1, 0, 0, 0),
  (48, .ifCond .ne 20, 3, 68, 0, 0, 0, 0),
  (51, .iload_n 3, 1, 3, 0, 0, 0, 0),
  (52, .ifCond .eq 22, 3, 74, 0, 0, 0, 0),
  (55, .aload_n 0, 1, 0, 0, 0, 0, 0),
  (56, .getfield 9, 3, 7, 0, 0, 0, 0),
  (59, .iload 4, 2, 4, 0, 0, 0, 0),
  (61, .iaload, 1, 0, 0, 0, 0, 0),
  (62, .invokestatic 37, 3, 49, 1, 0, 0, 0),
  (65, .ifCond .eq 9, 3, 74, 0, 0, 0, 0),
  (68, .iinc 4 1, 3, 4, 0, 0, 1, 0),
  (71, .goto (-46), 3, 25, 0, 0, 0, 0),
  (74, .iload 4, 2, 4, 0, 0, 0, 0),
  (76, .ireturn, 1, 0, 0, 0, 0, 0)]
def hbk46 : List (Nat × hbR) := [(0, .aload_n 0, 1, 0, 0, 0, 0, 0),
  (1, .getfield 9, 3, 7, 0, 0, 0, 0),
  (4, .iload_n 1, 1, 1, 0, 0, 0, 0),
  (5, .iaload, 1, 0, 0, 0, 0, 0),
  (6, .invokestatic 33, 3, 48, 1, 0, 0, 0),
  (9, .ifCond .eq 10, 3, 19, 0, 0, 0, 0),
  (12, .aload_n 0, 1, 0, 0, 0, 0, 0),
  (13, .iload_n 1, 1, 1, 0, 0, 0, 0),
  (14, .iload_n 2, 1, 2, 0, 0, 0, 0),
  (15, .invokevirtual 40, 3, 47, 2, 0, 0, 0),
  (18, .ireturn, 1, 0, 0, 0, 0, 0),
  (19, .aload_n 0, 1, 0, 0, 0, 0, 0),
  (20, .getfield 9, 3, 7, 0, 0, 0, 0),
  (23, .iload_n 1, 1, 1, 0, 0, 0, 0),
  (24, .iaload, 1, 0, 0, 0, 0, 0),
  (25, .invokestatic 37, 3, 49, 1, 0, 0, 0),
  (28, .ifCond .ne 22, 3, 50, 0, 0, 0, 0),
  (31, .aload_n 0, 1, 0, 0, 0, 0, 0),
  (32, .getfield 9, 3, 7, 0, 0, 0, 0),
  (35, .iload_n 1, 1, 1, 0, 0, 0, 0),
  (36, .iaload, 1, 0, 0, 0, 0, 0),
  (37, .bipush 59, 2, 0, 0, 0, 59, 0),
  (39, .if_icmp .ne 8, 3, 47, 0, 0, 0, 0),
  (42, .bipush 20, 2, 0, 0, 0, 20, 0),
  (44, .goto 5, 3, 49, 0, 0, 0, 0),
  (47, .bipush 22, 2, 0, 0, 0, 22, 0),
  (49, .ireturn, 1, 0, 0, 0, 0, 0),
  (50, .iload_n 2, 1, 2, 0, 0, 0, 0),
  (51, .iload_n 1, 1, 1, 0, 0, 0, 0),
  (52, .isub, 1, 0, 0, 0, 0, 0),
  (53, .iconst 2, 1, 0, 0, 0, 2, 0),
  (54, .if_icmp .le 6, 3, 60, 0, 0, 0, 0),
  (57, .bipush 22, 2, 0, 0, 0, 22, 0),
  (59, .ireturn, 1, 0, 0, 0, 0, 0),
  (60, .iconst 0, 1, 0, 0, 0, 0, 0),
  (61, .istore_n 3, 1, 3, 0, 0, 0, 0),
  (62, .iload_n 1, 1, 1, 0, 0, 0, 0),
  (63, .istore 4, 2, 4, 0, 0, 0, 0),
  (65, .iload 4, 2, 4, 0, 0, 0, 0),
  (67, .iload_n 2, 1, 2, 0, 0, 0, 0),
  (68, .if_icmp .ge 25, 3, 93, 0, 0, 0, 0),
  (71, .bipush 10, 2, 0, 0, 0, 10, 0),
  (73, .iload_n 3, 1, 3, 0, 0, 0, 0),
  (74, .imul, 1, 0, 0, 0, 0, 0),
  (75, .aload_n 0, 1, 0, 0, 0, 0, 0),
  (76, .getfield 9, 3, 7, 0, 0, 0, 0),
  (79, .iload 4, 2, 4, 0, 0, 0, 0),
  (81, .iaload, 1, 0, 0, 0, 0, 0),
  (82, .iadd, 1, 0, 0, 0, 0, 0),
  (83, .bipush 48, 2, 0, 0, 0, 48, 0),
  (85, .isub, 1, 0, 0, 0, 0, 0),
  (86, .istore_n 3, 1, 3, 0, 0, 0, 0),
  (87, .iinc 4 1, 3, 4, 0, 0, 1, 0),
  (90, .goto (-25), 3, 65, 0, 0, 0, 0),
  (93, .bipush 100, 2, 0, 0, 0, 100, 0),
  (95, .iload_n 3, 1, 3, 0, 0, 0, 0),
  (96, .iadd, 1, 0, 0, 0, 0, 0),
  (97, .ireturn, 1, 0, 0, 0, 0, 0)]
def hbk47 : List (Nat × hbR) := [(0, .iconst 0, 1, 0, 0, 0, 0, 0),
  (1, .istore_n 3, 1, 3, 0, 0, 0, 0),
  (2, .iload_n 1, 1, 1, 0, 0, 0, 0),
  (3, .istore 4, 2, 4, 0, 0, 0, 0),
  (5, .iconst 1, 1, 0, 0, 0, 1, 0),
  (6, .istore 5, 2, 5, 0, 0, 0, 0),
  (8, .iconst 0, 1, 0, 0, 0, 0, 0),
  (9, .istore 6, 2, 6, 0, 0, 0, 0),
  (11, .iload 6, 2, 6, 0, 0, 0, 0),
  (13, .ldc 43, 2, 0, 0, 1, 0, 0),
  (15, .invokevirtual 45, 3, 191, 0, 2, 0, 0),
  (18, .if_icmp .ge 84, 3, 102, 0, 0, 0, 0),
  (21, .ldc 43, 2, 0, 0, 1, 0, 0),
  (23, .iload 6, 2, 6, 0, 0, 0, 0),
  (25, .invokevirtual 51, 3, 192, 1, 2, 0, 0),
  (28, .bipush 32, 2, 0, 0, 0, 32, 0),
  (30, .if_icmp .eq 44, 3, 74, 0, 0, 0, 0),
  (33, .iload 5, 2, 5, 0, 0, 0, 0),
  (35, .ifCond .eq 30, 3, 65, 0, 0, 0, 0),
  (38, .iload 4, 2, 4, 0, 0, 0, 0),
  (40, .iload_n 2, 1, 2, 0, 0, 0, 0),
  (41, .if_icmp .ge 24, 3, 65, 0, 0, 0, 0),
  (44, .aload_n 0, 1, 0, 0, 0, 0, 0),
  (45, .getfield 9, 3, 7, 0, 0, 0, 0),
  (48, .iload 4, 2, 4, 0, 0, 0, 0),
  (50, .iaload, 1, 0, 0, 0, 0, 0),
  (51, .ldc 43, 2, 0, 0, 1, 0, 0),
  (53, .iload 6, 2, 6, 0, 0, 0, 0),
  (55, .invokevirtual 51, 3, 192, 1, 2, 0, 0),
  (58, .if_icmp .ne 7, 3, 65, 0, 0, 0, 0),
  (61, .iconst 1, 1, 0, 0, 0, 1, 0),
  (62, .goto 4, 3, 66, 0, 0, 0, 0),
  (65, .iconst 0, 1, 0, 0, 0, 0, 0),
  (66, .istore 5, 2, 5, 0, 0, 0, 0),
  (68, .iinc 4 1, 3, 4, 0, 0, 1, 0),
  (71, .goto 25, 3, 96, 0, 0, 0, 0),
  (74, .iload 5, 2, 5, 0, 0, 0, 0),
  (76, .ifCond .eq 11, 3, 87, 0, 0, 0, 0),
  (79, .iload 4, 2, 4, 0, 0, 0, 0),
  (81, .iload_n 2, 1, 2, 0, 0, 0, 0),
  (82, .if_icmp .ne 5, 3, 87, 0, 0, 0, 0),
  (85, .iload_n 3, 1, 3, 0, 0, 0, 0),
  (86, .ireturn, 1, 0, 0, 0, 0, 0),
  (87, .iinc 3 1, 3, 3, 0, 0, 1, 0),
  (90, .iload_n 1, 1, 1, 0, 0, 0, 0),
  (91, .istore 4, 2, 4, 0, 0, 0, 0),
  (93, .iconst 1, 1, 0, 0, 0, 1, 0),
  (94, .istore 5, 2, 5, 0, 0, 0, 0),
  (96, .iinc 6 1, 3, 6, 0, 0, 1, 0),
  (99, .goto (-88), 3, 11, 0, 0, 0, 0),
  (102, .bipush 22, 2, 0, 0, 0, 22, 0),
  (104, .ireturn, 1, 0, 0, 0, 0, 0)]
def hbk48 : List (Nat × hbR) := [(0, .iload_n 0, 1, 0, 0, 0, 0, 0),
  (1, .bipush 97, 2, 0, 0, 0, 97, 0),
  (3, .if_icmp .lt 13, 3, 16, 0, 0, 0, 0),
  (6, .iload_n 0, 1, 0, 0, 0, 0, 0),
  (7, .bipush 122, 2, 0, 0, 0, 122, 0),
  (9, .if_icmp .gt 7, 3, 16, 0, 0, 0, 0),
  (12, .iconst 1, 1, 0, 0, 0, 1, 0),
  (13, .goto 4, 3, 17, 0, 0, 0, 0),
  (16, .iconst 0, 1, 0, 0, 0, 0, 0),
  (17, .ireturn, 1, 0, 0, 1, 0, 0)]
def hbk49 : List (Nat × hbR) := [(0, .iload_n 0, 1, 0, 0, 0, 0, 0),
  (1, .bipush 48, 2, 0, 0, 0, 48, 0),
  (3, .if_icmp .lt 13, 3, 16, 0, 0, 0, 0),
  (6, .iload_n 0, 1, 0, 0, 0, 0, 0),
  (7, .bipush 57, 2, 0, 0, 0, 57, 0),
  (9, .if_icmp .gt 7, 3, 16, 0, 0, 0, 0),
  (12, .iconst 1, 1, 0, 0, 0, 1, 0),
  (13, .goto 4, 3, 17, 0, 0, 0, 0),
  (16, .iconst 0, 1, 0, 0, 0, 0, 0),
  (17, .ireturn, 1, 0, 0, 1, 0, 0)]
def hbk50 : List (Nat × hbR) := [(0, .aload_n 0, 1, 0, 0, 0, 0, 0),
  (1, .iload_n 3, 1, 3, 0, 0, 0, 0),
  (2, .invokevirtual 33, 3, 51, 1, 0, 0, 0),
  (5, .iconst 0, 1, 0, 0, 0, 0, 0),
  (6, .istore 4, 2, 4, 0, 0, 0, 0),
  (8, .iconst 0, 1, 0, 0, 0, 0, 0),
  (9, .istore 5, 2, 5, 0, 0, 0, 0),
  (11, .aload_n 0, 1, 0, 0, 0, 0, 0),
  (12, .getfield 29, 3, 8, 2, 0, 0, 0),
  (15, .getfield 37, 3, 4, 0, 0, 0, 0),
  (18, .astore 6, 2, 6, 0, 0, 0, 0),
  (20, .aload_n 0, 1, 0, 0, 0, 0, 0),
  (21, .getfield 29, 3, 8, 2, 0, 0, 0),
  (24, .getfield 42, 3, 4, 1, 0, 0, 0),
  (27, .astore 7, 2, 7, 0, 0, 0, 0),
  (29, .aload_n 0, 1, 0, 0, 0, 0, 0),
  (30, .aload 6, 2, 6, 0, 0, 0, 0),
  (32, .iconst 0, 1, 0, 0, 0, 0, 0),
  (33, .iload_n 1, 1, 1, 0, 0, 0, 0),
  (34, .iconst 0, 1, 0, 0, 0, 0, 0),
  (35, .invokevirtual 45, 3, 52, 4, 0, 0, 0),
  (38, .istore 8, 2, 8, 0, 0, 0, 0),
  (40, .iconst 0, 1, 0, 0, 0, 0, 0),
  (41, .istore 9, 2, 9, 0, 0, 0, 0),
  (43, .iload 9, 2, 9, 0, 0, 0, 0),
  (45, .iload_n 2, 1, 2, 0, 0, 0, 0),
  (46, .if_icmp .gt 113, 3, 159, 0, 0, 0, 0),
  (49, .aload_n 0, 1, 0, 0, 0, 0, 0),
  (50, .aload 6, 2, 6, 0, 0, 0, 0),
  (52, .iload 8, 2, 8, 0, 0, 0, 0),
  (54, .iload 9, 2, 9, 0, 0, 0, 0),
  (56, .invokevirtual 49, 3, 53, 3, 0, 0, 0),
  (59, .istore 8, 2, 8, 0, 0, 0, 0),
  (61, .iload 4, 2, 4, 0, 0, 0, 0),
  (63, .iload 8, 2, 8, 0, 0, 0, 0),
  (65, .iadd, 1, 0, 0, 0, 0, 0),
  (66, .istore 4, 2, 4, 0, 0, 0, 0),
  (68, .iconst 0, 1, 0, 0, 0, 0, 0),
  (69, .istore 10, 2, 10, 0, 0, 0, 0),
  (71, .iload 10, 2, 10, 0, 0, 0, 0),
  (73, .iload 8, 2, 8, 0, 0, 0, 0),
  (75, .if_icmp .ge 40, 3, 115, 0, 0, 0, 0),
  (78, .iload_n 3, 1, 3, 0, 0, 0, 0),
  (79, .iconst 4, 1, 0, 0, 0, 4, 0),
  (80, .if_icmp .ne 35, 3, 115, 0, 0, 0, 0),
  (83, .iload 5, 2, 5, 0, 0, 0, 0),
  (85, .aload_n 0, 1, 0, 0, 0, 0, 0),
  (86, .aload 6, 2, 6, 0, 0, 0, 0),
  (88, .iload 10, 2, 10, 0, 0, 0, 0),
  (90, .iaload, 1, 0, 0, 0, 0, 0),
  (91, .invokevirtual 53, 3, 57, 1, 0, 0, 0),
  (94, .iconst 3, 1, 0, 0, 0, 3, 0),
  (95, .if_icmp .ne 7, 3, 102, 0, 0, 0, 0),
  (98, .iconst 1, 1, 0, 0, 0, 1, 0),
  (99, .goto 4, 3, 103, 0, 0, 0, 0),
  (102, .iconst 0, 1, 0, 0, 0, 0, 0),
  (103, .invokestatic 57, 3, 111, 1, 1, 0, 0),
  (106, .iadd, 1, 0, 0, 0, 0, 0),
  (107, .istore 5, 2, 5, 0, 0, 0, 0),
  (109, .iinc 10 1, 3, 10, 0, 0, 1, 0),
  (112, .goto (-41), 3, 71, 0, 0, 0, 0),
  (115, .iload 9, 2, 9, 0, 0, 0, 0),
  (117, .iload_n 2, 1, 2, 0, 0, 0, 0),
  (118, .if_icmp .ge 20, 3, 138, 0, 0, 0, 0),
  (121, .aload_n 0, 1, 0, 0, 0, 0, 0),
  (122, .aload 6, 2, 6, 0, 0, 0, 0),
  (124, .iload 8, 2, 8, 0, 0, 0, 0),
  (126, .aload 7, 2, 7, 0, 0, 0, 0),
  (128, .iload 9, 2, 9, 0, 0, 0, 0),
  (130, .iconst 1, 1, 0, 0, 0, 1, 0),
  (131, .iadd, 1, 0, 0, 0, 0, 0),
  (132, .invokevirtual 61, 3, 54, 4, 0, 0, 0),
  (135, .goto 4, 3, 139, 0, 0, 0, 0),
  (138, .iconst 0, 1, 0, 0, 0, 0, 0),
  (139, .istore 8, 2, 8, 0, 0, 0, 0),
  (141, .aload 6, 2, 6, 0, 0, 0, 0),
  (143, .astore 10, 2, 10, 0, 0, 0, 0),
  (145, .aload 7, 2, 7, 0, 0, 0, 0),
  (147, .astore 6, 2, 6, 0, 0, 0, 0),
  (149, .aload 10, 2, 10, 0, 0, 0, 0),
  (151, .astore 7, 2, 7, 0, 0, 0, 0),
  (153, .iinc 9 1, 3, 9, 0, 0, 1, 0),
  (156, .goto (-113), 3, 43, 0, 0, 0, 0),
  (159, .iload_n 3, 1, 3, 0, 0, 0, 0),
  (160, .tableswitch 53 0 3 #[32, 35, 43, 48], 32, 0, 0, 0, 0, 0),
  (192, .iload 4, 2, 4, 0, 0, 0, 0),
  (194, .ireturn, 1, 0, 0, 0, 0, 0),
  (195, .aload_n 0, 1, 0, 0, 0, 0, 0),
  (196, .getfield 65, 3, 8, 6, 0, 0, 0),
  (199, .invokestatic 57, 3, 111, 1, 1, 0, 0),
  (202, .ireturn, 1, 0, 0, 0, 0, 0),
  (203, .aload_n 0, 1, 0, 0, 0, 0, 0),
  (204, .getfield 69, 3, 8, 7, 0, 0, 0),
  (207, .ireturn, 1, 0, 0, 0, 0, 0),
  (208, .aload_n 0, 1, 0, 0, 0, 0, 0),
  (209, .getfield 73, 3, 8, 8, 0, 0, 0),
  (212, .ireturn, 1, 0, 0, 0, 0, 0),
  (213, .iload 5, 2, 5, 0, 0, 0, 0),
  (215, .ireturn, 1, 0, 0, 0, 0, 0)]
def hbk51 : List (Nat × hbR) := [(0, .aload_n 0, 1, 0, 0, 0, 0, 0),
  (1, .getfield 29, 3, 8, 2, 0, 0, 0),
  (4, .invokevirtual 76, 3, 27, 0, 0, 0, 0),
  (7, .aload_n 0, 1, 0, 0, 0, 0, 0),
  (8, .iload_n 1, 1, 1, 0, 0, 0, 0),
  (9, .iconst 1, 1, 0, 0, 0, 1, 0),
  (10, .if_icmp .ne 7, 3, 17, 0, 0, 0, 0),
  (13, .iconst 1, 1, 0, 0, 0, 1, 0),
  (14, .goto 4, 3, 18, 0, 0, 0, 0),
  (17, .iconst 0, 1, 0, 0, 0, 0, 0),
  (18, .putfield 78, 3, 8, 5, 1, 0, 0),
  (21, .aload_n 0, 1, 0, 0, 0, 0, 0),
  (22, .iconst 0, 1, 0, 0, 0, 0, 0),
  (23, .putfield 65, 3, 8, 6, 1, 0, 0),
  (26, .aload_n 0, 1, 0, 0, 0, 0, 0),
  (27, .iconst 0, 1, 0, 0, 0, 0, 0),
  (28, .putfield 69, 3, 8, 7, 0, 0, 0),
  (31, .aload_n 0, 1, 0, 0, 0, 0, 0),
  (32, .iconst 0, 1, 0, 0, 0, 0, 0),
  (33, .putfield 73, 3, 8, 8, 0, 0, 0),
  (36, .return_, 1, 0, 0, 0, 0, 0)]
def hbk52 : List (Nat × hbR) := [(0, .iload_n 3, 1, 3, 0, 0, 0, 0),
  (1, .ldc 81, 2, 0, 0, 0, (-1000000), 0),
  (3, .if_icmp .eq 23, 3, 26, 0, 0, 0, 0),
  (6, .iload_n 2, 1, 2, 0, 0, 0, 0),
  (7, .sipush 17408, 3, 0, 0, 0, 17408, 0),
  (10, .if_icmp .ge 16, 3, 26, 0, 0, 0, 0),
  (13, .aload_n 0, 1, 0, 0, 0, 0, 0),
  (14, .getfield 29, 3, 8, 2, 0, 0, 0),
  (17, .iload_n 3, 1, 3, 0, 0, 0, 0),
  (18, .iload 4, 2, 4, 0, 0, 0, 0),
  (20, .invokevirtual 82, 3, 28, 2, 0, 0, 0),
  (23, .ifCond .ne 5, 3, 28, 0, 0, 0, 0),
  (26, .iload_n 2, 1, 2, 0, 0, 0, 0),
  (27, .ireturn, 1, 0, 0, 0, 0, 0),
  (28, .aload_n 0, 1, 0, 0, 0, 0, 0),
  (29, .aload_n 0, 1, 0, 0, 0, 0, 0),
  (30, .getfield 65, 3, 8, 6, 0, 0, 0),
  (33, .ifCond .ne 19, 3, 52, 0, 0, 0, 0),
  (36, .aload_n 0, 1, 0, 0, 0, 0, 0),
  (37, .getfield 28, 3, 8, 1, 0, 0, 0),
  (40, .getfield 86, 3, 10, 6, 0, 0, 0),
  (43, .iload_n 3, 1, 3, 0, 0, 0, 0),
  (44, .sipush 1024, 3, 0, 0, 0, 1024, 0),
  (47, .irem, 1, 0, 0, 0, 0, 0),
  (48, .baload, 1, 0, 0, 0, 0, 0),
  (49, .ifCond .eq 7, 3, 56, 0, 0, 0, 0),
  (52, .iconst 1, 1, 0, 0, 0, 1, 0),
  (53, .goto 4, 3, 57, 0, 0, 0, 0),
  (56, .iconst 0, 1, 0, 0, 0, 0, 0),
  (57, .putfield 65, 3, 8, 6, 1, 0, 0),
  (60, .aload_n 1, 1, 1, 0, 0, 0, 0),
  (61, .iload_n 2, 1, 2, 0, 0, 0, 0),
  (62, .iload_n 3, 1, 3, 0, 0, 0, 0),
  (63, .iastore, 1, 0, 0, 0, 0, 0),
  (64, .iload_n 2, 1, 2, 0, 0, 0, 0),
  (65, .iconst 1, 1, 0, 0, 0, 1, 0),
  (66, .iadd, 1, 0, 0, 0, 0, 0),
  (67, .ireturn, 1, 0, 0, 0, 0, 0)]
def hbk53 : List (Nat × hbR) := [(0, .iload_n 2, 1, 2, 0, 0, 0, 0),
  (1, .istore 4, 2, 4, 0, 0, 0, 0),
  (3, .iconst 0, 1, 0, 0, 0, 0, 0),
  (4, .istore 5, 2, 5, 0, 0, 0, 0),
  (6, .iload 5, 2, 5, 0, 0, 0, 0),
  (8, .iload 4, 2, 4, 0, 0, 0, 0),
  (10, .if_icmp .ge 68, 3, 78, 0, 0, 0, 0),
  (13, .iload 5, 2, 5, 0, 0, 0, 0),
  (15, .sipush 17408, 3, 0, 0, 0, 17408, 0),
  (18, .if_icmp .ge 60, 3, 78, 0, 0, 0, 0),
  (21, .aload_n 0, 1, 0, 0, 0, 0, 0),
  (22, .invokevirtual 92, 3, 55, 0, 0, 0, 0),
  (25, .ifCond .ne 53, 3, 78, 0, 0, 0, 0),
  (28, .aload_n 0, 1, 0, 0, 0, 0, 0),
  (29, .getfield 18, 3, 8, 0, 0, 0, 0),
  (32, .aload_n 1, 1, 1, 0, 0, 0, 0),
  (33, .iload 5, 2, 5, 0, 0, 0, 0),
  (35, .iaload, 1, 0, 0, 0, 0, 0),
  (36, .invokevirtual 96, 3, 8, 1, 0, 0, 0),
  (39, .istore 6, 2, 6, 0, 0, 0, 0),
  (41, .iload 6, 2, 6, 0, 0, 0, 0),
  (43, .ldc 81, 2, 0, 0, 0, (-1000000), 0),
  (45, .if_icmp .ne 15, 3, 60, 0, 0, 0, 0),
  (48, .aload_n 0, 1, 0, 0, 0, 0, 0),
  (49, .aload_n 1, 1, 1, 0, 0, 0, 0),
  (50, .iload 5, 2, 5, 0, 0, 0, 0),
  (52, .iaload, 1, 0, 0, 0, 0, 0),
  (53, .sipush 1024, 3, 0, 0, 0, 1024, 0),
  (56, .irem, 1, 0, 0, 0, 0, 0),
  (57, .invokevirtual 99, 3, 56, 1, 0, 0, 0),
  (60, .aload_n 0, 1, 0, 0, 0, 0, 0),
  (61, .aload_n 1, 1, 1, 0, 0, 0, 0),
  (62, .iload 4, 2, 4, 0, 0, 0, 0),
  (64, .iload 6, 2, 6, 0, 0, 0, 0),
  (66, .iload_n 3, 1, 3, 0, 0, 0, 0),
  (67, .invokevirtual 45, 3, 52, 4, 0, 0, 0),
  (70, .istore 4, 2, 4, 0, 0, 0, 0),
  (72, .iinc 5 1, 3, 5, 0, 0, 1, 0),
  (75, .goto (-69), 3, 6, 0, 0, 0, 0),
  (78, .iload 4, 2, 4, 0, 0, 0, 0),
  (80, .ireturn, 1, 0, 0, 0, 0, 0)]
def hbk54 : List (Nat × hbR) := [(0, .iconst 0, 1, 0, 0, 0, 0, 0),
  (1, .istore 5, 2, 5, 0, 0, 0, 0),
  (3, .iconst 0, 1, 0, 0, 0, 0, 0),
  (4, .istore 6, 2, 6, 0, 0, 0, 0),
  (6, .iload 6, 2, 6, 0, 0, 0, 0),
  (8, .iload_n 2, 1, 2, 0, 0, 0, 0),
  (9, .if_icmp .ge 55, 3, 64, 0, 0, 0, 0),
  (12, .aload_n 0, 1, 0, 0, 0, 0, 0),
  (13, .invokevirtual 92, 3, 55, 0, 0, 0, 0),
  (16, .ifCond .ne 48, 3, 64, 0, 0, 0, 0),
  (19, .iconst 0, 1, 0, 0, 0, 0, 0),
  (20, .istore 7, 2, 7, 0, 0, 0, 0),
  (22, .iload 7, 2, 7, 0, 0, 0, 0),
  (24, .iconst 4, 1, 0, 0, 0, 4, 0),
  (25, .if_icmp .ge 33, 3, 58, 0, 0, 0, 0),
  (28, .aload_n 0, 1, 0, 0, 0, 0, 0),
  (29, .aload_n 3, 1, 3, 0, 0, 0, 0),
  (30, .iload 5, 2, 5, 0, 0, 0, 0),
  (32, .aload_n 0, 1, 0, 0, 0, 0, 0),
  (33, .getfield 18, 3, 8, 0, 0, 0, 0),
  (36, .aload_n 1, 1, 1, 0, 0, 0, 0),
  (37, .iload 6, 2, 6, 0, 0, 0, 0),
  (39, .iaload, 1, 0, 0, 0, 0, 0),
  (40, .iload 7, 2, 7, 0, 0, 0, 0),
  (42, .invokevirtual 102, 3, 10, 2, 0, 0, 0),
  (45, .iload 4, 2, 4, 0, 0, 0, 0),
  (47, .invokevirtual 45, 3, 52, 4, 0, 0, 0),
  (50, .istore 5, 2, 5, 0, 0, 0, 0),
  (52, .iinc 7 1, 3, 7, 0, 0, 1, 0),
  (55, .goto (-33), 3, 22, 0, 0, 0, 0),
  (58, .iinc 6 1, 3, 6, 0, 0, 1, 0),
  (61, .goto (-55), 3, 6, 0, 0, 0, 0),
  (64, .iload 5, 2, 5, 0, 0, 0, 0),
  (66, .ireturn, 1, 0, 0, 0, 0, 0)]
def hbk55 : List (Nat × hbR) := [(0, .aload_n 0, 1, 0, 0, 0, 0, 0),
  (1, .getfield 65, 3, 8, 6, 0, 0, 0),
  (4, .ifCond .eq 14, 3, 18, 0, 0, 0, 0),
  (7, .aload_n 0, 1, 0, 0, 0, 0, 0),
  (8, .getfield 78, 3, 8, 5, 0, 0, 0),
  (11, .ifCond .eq 7, 3, 18, 0, 0, 0, 0),
  (14, .iconst 1, 1, 0, 0, 0, 1, 0),
  (15, .goto 4, 3, 19, 0, 0, 0, 0),
  (18, .iconst 0, 1, 0, 0, 0, 0, 0),
  (19, .ireturn, 1, 0, 0, 1, 0, 0)]
def hbk56 : List (Nat × hbR) := [(0, .aload_n 0, 1, 0, 0, 0, 0, 0),
  (1, .getfield 9, 3, 8, 3, 0, 0, 0),
  (4, .iload_n 1, 1, 1, 0, 0, 0, 0),
  (5, .iaload, 1, 0, 0, 0, 0, 0),
  (6, .aload_n 0, 1, 0, 0, 0, 0, 0),
  (7, .getfield 29, 3, 8, 2, 0, 0, 0),
  (10, .getfield 106, 3, 4, 4, 0, 0, 0),
  (13, .if_icmp .eq 47, 3, 60, 0, 0, 0, 0),
  (16, .aload_n 0, 1, 0, 0, 0, 0, 0),
  (17, .getfield 9, 3, 8, 3, 0, 0, 0),
  (20, .iload_n 1, 1, 1, 0, 0, 0, 0),
  (21, .aload_n 0, 1, 0, 0, 0, 0, 0),
  (22, .getfield 29, 3, 8, 2, 0, 0, 0),
  (25, .getfield 106, 3, 4, 4, 0, 0, 0),
  (28, .iastore, 1, 0, 0, 0, 0, 0),
  (29, .aload_n 0, 1, 0, 0, 0, 0, 0),
  (30, .dup, 1, 0, 0, 0, 0, 0),
  (31, .getfield 69, 3, 8, 7, 0, 0, 0),
  (34, .iconst 1, 1, 0, 0, 0, 1, 0),
  (35, .iadd, 1, 0, 0, 0, 0, 0),
  (36, .putfield 69, 3, 8, 7, 0, 0, 0),
  (39, .aload_n 0, 1, 0, 0, 0, 0, 0),
  (40, .dup, 1, 0, 0, 0, 0, 0),
  (41, .getfield 73, 3, 8, 8, 0, 0, 0),
  (44, .aload_n 0, 1, 0, 0, 0, 0, 0),
  (45, .getfield 28, 3, 8, 1, 0, 0, 0),
  (48, .getfield 109, 3, 10, 7, 0, 0, 0),
  (51, .iload_n 1, 1, 1, 0, 0, 0, 0),
  (52, .baload, 1, 0, 0, 0, 0, 0),
  (53, .invokestatic 57, 3, 111, 1, 1, 0, 0),
  (56, .iadd, 1, 0, 0, 0, 0, 0),
  (57, .putfield 73, 3, 8, 8, 0, 0, 0),
  (60, .return_, 1, 0, 0, 0, 0, 0)]
def hbk57 : List (Nat × hbR) := [(0, .iconst 0, 1, 0, 0, 0, 0, 0),
  (1, .istore_n 2, 1, 2, 0, 0, 0, 0),
  (2, .iload_n 1, 1, 1, 0, 0, 0, 0),
  (3, .istore_n 3, 1, 3, 0, 0, 0, 0),
  (4, .iconst 0, 1, 0, 0, 0, 0, 0),
  (5, .istore 4, 2, 4, 0, 0, 0, 0),
  (7, .iload 4, 2, 4, 0, 0, 0, 0),
  (9, .sipush 17408, 3, 0, 0, 0, 17408, 0),
  (12, .if_icmp .gt 60, 3, 72, 0, 0, 0, 0),
  (15, .iload_n 2, 1, 2, 0, 0, 0, 0),
  (16, .ifCond .ne 56, 3, 72, 0, 0, 0, 0),
  (19, .aload_n 0, 1, 0, 0, 0, 0, 0),
  (20, .iload_n 3, 1, 3, 0, 0, 0, 0),
  (21, .invokevirtual 112, 3, 58, 1, 0, 0, 0),
  (24, .istore_n 2, 1, 2, 0, 0, 0, 0),
  (25, .iload_n 2, 1, 2, 0, 0, 0, 0),
  (26, .iconst 1, 1, 0, 0, 0, 1, 0),
  (27, .if_icmp .ne 8, 3, 35, 0, 0, 0, 0),
  (30, .iconst 3, 1, 0, 0, 0, 3, 0),
  (31, .istore_n 2, 1, 2, 0, 0, 0, 0),
  (32, .goto 34, 3, 66, 0, 0, 0, 0),
  (35, .iload_n 2, 1, 2, 0, 0, 0, 0),
  (36, .ifCond .ne 30, 3, 66, 0, 0, 0, 0),
  (39, .aload_n 0, 1, 0, 0, 0, 0, 0),
  (40, .iload_n 3, 1, 3, 0, 0, 0, 0),
  (41, .iconst 1, 1, 0, 0, 0, 1, 0),
  (42, .invokevirtual 115, 3, 59, 2, 0, 0, 0),
  (45, .aload_n 0, 1, 0, 0, 0, 0, 0),
  (46, .getfield 18, 3, 8, 0, 0, 0, 0),
  (49, .iload_n 3, 1, 3, 0, 0, 0, 0),
  (50, .invokevirtual 96, 3, 8, 1, 0, 0, 0),
  (53, .istore_n 3, 1, 3, 0, 0, 0, 0),
  (54, .iload_n 3, 1, 3, 0, 0, 0, 0),
  (55, .ldc 81, 2, 0, 0, 0, (-1000000), 0),
  (57, .if_icmp .ne 7, 3, 64, 0, 0, 0, 0),
  (60, .iconst 2, 1, 0, 0, 0, 2, 0),
  (61, .goto 4, 3, 65, 0, 0, 0, 0),
  (64, .iconst 0, 1, 0, 0, 0, 0, 0),
  (65, .istore_n 2, 1, 2, 0, 0, 0, 0),
  (66, .iinc 4 1, 3, 4, 0, 0, 1, 0),
  (69, .goto (-62), 3, 7, 0, 0, 0, 0),
  (72, .iload_n 1, 1, 1, 0, 0, 0, 0),
  (73, .istore_n 3, 1, 3, 0, 0, 0, 0),
  (74, .iconst 0, 1, 0, 0, 0, 0, 0),
  (75, .istore 4, 2, 4, 0, 0, 0, 0),
  (77, .iload 4, 2, 4, 0, 0, 0, 0),
  (79, .sipush 17408, 3, 0, 0, 0, 17408, 0),
  (82, .if_icmp .gt 39, 3, 121, 0, 0, 0, 0),
  (85, .iload_n 3, 1, 3, 0, 0, 0, 0),
  (86, .ldc 81, 2, 0, 0, 0, (-1000000), 0),
  (88, .if_icmp .eq 33, 3, 121, 0, 0, 0, 0),
  (91, .aload_n 0, 1, 0, 0, 0, 0, 0),
  (92, .iload_n 3, 1, 3, 0, 0, 0, 0),
  (93, .invokevirtual 112, 3, 58, 1, 0, 0, 0),
  (96, .iconst 1, 1, 0, 0, 0, 1, 0),
  (97, .if_icmp .ne 24, 3, 121, 0, 0, 0, 0),
  (100, .aload_n 0, 1, 0, 0, 0, 0, 0),
  (101, .iload_n 3, 1, 3, 0, 0, 0, 0),
  (102, .iload_n 2, 1, 2, 0, 0, 0, 0),
  (103, .invokevirtual 115, 3, 59, 2, 0, 0, 0),
  (106, .aload_n 0, 1, 0, 0, 0, 0, 0),
  (107, .getfield 18, 3, 8, 0, 0, 0, 0),
  (110, .iload_n 3, 1, 3, 0, 0, 0, 0),
  (111, .invokevirtual 96, 3, 8, 1, 0, 0, 0),
  (114, .istore_n 3, 1, 3, 0, 0, 0, 0),
  (115, .iinc 4 1, 3, 4, 0, 0, 1, 0),
  (118, .goto (-41), 3, 77, 0, 0, 0, 0),
  (121, .iload_n 2, 1, 2, 0, 0, 0, 0),
  (122, .ireturn, 1, 0, 0, 0, 0, 0)]
def hbk58 : List (Nat × hbR) := [(0, .aload_n 0, 1, 0, 0, 0, 0, 0),
  (1, .getfield 15, 3, 8, 4, 0, 0, 0),
  (4, .iload_n 1, 1, 1, 0, 0, 0, 0),
  (5, .iaload, 1, 0, 0, 0, 0, 0),
  (6, .istore_n 2, 1, 2, 0, 0, 0, 0),
  (7, .iload_n 2, 1, 2, 0, 0, 0, 0),
  (8, .iconst 2, 1, 0, 0, 0, 2, 0),
  (9, .ishr, 1, 0, 0, 0, 0, 0),
  (10, .aload_n 0, 1, 0, 0, 0, 0, 0),
  (11, .getfield 29, 3, 8, 2, 0, 0, 0),
  (14, .getfield 106, 3, 4, 4, 0, 0, 0),
  (17, .if_icmp .ne 9, 3, 26, 0, 0, 0, 0),
  (20, .iload_n 2, 1, 2, 0, 0, 0, 0),
  (21, .iconst 3, 1, 0, 0, 0, 3, 0),
  (22, .iand, 1, 0, 0, 0, 0, 0),
  (23, .goto 4, 3, 27, 0, 0, 0, 0),
  (26, .iconst 0, 1, 0, 0, 0, 0, 0),
  (27, .ireturn, 1, 0, 0, 0, 0, 0)]
def hbk59 : List (Nat × hbR) := [(0, .aload_n 0, 1, 0, 0, 0, 0, 0),
  (1, .getfield 15, 3, 8, 4, 0, 0, 0),
  (4, .iload_n 1, 1, 1, 0, 0, 0, 0),
  (5, .aload_n 0, 1, 0, 0, 0, 0, 0),
  (6, .getfield 29, 3, 8, 2, 0, 0, 0),
  (9, .getfield 106, 3, 4, 4, 0, 0, 0),
  (12, .iconst 2, 1, 0, 0, 0, 2, 0),
  (13, .ishl, 1, 0, 0, 0, 0, 0),
  (14, .iload_n 2, 1, 2, 0, 0, 0, 0),
  (15, .ior, 1, 0, 0, 0, 0, 0),
  (16, .iastore, 1, 0, 0, 0, 0, 0),
  (17, .return_, 1, 0, 0, 0, 0, 0)]
def hbk60 : List (Nat × hbR) := [(0, .bipush 16, 2, 0, 0, 0, 16, 0),
  (2, .istore_n 2, 1, 2, 0, 0, 0, 0),
  (3, .aload_n 0, 1, 0, 0, 0, 0, 0),
  (4, .iload_n 1, 1, 1, 0, 0, 0, 0),
  (5, .iconst 0, 1, 0, 0, 0, 0, 0),
  (6, .invokevirtual 119, 3, 62, 2, 0, 0, 0),
  (9, .ifCond .eq 7, 3, 16, 0, 0, 0, 0),
  (12, .iconst 0, 1, 0, 0, 0, 0, 0),
  (13, .goto 5, 3, 18, 0, 0, 0, 0),
  (16, .ldc 81, 2, 0, 0, 0, (-1000000), 0),
  (18, .istore_n 3, 1, 3, 0, 0, 0, 0),
  (19, .iconst 0, 1, 0, 0, 0, 0, 0),
  (20, .istore 4, 2, 4, 0, 0, 0, 0),
  (22, .iload 4, 2, 4, 0, 0, 0, 0),
  (24, .iload_n 2, 1, 2, 0, 0, 0, 0),
  (25, .if_icmp .ge 46, 3, 71, 0, 0, 0, 0),
  (28, .iload_n 3, 1, 3, 0, 0, 0, 0),
  (29, .ldc 81, 2, 0, 0, 0, (-1000000), 0),
  (31, .if_icmp .ne 40, 3, 71, 0, 0, 0, 0),
  (34, .aload_n 0, 1, 0, 0, 0, 0, 0),
  (35, .iload 4, 2, 4, 0, 0, 0, 0),
  (37, .invokevirtual 122, 3, 61, 1, 0, 0, 0),
  (40, .ifCond .eq 22, 3, 62, 0, 0, 0, 0),
  (43, .aload_n 0, 1, 0, 0, 0, 0, 0),
  (44, .iload_n 1, 1, 1, 0, 0, 0, 0),
  (45, .iconst 1, 1, 0, 0, 0, 1, 0),
  (46, .iload 4, 2, 4, 0, 0, 0, 0),
  (48, .ishl, 1, 0, 0, 0, 0, 0),
  (49, .invokevirtual 119, 3, 62, 2, 0, 0, 0),
  (52, .ifCond .eq 10, 3, 62, 0, 0, 0, 0),
  (55, .iconst 1, 1, 0, 0, 0, 1, 0),
  (56, .iload 4, 2, 4, 0, 0, 0, 0),
  (58, .ishl, 1, 0, 0, 0, 0, 0),
  (59, .goto 5, 3, 64, 0, 0, 0, 0),
  (62, .ldc 81, 2, 0, 0, 0, (-1000000), 0),
  (64, .istore_n 3, 1, 3, 0, 0, 0, 0),
  (65, .iinc 4 1, 3, 4, 0, 0, 1, 0),
  (68, .goto (-46), 3, 22, 0, 0, 0, 0),
  (71, .iconst 0, 1, 0, 0, 0, 0, 0),
  (72, .istore 4, 2, 4, 0, 0, 0, 0),
  (74, .iload 4, 2, 4, 0, 0, 0, 0),
  (76, .iload_n 2, 1, 2, 0, 0, 0, 0),
  (77, .if_icmp .ge 84, 3, 161, 0, 0, 0, 0),
  (80, .iload_n 3, 1, 3, 0, 0, 0, 0),
  (81, .ldc 81, 2, 0, 0, 0, (-1000000), 0),
  (83, .if_icmp .ne 78, 3, 161, 0, 0, 0, 0),
  (86, .iconst 0, 1, 0, 0, 0, 0, 0),
  (87, .istore 5, 2, 5, 0, 0, 0, 0),
  (89, .iload 5, 2, 5, 0, 0, 0, 0),
  (91, .iload 4, 2, 4, 0, 0, 0, 0),
  (93, .if_icmp .ge 62, 3, 155, 0, 0, 0, 0),
  (96, .iload_n 3, 1, 3, 0, 0, 0, 0),
  (97, .ldc 81, 2, 0, 0, 0, (-1000000), 0),
  (99, .if_icmp .ne 56, 3, 155, 0, 0, 0, 0),
  (102, .iconst 1, 1, 0, 0, 0, 1, 0),
  (103, .iload 4, 2, 4, 0, 0, 0, 0),
  (105, .ishl, 1, 0, 0, 0, 0, 0),
  (106, .iconst 1, 1, 0, 0, 0, 1, 0),
  (107, .iload 5, 2, 5, 0, 0, 0, 0),
  (109, .ishl, 1, 0, 0, 0, 0, 0),
  (110, .ior, 1, 0, 0, 0, 0, 0),
  (111, .istore 6, 2, 6, 0, 0, 0, 0),
  (113, .aload_n 0, 1, 0, 0, 0, 0, 0),
  (114, .iload 4, 2, 4, 0, 0, 0, 0),
  (116, .invokevirtual 122, 3, 61, 1, 0, 0, 0),
  (119, .ifCond .eq 27, 3, 146, 0, 0, 0, 0),
  (122, .aload_n 0, 1, 0, 0, 0, 0, 0),
  (123, .iload 5, 2, 5, 0, 0, 0, 0),
  (125, .invokevirtual 122, 3, 61, 1, 0, 0, 0),
  (128, .ifCond .eq 18, 3, 146, 0, 0, 0, 0),
  (131, .aload_n 0, 1, 0, 0, 0, 0, 0),
  (132, .iload_n 1, 1, 1, 0, 0, 0, 0),
  (133, .iload 6, 2, 6, 0, 0, 0, 0),
  (135, .invokevirtual 119, 3, 62, 2, 0, 0, 0),
  (138, .ifCond .eq 8, 3, 146, 0, 0, 0, 0),
  (141, .iload 6, 2, 6, 0, 0, 0, 0),
  (143, .goto 5, 3, 148, 0, 0, 0, 0),
  (146, .ldc 81, 2, 0, 0, 0, (-1000000), 0),
  (148, .istore_n 3, 1, 3, 0, 0, 0, 0),
  (149, .iinc 5 1, 3, 5, 0, 0, 1, 0),
  (152, .goto (-63), 3, 89, 0, 0, 0, 0),
  (155, .iinc 4 1, 3, 4, 0, 0, 1, 0),
  (158, .goto (-84), 3, 74, 0, 0, 0, 0),
  (161, .iload_n 3, 1, 3, 0, 0, 0, 0),
  (162, .ireturn, 1, 0, 0, 0, 0, 0)]
def hbk61 : List (Nat × hbR) := [(0, .iload_n 1, 1, 1, 0, 0, 0, 0),
  (1, .iconst 4, 1, 0, 0, 0, 4, 0),
  (2, .idiv, 1, 0, 0, 0, 0, 0),
  (3, .iload_n 1, 1, 1, 0, 0, 0, 0),
  (4, .iconst 4, 1, 0, 0, 0, 4, 0),
  (5, .irem, 1, 0, 0, 0, 0, 0),
  (6, .if_icmp .eq 21, 3, 27, 0, 0, 0, 0),
  (9, .aload_n 0, 1, 0, 0, 0, 0, 0),
  (10, .getfield 28, 3, 8, 1, 0, 0, 0),
  (13, .getfield 126, 3, 10, 10, 0, 0, 0),
  (16, .iload_n 1, 1, 1, 0, 0, 0, 0),
  (17, .ishr, 1, 0, 0, 0, 0, 0),
  (18, .iconst 1, 1, 0, 0, 0, 1, 0),
  (19, .iand, 1, 0, 0, 0, 0, 0),
  (20, .ifCond .ne 7, 3, 27, 0, 0, 0, 0),
  (23, .iconst 1, 1, 0, 0, 0, 1, 0),
  (24, .goto 4, 3, 28, 0, 0, 0, 0),
  (27, .iconst 0, 1, 0, 0, 0, 0, 0),
  (28, .ireturn, 1, 0, 0, 1, 0, 0)]
def hbk62 : List (Nat × hbR) := [(0, .aload_n 0, 1, 0, 0, 0, 0, 0),
  (1, .getfield 28, 3, 8, 1, 0, 0, 0),
  (4, .getfield 126, 3, 10, 10, 0, 0, 0),
  (7, .istore_n 3, 1, 3, 0, 0, 0, 0),
  (8, .aload_n 0, 1, 0, 0, 0, 0, 0),
  (9, .getfield 28, 3, 8, 1, 0, 0, 0),
  (12, .iload_n 3, 1, 3, 0, 0, 0, 0),
  (13, .iload_n 2, 1, 2, 0, 0, 0, 0),
  (14, .ior, 1, 0, 0, 0, 0, 0),
  (15, .putfield 126, 3, 10, 10, 0, 0, 0),
  (18, .aload_n 0, 1, 0, 0, 0, 0, 0),
  (19, .iload_n 1, 1, 1, 0, 0, 0, 0),
  (20, .iconst 1, 1, 0, 0, 0, 1, 0),
  (21, .iconst 1, 1, 0, 0, 0, 1, 0),
  (22, .invokevirtual 129, 3, 50, 3, 0, 0, 0),
  (25, .ifCond .ne 7, 3, 32, 0, 0, 0, 0),
  (28, .iconst 1, 1, 0, 0, 0, 1, 0),
  (29, .goto 4, 3, 33, 0, 0, 0, 0),
  (32, .iconst 0, 1, 0, 0, 0, 0, 0),
  (33, .istore 4, 2, 4, 0, 0, 0, 0),
  (35, .aload_n 0, 1, 0, 0, 0, 0, 0),
  (36, .getfield 28, 3, 8, 1, 0, 0, 0),
  (39, .iload_n 3, 1, 3, 0, 0, 0, 0),
  (40, .putfield 126, 3, 10, 10, 0, 0, 0),
  (43, .iload 4, 2, 4, 0, 0, 0, 0),
  (45, .ireturn, 1, 0, 0, 1, 0, 0)]
def hbk63 : List (Nat × hbR) := [(0, .aload_n 0, 1, 0, 0, 0, 0, 0),
  (1, .getfield 22, 3, 9, 2, 0, 0, 0),
  (4, .invokevirtual 26, 3, 27, 0, 0, 0, 0),
  (7, .aload_n 0, 1, 0, 0, 0, 0, 0),
  (8, .iconst 0, 1, 0, 0, 0, 0, 0),
  (9, .putfield 31, 3, 9, 5, 1, 0, 0),
  (12, .aload_n 0, 1, 0, 0, 0, 0, 0),
  (13, .ldc 35, 2, 0, 0, 0, (-1000000), 0),
  (15, .putfield 36, 3, 9, 3, 0, 0, 0),
  (18, .iconst 0, 1, 0, 0, 0, 0, 0),
  (19, .istore_n 2, 1, 2, 0, 0, 0, 0),
  (20, .iload_n 1, 1, 1, 0, 0, 0, 0),
  (21, .istore_n 3, 1, 3, 0, 0, 0, 0),
  (22, .iconst 0, 1, 0, 0, 0, 0, 0),
  (23, .istore 4, 2, 4, 0, 0, 0, 0),
  (25, .iload 4, 2, 4, 0, 0, 0, 0),
  (27, .sipush 17408, 3, 0, 0, 0, 17408, 0),
  (30, .if_icmp .ge 103, 3, 133, 0, 0, 0, 0),
  (33, .iload_n 3, 1, 3, 0, 0, 0, 0),
  (34, .ldc 35, 2, 0, 0, 0, (-1000000), 0),
  (36, .if_icmp .eq 97, 3, 133, 0, 0, 0, 0),
  (39, .aload_n 0, 1, 0, 0, 0, 0, 0),
  (40, .getfield 22, 3, 9, 2, 0, 0, 0),
  (43, .iload_n 3, 1, 3, 0, 0, 0, 0),
  (44, .iconst 0, 1, 0, 0, 0, 0, 0),
  (45, .invokevirtual 40, 3, 28, 2, 0, 0, 0),
  (48, .ifCond .eq 85, 3, 133, 0, 0, 0, 0),
  (51, .iload_n 3, 1, 3, 0, 0, 0, 0),
  (52, .sipush 1024, 3, 0, 0, 0, 1024, 0),
  (55, .irem, 1, 0, 0, 0, 0, 0),
  (56, .istore 5, 2, 5, 0, 0, 0, 0),
  (58, .aload_n 0, 1, 0, 0, 0, 0, 0),
  (59, .aload_n 0, 1, 0, 0, 0, 0, 0),
  (60, .getfield 31, 3, 9, 5, 0, 0, 0),
  (63, .ifCond .ne 16, 3, 79, 0, 0, 0, 0),
  (66, .aload_n 0, 1, 0, 0, 0, 0, 0),
  (67, .getfield 21, 3, 9, 1, 0, 0, 0),
  (70, .getfield 44, 3, 10, 6, 0, 0, 0),
  (73, .iload 5, 2, 5, 0, 0, 0, 0),
  (75, .baload, 1, 0, 0, 0, 0, 0),
  (76, .ifCond .eq 7, 3, 83, 0, 0, 0, 0),
  (79, .iconst 1, 1, 0, 0, 0, 1, 0),
  (80, .goto 4, 3, 84, 0, 0, 0, 0),
  (83, .iconst 0, 1, 0, 0, 0, 0, 0),
  (84, .putfield 31, 3, 9, 5, 1, 0, 0),
  (87, .iload_n 2, 1, 2, 0, 0, 0, 0),
  (88, .aload_n 0, 1, 0, 0, 0, 0, 0),
  (89, .getfield 9, 3, 9, 0, 0, 0, 0),
  (92, .iload_n 3, 1, 3, 0, 0, 0, 0),
  (93, .invokevirtual 50, 3, 9, 1, 0, 0, 0),
  (96, .invokestatic 54, 3, 111, 1, 1, 0, 0),
  (99, .iadd, 1, 0, 0, 0, 0, 0),
  (100, .istore_n 2, 1, 2, 0, 0, 0, 0),
  (101, .aload_n 0, 1, 0, 0, 0, 0, 0),
  (102, .getfield 9, 3, 9, 0, 0, 0, 0),
  (105, .iload_n 3, 1, 3, 0, 0, 0, 0),
  (106, .invokevirtual 58, 3, 8, 1, 0, 0, 0),
  (109, .istore_n 3, 1, 3, 0, 0, 0, 0),
  (110, .aload_n 0, 1, 0, 0, 0, 0, 0),
  (111, .iload_n 3, 1, 3, 0, 0, 0, 0),
  (112, .ldc 35, 2, 0, 0, 0, (-1000000), 0),
  (114, .if_icmp .ne 8, 3, 122, 0, 0, 0, 0),
  (117, .iload 5, 2, 5, 0, 0, 0, 0),
  (119, .goto 5, 3, 124, 0, 0, 0, 0),
  (122, .ldc 35, 2, 0, 0, 0, (-1000000), 0),
  (124, .putfield 36, 3, 9, 3, 0, 0, 0),
  (127, .iinc 4 1, 3, 4, 0, 0, 1, 0),
  (130, .goto (-105), 3, 25, 0, 0, 0, 0),
  (133, .aload_n 0, 1, 0, 0, 0, 0, 0),
  (134, .aload_n 0, 1, 0, 0, 0, 0, 0),
  (135, .getfield 36, 3, 9, 3, 0, 0, 0),
  (138, .ldc 35, 2, 0, 0, 0, (-1000000), 0),
  (140, .if_icmp .ne 8, 3, 148, 0, 0, 0, 0),
  (143, .ldc 35, 2, 0, 0, 0, (-1000000), 0),
  (145, .goto 4, 3, 149, 0, 0, 0, 0),
  (148, .iload_n 2, 1, 2, 0, 0, 0, 0),
  (149, .putfield 62, 3, 9, 4, 0, 0, 0),
  (152, .return_, 1, 0, 0, 0, 0, 0)]
def hbk64 : List (Nat × hbR) := [(0, .aload_n 0, 1, 0, 0, 0, 0, 0),
  (1, .iconst 1, 1, 0, 0, 0, 1, 0),
  (2, .putfield 65, 3, 9, 8, 1, 0, 0),
  (5, .iload_n 1, 1, 1, 0, 0, 0, 0),
  (6, .istore 4, 2, 4, 0, 0, 0, 0),
  (8, .iload_n 1, 1, 1, 0, 0, 0, 0),
  (9, .istore 5, 2, 5, 0, 0, 0, 0),
  (11, .iconst 1, 1, 0, 0, 0, 1, 0),
  (12, .istore 6, 2, 6, 0, 0, 0, 0),
  (14, .iload 6, 2, 6, 0, 0, 0, 0),
  (16, .bipush 50, 2, 0, 0, 0, 50, 0),
  (18, .if_icmp .gt 45, 3, 63, 0, 0, 0, 0),
  (21, .aload_n 0, 1, 0, 0, 0, 0, 0),
  (22, .iload 4, 2, 4, 0, 0, 0, 0),
  (24, .ldc 35, 2, 0, 0, 0, (-1000000), 0),
  (26, .iload_n 3, 1, 3, 0, 0, 0, 0),
  (27, .invokevirtual 68, 3, 65, 3, 0, 0, 0),
  (30, .istore 4, 2, 4, 0, 0, 0, 0),
  (32, .aload_n 0, 1, 0, 0, 0, 0, 0),
  (33, .iload 5, 2, 5, 0, 0, 0, 0),
  (35, .iload_n 2, 1, 2, 0, 0, 0, 0),
  (36, .iload_n 3, 1, 3, 0, 0, 0, 0),
  (37, .invokevirtual 68, 3, 65, 3, 0, 0, 0),
  (40, .istore 5, 2, 5, 0, 0, 0, 0),
  (42, .iload 4, 2, 4, 0, 0, 0, 0),
  (44, .iload 5, 2, 5, 0, 0, 0, 0),
  (46, .ixor, 1, 0, 0, 0, 0, 0),
  (47, .sipush 1008, 3, 0, 0, 0, 1008, 0),
  (50, .iand, 1, 0, 0, 0, 0, 0),
  (51, .ifCond .eq 6, 3, 57, 0, 0, 0, 0),
  (54, .iload 6, 2, 6, 0, 0, 0, 0),
  (56, .ireturn, 1, 0, 0, 0, 0, 0),
  (57, .iinc 6 1, 3, 6, 0, 0, 1, 0),
  (60, .goto (-46), 3, 14, 0, 0, 0, 0),
  (63, .ldc 35, 2, 0, 0, 0, (-1000000), 0),
  (65, .ireturn, 1, 0, 0, 0, 0, 0)]
def hbk65 : List (Nat × hbR) := [(0, .iload_n 1, 1, 1, 0, 0, 0, 0),
  (1, .istore 4, 2, 4, 0, 0, 0, 0),
  (3, .iconst 0, 1, 0, 0, 0, 0, 0),
  (4, .istore 5, 2, 5, 0, 0, 0, 0),
  (6, .iload 5, 2, 5, 0, 0, 0, 0),
  (8, .bipush 35, 2, 0, 0, 0, 35, 0),
  (10, .if_icmp .ge 129, 3, 139, 0, 0, 0, 0),
  (13, .aload_n 0, 1, 0, 0, 0, 0, 0),
  (14, .getfield 65, 3, 9, 8, 0, 0, 0),
  (17, .ifCond .eq 17, 3, 34, 0, 0, 0, 0),
  (20, .iload 4, 2, 4, 0, 0, 0, 0),
  (22, .sipush 1024, 3, 0, 0, 0, 1024, 0),
  (25, .idiv, 1, 0, 0, 0, 0, 0),
  (26, .iload_n 2, 1, 2, 0, 0, 0, 0),
  (27, .if_icmp .ne 7, 3, 34, 0, 0, 0, 0),
  (30, .iconst 1, 1, 0, 0, 0, 1, 0),
  (31, .goto 4, 3, 35, 0, 0, 0, 0),
  (34, .iconst 0, 1, 0, 0, 0, 0, 0),
  (35, .istore 6, 2, 6, 0, 0, 0, 0),
  (37, .iload 6, 2, 6, 0, 0, 0, 0),
  (39, .ifCond .eq 16, 3, 55, 0, 0, 0, 0),
  (42, .aload_n 0, 1, 0, 0, 0, 0, 0),
  (43, .getfield 9, 3, 9, 0, 0, 0, 0),
  (46, .iload 4, 2, 4, 0, 0, 0, 0),
  (48, .iload_n 3, 1, 3, 0, 0, 0, 0),
  (49, .invokevirtual 72, 3, 10, 2, 0, 0, 0),
  (52, .goto 5, 3, 57, 0, 0, 0, 0),
  (55, .ldc 35, 2, 0, 0, 0, (-1000000), 0),
  (57, .istore 7, 2, 7, 0, 0, 0, 0),
  (59, .iload_n 3, 1, 3, 0, 0, 0, 0),
  (60, .invokestatic 76, 3, 11, 1, 0, 0, 0),
  (63, .istore 8, 2, 8, 0, 0, 0, 0),
  (65, .iload 7, 2, 7, 0, 0, 0, 0),
  (67, .ldc 35, 2, 0, 0, 0, (-1000000), 0),
  (69, .if_icmp .ne 28, 3, 97, 0, 0, 0, 0),
  (72, .aload_n 0, 1, 0, 0, 0, 0, 0),
  (73, .getfield 9, 3, 9, 0, 0, 0, 0),
  (76, .iload 4, 2, 4, 0, 0, 0, 0),
  (78, .invokevirtual 50, 3, 9, 1, 0, 0, 0),
  (81, .istore 8, 2, 8, 0, 0, 0, 0),
  (83, .aload_n 0, 1, 0, 0, 0, 0, 0),
  (84, .getfield 9, 3, 9, 0, 0, 0, 0),
  (87, .iload 4, 2, 4, 0, 0, 0, 0),
  (89, .invokevirtual 58, 3, 8, 1, 0, 0, 0),
  (92, .istore 7, 2, 7, 0, 0, 0, 0),
  (94, .goto 8, 3, 102, 0, 0, 0, 0),
  (97, .aload_n 0, 1, 0, 0, 0, 0, 0),
  (98, .iconst 0, 1, 0, 0, 0, 0, 0),
  (99, .putfield 65, 3, 9, 8, 1, 0, 0),
  (102, .iload 7, 2, 7, 0, 0, 0, 0),
  (104, .ldc 35, 2, 0, 0, 0, (-1000000), 0),
  (106, .if_icmp .eq 8, 3, 114, 0, 0, 0, 0),
  (109, .iload 8, 2, 8, 0, 0, 0, 0),
  (111, .ifCond .eq 18, 3, 129, 0, 0, 0, 0),
  (114, .iload 7, 2, 7, 0, 0, 0, 0),
  (116, .ldc 35, 2, 0, 0, 0, (-1000000), 0),
  (118, .if_icmp .ne 8, 3, 126, 0, 0, 0, 0),
  (121, .iload 4, 2, 4, 0, 0, 0, 0),
  (123, .goto 5, 3, 128, 0, 0, 0, 0),
  (126, .iload 7, 2, 7, 0, 0, 0, 0),
  (128, .ireturn, 1, 0, 0, 0, 0, 0),
  (129, .iload 7, 2, 7, 0, 0, 0, 0),
  (131, .istore 4, 2, 4, 0, 0, 0, 0),
  (133, .iinc 5 1, 3, 5, 0, 0, 1, 0),
  (136, .goto (-130), 3, 6, 0, 0, 0, 0),
  (139, .iload 4, 2, 4, 0, 0, 0, 0),
  (141, .ireturn, 1, 0, 0, 0, 0, 0)]
def hbk66 : List (Nat × hbR) := [(0, .aload_n 0, 1, 0, 0, 0, 0, 0),
  (1, .ldc 35, 2, 0, 0, 0, (-1000000), 0),
  (3, .putfield 79, 3, 9, 6, 0, 0, 0),
  (6, .aload_n 0, 1, 0, 0, 0, 0, 0),
  (7, .ldc 35, 2, 0, 0, 0, (-1000000), 0),
  (9, .putfield 82, 3, 9, 7, 0, 0, 0),
  (12, .aload_n 0, 1, 0, 0, 0, 0, 0),
  (13, .getfield 21, 3, 9, 1, 0, 0, 0),
  (16, .getfield 44, 3, 10, 6, 0, 0, 0),
  (19, .iload_n 1, 1, 1, 0, 0, 0, 0),
  (20, .baload, 1, 0, 0, 0, 0, 0),
  (21, .ifCond .eq 4, 3, 25, 0, 0, 0, 0),
  (24, .return_, 1, 0, 0, 0, 0, 0),
  (25, .aload_n 0, 1, 0, 0, 0, 0, 0),
  (26, .getfield 21, 3, 9, 1, 0, 0, 0),
  (29, .getfield 85, 3, 10, 7, 0, 0, 0),
  (32, .iload_n 1, 1, 1, 0, 0, 0, 0),
  (33, .baload, 1, 0, 0, 0, 0, 0),
  (34, .ifCond .eq 9, 3, 43, 0, 0, 0, 0),
  (37, .aload_n 0, 1, 0, 0, 0, 0, 0),
  (38, .iconst 0, 1, 0, 0, 0, 0, 0),
  (39, .putfield 79, 3, 9, 6, 0, 0, 0),
  (42, .return_, 1, 0, 0, 0, 0, 0),
  (43, .aload_n 0, 1, 0, 0, 0, 0, 0),
  (44, .getfield 22, 3, 9, 2, 0, 0, 0),
  (47, .invokevirtual 26, 3, 27, 0, 0, 0, 0),
  (50, .aload_n 0, 1, 0, 0, 0, 0, 0),
  (51, .getfield 22, 3, 9, 2, 0, 0, 0),
  (54, .iload_n 1, 1, 1, 0, 0, 0, 0),
  (55, .iconst 0, 1, 0, 0, 0, 0, 0),
  (56, .invokevirtual 40, 3, 28, 2, 0, 0, 0),
  (59, .pop, 1, 0, 0, 0, 0, 0),
  (60, .aload_n 0, 1, 0, 0, 0, 0, 0),
  (61, .getfield 22, 3, 9, 2, 0, 0, 0),
  (64, .getfield 88, 3, 4, 0, 0, 0, 0),
  (67, .iconst 0, 1, 0, 0, 0, 0, 0),
  (68, .iload_n 1, 1, 1, 0, 0, 0, 0),
  (69, .iastore, 1, 0, 0, 0, 0, 0),
  (70, .aload_n 0, 1, 0, 0, 0, 0, 0),
  (71, .getfield 22, 3, 9, 2, 0, 0, 0),
  (74, .getfield 92, 3, 4, 1, 0, 0, 0),
  (77, .iload_n 1, 1, 1, 0, 0, 0, 0),
  (78, .iconst 0, 1, 0, 0, 0, 0, 0),
  (79, .iastore, 1, 0, 0, 0, 0, 0),
  (80, .iconst 1, 1, 0, 0, 0, 1, 0),
  (81, .istore_n 2, 1, 2, 0, 0, 0, 0),
  (82, .iconst 0, 1, 0, 0, 0, 0, 0),
  (83, .istore_n 3, 1, 3, 0, 0, 0, 0),
  (84, .iload_n 3, 1, 3, 0, 0, 0, 0),
  (85, .iload_n 2, 1, 2, 0, 0, 0, 0),
  (86, .if_icmp .ge 40, 3, 126, 0, 0, 0, 0),
  (89, .iload_n 3, 1, 3, 0, 0, 0, 0),
  (90, .sipush 1024, 3, 0, 0, 0, 1024, 0),
  (93, .if_icmp .ge 33, 3, 126, 0, 0, 0, 0),
  (96, .aload_n 0, 1, 0, 0, 0, 0, 0),
  (97, .getfield 79, 3, 9, 6, 0, 0, 0),
  (100, .ldc 35, 2, 0, 0, 0, (-1000000), 0),
  (102, .if_icmp .ne 24, 3, 126, 0, 0, 0, 0),
  (105, .aload_n 0, 1, 0, 0, 0, 0, 0),
  (106, .aload_n 0, 1, 0, 0, 0, 0, 0),
  (107, .getfield 22, 3, 9, 2, 0, 0, 0),
  (110, .getfield 88, 3, 4, 0, 0, 0, 0),
  (113, .iload_n 3, 1, 3, 0, 0, 0, 0),
  (114, .iaload, 1, 0, 0, 0, 0, 0),
  (115, .iload_n 2, 1, 2, 0, 0, 0, 0),
  (116, .invokevirtual 95, 3, 67, 2, 0, 0, 0),
  (119, .istore_n 2, 1, 2, 0, 0, 0, 0),
  (120, .iinc 3 1, 3, 3, 0, 0, 1, 0),
  (123, .goto (-39), 3, 84, 0, 0, 0, 0),
  (126, .return_, 1, 0, 0, 0, 0, 0)]
def hbk67 : List (Nat × hbR) := [(0, .iload_n 2, 1, 2, 0, 0, 0, 0),
  (1, .istore_n 3, 1, 3, 0, 0, 0, 0),
  (2, .aload_n 0, 1, 0, 0, 0, 0, 0),
  (3, .getfield 22, 3, 9, 2, 0, 0, 0),
  (6, .getfield 92, 3, 4, 1, 0, 0, 0),
  (9, .iload_n 1, 1, 1, 0, 0, 0, 0),
  (10, .iaload, 1, 0, 0, 0, 0, 0),
  (11, .iconst 1, 1, 0, 0, 0, 1, 0),
  (12, .iadd, 1, 0, 0, 0, 0, 0),
  (13, .istore 4, 2, 4, 0, 0, 0, 0),
  (15, .iconst 0, 1, 0, 0, 0, 0, 0),
  (16, .istore 5, 2, 5, 0, 0, 0, 0),
  (18, .iload 5, 2, 5, 0, 0, 0, 0),
  (20, .iconst 4, 1, 0, 0, 0, 4, 0),
  (21, .if_icmp .gt 172, 3, 193, 0, 0, 0, 0),
  (24, .aload_n 0, 1, 0, 0, 0, 0, 0),
  (25, .getfield 79, 3, 9, 6, 0, 0, 0),
  (28, .ldc 35, 2, 0, 0, 0, (-1000000), 0),
  (30, .if_icmp .ne 163, 3, 193, 0, 0, 0, 0),
  (33, .aload_n 0, 1, 0, 0, 0, 0, 0),
  (34, .iload_n 1, 1, 1, 0, 0, 0, 0),
  (35, .iload 5, 2, 5, 0, 0, 0, 0),
  (37, .invokevirtual 98, 3, 68, 2, 0, 0, 0),
  (40, .istore 6, 2, 6, 0, 0, 0, 0),
  (42, .aload_n 0, 1, 0, 0, 0, 0, 0),
  (43, .getfield 21, 3, 9, 1, 0, 0, 0),
  (46, .getfield 44, 3, 10, 6, 0, 0, 0),
  (49, .iload 6, 2, 6, 0, 0, 0, 0),
  (51, .baload, 1, 0, 0, 0, 0, 0),
  (52, .ifCond .ne 135, 3, 187, 0, 0, 0, 0),
  (55, .aload_n 0, 1, 0, 0, 0, 0, 0),
  (56, .getfield 22, 3, 9, 2, 0, 0, 0),
  (59, .iload 6, 2, 6, 0, 0, 0, 0),
  (61, .iconst 0, 1, 0, 0, 0, 0, 0),
  (62, .invokevirtual 40, 3, 28, 2, 0, 0, 0),
  (65, .ifCond .eq 122, 3, 187, 0, 0, 0, 0),
  (68, .iload_n 3, 1, 3, 0, 0, 0, 0),
  (69, .sipush 1024, 3, 0, 0, 0, 1024, 0),
  (72, .if_icmp .ge 115, 3, 187, 0, 0, 0, 0),
  (75, .aload_n 0, 1, 0, 0, 0, 0, 0),
  (76, .getfield 22, 3, 9, 2, 0, 0, 0),
  (79, .getfield 88, 3, 4, 0, 0, 0, 0),
  (82, .iload_n 3, 1, 3, 0, 0, 0, 0),
  (83, .iload 6, 2, 6, 0, 0, 0, 0),
  (85, .iastore, 1, 0, 0, 0, 0, 0),
  (86, .iinc 3 1, 3, 3, 0, 0, 1, 0),
  (89, .aload_n 0, 1, 0, 0, 0, 0, 0),
  (90, .getfield 22, 3, 9, 2, 0, 0, 0),
  (93, .getfield 92, 3, 4, 1, 0, 0, 0),
  (96, .iload 6, 2, 6, 0, 0, 0, 0),
  (98, .iload 4, 2, 4, 0, 0, 0, 0),
  (100, .iastore, 1, 0, 0, 0, 0, 0),
  (101, .aload_n 0, 1, 0, 0, 0, 0, 0),
  (102, .getfield 22, 3, 9, 2, 0, 0, 0),
  (105, .getfield 101, 3, 4, 2, 0, 0, 0),
  (108, .iload 6, 2, 6, 0, 0, 0, 0),
  (110, .iload 4, 2, 4, 0, 0, 0, 0),
  (112, .iconst 1, 1, 0, 0, 0, 1, 0),
  (113, .if_icmp .ne 8, 3, 121, 0, 0, 0, 0),
  (116, .iload 5, 2, 5, 0, 0, 0, 0),
  (118, .goto 12, 3, 130, 0, 0, 0, 0),
  (121, .aload_n 0, 1, 0, 0, 0, 0, 0),
  (122, .getfield 22, 3, 9, 2, 0, 0, 0),
  (125, .getfield 101, 3, 4, 2, 0, 0, 0),
  (128, .iload_n 1, 1, 1, 0, 0, 0, 0),
  (129, .iaload, 1, 0, 0, 0, 0, 0),
  (130, .iastore, 1, 0, 0, 0, 0, 0),
  (131, .aload_n 0, 1, 0, 0, 0, 0, 0),
  (132, .aload_n 0, 1, 0, 0, 0, 0, 0),
  (133, .getfield 21, 3, 9, 1, 0, 0, 0),
  (136, .getfield 85, 3, 10, 7, 0, 0, 0),
  (139, .iload 6, 2, 6, 0, 0, 0, 0),
  (141, .baload, 1, 0, 0, 0, 0, 0),
  (142, .ifCond .eq 8, 3, 150, 0, 0, 0, 0),
  (145, .iload 4, 2, 4, 0, 0, 0, 0),
  (147, .goto 5, 3, 152, 0, 0, 0, 0),
  (150, .ldc 35, 2, 0, 0, 0, (-1000000), 0),
  (152, .putfield 79, 3, 9, 6, 0, 0, 0),
  (155, .aload_n 0, 1, 0, 0, 0, 0, 0),
  (156, .aload_n 0, 1, 0, 0, 0, 0, 0),
  (157, .getfield 21, 3, 9, 1, 0, 0, 0),
  (160, .getfield 85, 3, 10, 7, 0, 0, 0),
  (163, .iload 6, 2, 6, 0, 0, 0, 0),
  (165, .baload, 1, 0, 0, 0, 0, 0),
  (166, .ifCond .eq 16, 3, 182, 0, 0, 0, 0),
  (169, .aload_n 0, 1, 0, 0, 0, 0, 0),
  (170, .getfield 22, 3, 9, 2, 0, 0, 0),
  (173, .getfield 101, 3, 4, 2, 0, 0, 0),
  (176, .iload 6, 2, 6, 0, 0, 0, 0),
  (178, .iaload, 1, 0, 0, 0, 0, 0),
  (179, .goto 5, 3, 184, 0, 0, 0, 0),
  (182, .ldc 35, 2, 0, 0, 0, (-1000000), 0),
  (184, .putfield 82, 3, 9, 7, 0, 0, 0),
  (187, .iinc 5 1, 3, 5, 0, 0, 1, 0),
  (190, .goto (-172), 3, 18, 0, 0, 0, 0),
  (193, .iload_n 3, 1, 3, 0, 0, 0, 0),
  (194, .ireturn, 1, 0, 0, 0, 0, 0)]
def hbk68 : List (Nat × hbR) := [(0, .iload_n 2, 1, 2, 0, 0, 0, 0),
  (1, .ifCond .ne 13, 3, 14, 0, 0, 0, 0),
  (4, .aload_n 0, 1, 0, 0, 0, 0, 0),
  (5, .getfield 21, 3, 9, 1, 0, 0, 0),
  (8, .getfield 104, 3, 10, 5, 0, 0, 0),
  (11, .iload_n 1, 1, 1, 0, 0, 0, 0),
  (12, .iaload, 1, 0, 0, 0, 0, 0),
  (13, .ireturn, 1, 0, 0, 0, 0, 0),
  (14, .iload_n 2, 1, 2, 0, 0, 0, 0),
  (15, .iconst 1, 1, 0, 0, 0, 1, 0),
  (16, .isub, 1, 0, 0, 0, 0, 0),
  (17, .istore_n 3, 1, 3, 0, 0, 0, 0),
  (18, .aload_n 0, 1, 0, 0, 0, 0, 0),
  (19, .getfield 21, 3, 9, 1, 0, 0, 0),
  (22, .iload_n 1, 1, 1, 0, 0, 0, 0),
  (23, .iload_n 3, 1, 3, 0, 0, 0, 0),
  (24, .iload_n 1, 1, 1, 0, 0, 0, 0),
  (25, .iload_n 3, 1, 3, 0, 0, 0, 0),
  (26, .ishr, 1, 0, 0, 0, 0, 0),
  (27, .iconst 1, 1, 0, 0, 0, 1, 0),
  (28, .iand, 1, 0, 0, 0, 0, 0),
  (29, .ifCond .ne 7, 3, 36, 0, 0, 0, 0),
  (32, .iconst 1, 1, 0, 0, 0, 1, 0),
  (33, .goto 4, 3, 37, 0, 0, 0, 0),
  (36, .iconst 0, 1, 0, 0, 0, 0, 0),
  (37, .invokevirtual 107, 3, 71, 3, 0, 0, 0),
  (40, .ireturn, 1, 0, 0, 0, 0, 0)]
def hbk69 : List (Nat × hbR) := [(0, .iload_n 0, 1, 0, 0, 0, 0, 0),
  (1, .bipush 6, 2, 0, 0, 0, 6, 0),
  (3, .ishl, 1, 0, 0, 0, 0, 0),
  (4, .iload_n 1, 1, 1, 0, 0, 0, 0),
  (5, .iconst 3, 1, 0, 0, 0, 3, 0),
  (6, .ishl, 1, 0, 0, 0, 0, 0),
  (7, .ior, 1, 0, 0, 0, 0, 0),
  (8, .iload_n 2, 1, 2, 0, 0, 0, 0),
  (9, .ior, 1, 0, 0, 0, 0, 0),
  (10, .ireturn, 1, 0, 0, 0, 0, 0)]
def hbk70 : List (Nat × hbR) := [(0, .iload_n 0, 1, 0, 0, 0, 0, 0),
  (1, .iconst 3, 1, 0, 0, 0, 3, 0),
  (2, .ishr, 1, 0, 0, 0, 0, 0),
  (3, .bipush 7, 2, 0, 0, 0, 7, 0),
  (5, .iand, 1, 0, 0, 0, 0, 0),
  (6, .istore_n 2, 1, 2, 0, 0, 0, 0),
  (7, .iload_n 1, 1, 1, 0, 0, 0, 0),
  (8, .iconst 4, 1, 0, 0, 0, 4, 0),
  (9, .iconst 3, 1, 0, 0, 0, 3, 0),
  (10, .iload_n 2, 1, 2, 0, 0, 0, 0),
  (11, .imul, 1, 0, 0, 0, 0, 0),
  (12, .iadd, 1, 0, 0, 0, 0, 0),
  (13, .ishr, 1, 0, 0, 0, 0, 0),
  (14, .bipush 7, 2, 0, 0, 0, 7, 0),
  (16, .iand, 1, 0, 0, 0, 0, 0),
  (17, .istore_n 3, 1, 3, 0, 0, 0, 0),
  (18, .iload_n 0, 1, 0, 0, 0, 0, 0),
  (19, .bipush 6, 2, 0, 0, 0, 6, 0),
  (21, .ishr, 1, 0, 0, 0, 0, 0),
  (22, .tableswitch 69 0 2 #[26, 41, 55], 26, 0, 0, 0, 0, 0),
  (48, .iload_n 1, 1, 1, 0, 0, 0, 0),
  (49, .iload_n 2, 1, 2, 0, 0, 0, 0),
  (50, .ishr, 1, 0, 0, 0, 0, 0),
  (51, .iconst 1, 1, 0, 0, 0, 1, 0),
  (52, .iand, 1, 0, 0, 0, 0, 0),
  (53, .iconst 1, 1, 0, 0, 0, 1, 0),
  (54, .if_icmp .ne 7, 3, 61, 0, 0, 0, 0),
  (57, .iconst 1, 1, 0, 0, 0, 1, 0),
  (58, .goto 4, 3, 62, 0, 0, 0, 0),
  (61, .iconst 0, 1, 0, 0, 0, 0, 0),
  (62, .ireturn, 1, 0, 0, 1, 0, 0),
  (63, .iload_n 1, 1, 1, 0, 0, 0, 0),
  (64, .iload_n 2, 1, 2, 0, 0, 0, 0),
  (65, .ishr, 1, 0, 0, 0, 0, 0),
  (66, .iconst 1, 1, 0, 0, 0, 1, 0),
  (67, .iand, 1, 0, 0, 0, 0, 0),
  (68, .ifCond .ne 7, 3, 75, 0, 0, 0, 0),
  (71, .iconst 1, 1, 0, 0, 0, 1, 0),
  (72, .goto 4, 3, 76, 0, 0, 0, 0),
  (75, .iconst 0, 1, 0, 0, 0, 0, 0),
  (76, .ireturn, 1, 0, 0, 1, 0, 0),
  (77, .iload_n 3, 1, 3, 0, 0, 0, 0),
  (78, .iload_n 0, 1, 0, 0, 0, 0, 0),
  (79, .bipush 7, 2, 0, 0, 0, 7, 0),
  (81, .iand, 1, 0, 0, 0, 0, 0),
  (82, .if_icmp .le 7, 3, 89, 0, 0, 0, 0),
  (85, .iconst 1, 1, 0, 0, 0, 1, 0),
  (86, .goto 4, 3, 90, 0, 0, 0, 0),
  (89, .iconst 0, 1, 0, 0, 0, 0, 0),
  (90, .ireturn, 1, 0, 0, 1, 0, 0),
  (91, .iload_n 3, 1, 3, 0, 0, 0, 0),
  (92, .iload_n 0, 1, 0, 0, 0, 0, 0),
  (93, .bipush 7, 2, 0, 0, 0, 7, 0),
  (95, .iand, 1, 0, 0, 0, 0, 0),
  (96, .if_icmp .ge 7, 3, 103, 0, 0, 0, 0),
  (99, .iconst 1, 1, 0, 0, 0, 1, 0),
  (100, .goto 4, 3, 104, 0, 0, 0, 0),
  (103, .iconst 0, 1, 0, 0, 0, 0, 0),
  (104, .ireturn, 1, 0, 0, 1, 0, 0)]
def hbk71 : List (Nat × hbR) := [(0, .iconst 1, 1, 0, 0, 0, 1, 0),
  (1, .iload_n 2, 1, 2, 0, 0, 0, 0),
  (2, .ishl, 1, 0, 0, 0, 0, 0),
  (3, .istore 4, 2, 4, 0, 0, 0, 0),
  (5, .iload_n 3, 1, 3, 0, 0, 0, 0),
  (6, .ifCond .ne 15, 3, 21, 0, 0, 0, 0),
  (9, .aload_n 0, 1, 0, 0, 0, 0, 0),
  (10, .getfield 31, 3, 10, 5, 0, 0, 0),
  (13, .iload_n 1, 1, 1, 0, 0, 0, 0),
  (14, .iload 4, 2, 4, 0, 0, 0, 0),
  (16, .iconst (-1), 1, 0, 0, 0, (-1), 0),
  (17, .ixor, 1, 0, 0, 0, 0, 0),
  (18, .iand, 1, 0, 0, 0, 0, 0),
  (19, .iaload, 1, 0, 0, 0, 0, 0),
  (20, .ireturn, 1, 0, 0, 0, 0, 0),
  (21, .aload_n 0, 1, 0, 0, 0, 0, 0),
  (22, .getfield 44, 3, 10, 10, 0, 0, 0),
  (25, .iconst 4, 1, 0, 0, 0, 4, 0),
  (26, .iload_n 2, 1, 2, 0, 0, 0, 0),
  (27, .imul, 1, 0, 0, 0, 0, 0),
  (28, .ishr, 1, 0, 0, 0, 0, 0),
  (29, .bipush 15, 2, 0, 0, 0, 15, 0),
  (31, .iand, 1, 0, 0, 0, 0, 0),
  (32, .iload_n 1, 1, 1, 0, 0, 0, 0),
  (33, .iand, 1, 0, 0, 0, 0, 0),
  (34, .ifCond .eq 7, 3, 41, 0, 0, 0, 0),
  (37, .iconst 1, 1, 0, 0, 0, 1, 0),
  (38, .goto 4, 3, 42, 0, 0, 0, 0),
  (41, .iconst 0, 1, 0, 0, 0, 0, 0),
  (42, .istore 5, 2, 5, 0, 0, 0, 0),
  (44, .aload_n 0, 1, 0, 0, 0, 0, 0),
  (45, .getfield 31, 3, 10, 5, 0, 0, 0),
  (48, .iload 5, 2, 5, 0, 0, 0, 0),
  (50, .ifCond .eq 7, 3, 57, 0, 0, 0, 0),
  (53, .iload_n 1, 1, 1, 0, 0, 0, 0),
  (54, .goto 7, 3, 61, 0, 0, 0, 0),
  (57, .iload_n 1, 1, 1, 0, 0, 0, 0),
  (58, .iload 4, 2, 4, 0, 0, 0, 0),
  (60, .ior, 1, 0, 0, 0, 0, 0),
  (61, .iaload, 1, 0, 0, 0, 0, 0),
  (62, .ireturn, 1, 0, 0, 0, 0, 0)]
def hbk72 : List (Nat × hbR) := [(0, .aload_n 0, 1, 0, 0, 0, 0, 0),
  (1, .getfield 48, 3, 10, 9, 0, 0, 0),
  (4, .bipush 8, 2, 0, 0, 0, 8, 0),
  (6, .if_icmp .ge 43, 3, 49, 0, 0, 0, 0),
  (9, .aload_n 0, 1, 0, 0, 0, 0, 0),
  (10, .getfield 21, 3, 10, 2, 0, 0, 0),
  (13, .aload_n 0, 1, 0, 0, 0, 0, 0),
  (14, .getfield 48, 3, 10, 9, 0, 0, 0),
  (17, .iload_n 1, 1, 1, 0, 0, 0, 0),
  (18, .iastore, 1, 0, 0, 0, 0, 0),
  (19, .aload_n 0, 1, 0, 0, 0, 0, 0),
  (20, .getfield 25, 3, 10, 3, 0, 0, 0),
  (23, .aload_n 0, 1, 0, 0, 0, 0, 0),
  (24, .getfield 48, 3, 10, 9, 0, 0, 0),
  (27, .iload_n 2, 1, 2, 0, 0, 0, 0),
  (28, .iastore, 1, 0, 0, 0, 0, 0),
  (29, .aload_n 0, 1, 0, 0, 0, 0, 0),
  (30, .getfield 28, 3, 10, 4, 0, 0, 0),
  (33, .aload_n 0, 1, 0, 0, 0, 0, 0),
  (34, .getfield 48, 3, 10, 9, 0, 0, 0),
  (37, .iload_n 3, 1, 3, 0, 0, 0, 0),
  (38, .iastore, 1, 0, 0, 0, 0, 0),
  (39, .aload_n 0, 1, 0, 0, 0, 0, 0),
  (40, .dup, 1, 0, 0, 0, 0, 0),
  (41, .getfield 48, 3, 10, 9, 0, 0, 0),
  (44, .iconst 1, 1, 0, 0, 0, 1, 0),
  (45, .iadd, 1, 0, 0, 0, 0, 0),
  (46, .putfield 48, 3, 10, 9, 0, 0, 0),
  (49, .return_, 1, 0, 0, 0, 0, 0)]
def hbk73 : List (Nat × hbR) := [(0, .aload_n 0, 1, 0, 0, 0, 0, 0),
  (1, .aload_n 0, 1, 0, 0, 0, 0, 0),
  (2, .getfield 51, 3, 10, 8, 0, 0, 0),
  (5, .putfield 48, 3, 10, 9, 0, 0, 0),
  (8, .aload_n 0, 1, 0, 0, 0, 0, 0),
  (9, .getfield 12, 3, 10, 0, 0, 0, 0),
  (12, .aload_n 0, 1, 0, 0, 0, 0, 0),
  (13, .getfield 12, 3, 10, 0, 0, 0, 0),
  (16, .getfield 54, 3, 2, 2, 0, 0, 0),
  (19, .putfield 57, 3, 2, 3, 0, 0, 0),
  (22, .aload_n 0, 1, 0, 0, 0, 0, 0),
  (23, .getfield 18, 3, 10, 1, 0, 0, 0),
  (26, .aload_n 0, 1, 0, 0, 0, 0, 0),
  (27, .getfield 18, 3, 10, 1, 0, 0, 0),
  (30, .getfield 54, 3, 2, 2, 0, 0, 0),
  (33, .putfield 57, 3, 2, 3, 0, 0, 0),
  (36, .return_, 1, 0, 0, 0, 0, 0)]
def hbk74 : List (Nat × hbR) := [(0, .aload_n 0, 1, 0, 0, 0, 0, 0),
  (1, .aload_n 0, 1, 0, 0, 0, 0, 0),
  (2, .getfield 48, 3, 10, 9, 0, 0, 0),
  (5, .putfield 51, 3, 10, 8, 0, 0, 0),
  (8, .aload_n 0, 1, 0, 0, 0, 0, 0),
  (9, .getfield 12, 3, 10, 0, 0, 0, 0),
  (12, .aload_n 0, 1, 0, 0, 0, 0, 0),
  (13, .getfield 12, 3, 10, 0, 0, 0, 0),
  (16, .getfield 57, 3, 2, 3, 0, 0, 0),
  (19, .putfield 54, 3, 2, 2, 0, 0, 0),
  (22, .aload_n 0, 1, 0, 0, 0, 0, 0),
  (23, .getfield 18, 3, 10, 1, 0, 0, 0),
  (26, .aload_n 0, 1, 0, 0, 0, 0, 0),
  (27, .getfield 18, 3, 10, 1, 0, 0, 0),
  (30, .getfield 57, 3, 2, 3, 0, 0, 0),
  (33, .putfield 54, 3, 2, 2, 0, 0, 0),
  (36, .aload_n 0, 1, 0, 0, 0, 0, 0),
  (37, .invokevirtual 41, 3, 75, 0, 0, 0, 0),
  (40, .return_, 1, 0, 0, 0, 0, 0)]
def hbk75 : List (Nat × hbR) := [(0, .iconst 0, 1, 0, 0, 0, 0, 0),
  (1, .istore_n 1, 1, 1, 0, 0, 0, 0),
  (2, .iload_n 1, 1, 1, 0, 0, 0, 0),
  (3, .bipush 16, 2, 0, 0, 0, 16, 0),
  (5, .if_icmp .ge 154, 3, 159, 0, 0, 0, 0),
  (8, .aload_n 0, 1, 0, 0, 0, 0, 0),
  (9, .iload_n 1, 1, 1, 0, 0, 0, 0),
  (10, .iconst 0, 1, 0, 0, 0, 0, 0),
  (11, .invokevirtual 60, 3, 76, 2, 0, 0, 0),
  (14, .istore_n 2, 1, 2, 0, 0, 0, 0),
  (15, .aload_n 0, 1, 0, 0, 0, 0, 0),
  (16, .iload_n 1, 1, 1, 0, 0, 0, 0),
  (17, .iconst 1, 1, 0, 0, 0, 1, 0),
  (18, .invokevirtual 60, 3, 76, 2, 0, 0, 0),
  (21, .istore_n 3, 1, 3, 0, 0, 0, 0),
  (22, .iconst 0, 1, 0, 0, 0, 0, 0),
  (23, .istore 4, 2, 4, 0, 0, 0, 0),
  (25, .iload 4, 2, 4, 0, 0, 0, 0),
  (27, .bipush 64, 2, 0, 0, 0, 64, 0),
  (29, .if_icmp .ge 124, 3, 153, 0, 0, 0, 0),
  (32, .iload 4, 2, 4, 0, 0, 0, 0),
  (34, .iconst 4, 1, 0, 0, 0, 4, 0),
  (35, .ishl, 1, 0, 0, 0, 0, 0),
  (36, .iload_n 1, 1, 1, 0, 0, 0, 0),
  (37, .ior, 1, 0, 0, 0, 0, 0),
  (38, .istore 5, 2, 5, 0, 0, 0, 0),
  (40, .iload 4, 2, 4, 0, 0, 0, 0),
  (42, .bipush 7, 2, 0, 0, 0, 7, 0),
  (44, .iand, 1, 0, 0, 0, 0, 0),
  (45, .iload_n 2, 1, 2, 0, 0, 0, 0),
  (46, .iadd, 1, 0, 0, 0, 0, 0),
  (47, .invokestatic 64, 3, 77, 1, 0, 0, 0),
  (50, .istore 6, 2, 6, 0, 0, 0, 0),
  (52, .iload 4, 2, 4, 0, 0, 0, 0),
  (54, .iconst 3, 1, 0, 0, 0, 3, 0),
  (55, .ishr, 1, 0, 0, 0, 0, 0),
  (56, .iload_n 3, 1, 3, 0, 0, 0, 0),
  (57, .iadd, 1, 0, 0, 0, 0, 0),
  (58, .invokestatic 64, 3, 77, 1, 0, 0, 0),
  (61, .istore 7, 2, 7, 0, 0, 0, 0),
  (63, .aload_n 0, 1, 0, 0, 0, 0, 0),
  (64, .getfield 31, 3, 10, 5, 0, 0, 0),
  (67, .iload 5, 2, 5, 0, 0, 0, 0),
  (69, .iload_n 1, 1, 1, 0, 0, 0, 0),
  (70, .iload 6, 2, 6, 0, 0, 0, 0),
  (72, .iconst 4, 1, 0, 0, 0, 4, 0),
  (73, .ishl, 1, 0, 0, 0, 0, 0),
  (74, .ior, 1, 0, 0, 0, 0, 0),
  (75, .iload 7, 2, 7, 0, 0, 0, 0),
  (77, .bipush 7, 2, 0, 0, 0, 7, 0),
  (79, .ishl, 1, 0, 0, 0, 0, 0),
  (80, .ior, 1, 0, 0, 0, 0, 0),
  (81, .iastore, 1, 0, 0, 0, 0, 0),
  (82, .aload_n 0, 1, 0, 0, 0, 0, 0),
  (83, .getfield 34, 3, 10, 6, 0, 0, 0),
  (86, .iload 5, 2, 5, 0, 0, 0, 0),
  (88, .aload_n 0, 1, 0, 0, 0, 0, 0),
  (89, .getfield 12, 3, 10, 0, 0, 0, 0),
  (92, .iload 5, 2, 5, 0, 0, 0, 0),
  (94, .invokevirtual 68, 3, 13, 1, 0, 0, 0),
  (97, .ifCond .le 7, 3, 104, 0, 0, 0, 0),
  (100, .iconst 1, 1, 0, 0, 0, 1, 0),
  (101, .goto 4, 3, 105, 0, 0, 0, 0),
  (104, .iconst 0, 1, 0, 0, 0, 0, 0),
  (105, .bastore, 1, 0, 0, 0, 0, 0),
  (106, .aload_n 0, 1, 0, 0, 0, 0, 0),
  (107, .getfield 38, 3, 10, 7, 0, 0, 0),
  (110, .iload 5, 2, 5, 0, 0, 0, 0),
  (112, .aload_n 0, 1, 0, 0, 0, 0, 0),
  (113, .getfield 34, 3, 10, 6, 0, 0, 0),
  (116, .iload 5, 2, 5, 0, 0, 0, 0),
  (118, .baload, 1, 0, 0, 0, 0, 0),
  (119, .ifCond .ne 26, 3, 145, 0, 0, 0, 0),
  (122, .aload_n 0, 1, 0, 0, 0, 0, 0),
  (123, .getfield 18, 3, 10, 1, 0, 0, 0),
  (126, .iload 5, 2, 5, 0, 0, 0, 0),
  (128, .invokevirtual 68, 3, 13, 1, 0, 0, 0),
  (131, .aload_n 0, 1, 0, 0, 0, 0, 0),
  (132, .getfield 18, 3, 10, 1, 0, 0, 0),
  (135, .getfield 54, 3, 2, 2, 0, 0, 0),
  (138, .if_icmp .ne 7, 3, 145, 0, 0, 0, 0),
  (141, .iconst 1, 1, 0, 0, 0, 1, 0),
  (142, .goto 4, 3, 146, 0, 0, 0, 0),
  (145, .iconst 0, 1, 0, 0, 0, 0, 0),
  (146, .bastore, 1, 0, 0, 0, 0, 0),
  (147, .iinc 4 1, 3, 4, 0, 0, 1, 0),
  (150, .goto (-125), 3, 25, 0, 0, 0, 0),
  (153, .iinc 1 1, 3, 1, 0, 0, 1, 0),
  (156, .goto (-154), 3, 2, 0, 0, 0, 0),
  (159, .return_, 1, 0, 0, 0, 0, 0)]
def hbk76 : List (Nat × hbR) := [(0, .iconst 0, 1, 0, 0, 0, 0, 0),
  (1, .istore_n 3, 1, 3, 0, 0, 0, 0),
  (2, .iconst 0, 1, 0, 0, 0, 0, 0),
  (3, .istore 4, 2, 4, 0, 0, 0, 0),
  (5, .iload 4, 2, 4, 0, 0, 0, 0),
  (7, .aload_n 0, 1, 0, 0, 0, 0, 0),
  (8, .getfield 51, 3, 10, 8, 0, 0, 0),
  (11, .if_icmp .ge 45, 3, 56, 0, 0, 0, 0),
  (14, .aload_n 0, 1, 0, 0, 0, 0, 0),
  (15, .getfield 25, 3, 10, 3, 0, 0, 0),
  (18, .iload 4, 2, 4, 0, 0, 0, 0),
  (20, .iaload, 1, 0, 0, 0, 0, 0),
  (21, .iload_n 2, 1, 2, 0, 0, 0, 0),
  (22, .if_icmp .ne 28, 3, 50, 0, 0, 0, 0),
  (25, .iload_n 1, 1, 1, 0, 0, 0, 0),
  (26, .aload_n 0, 1, 0, 0, 0, 0, 0),
  (27, .getfield 21, 3, 10, 2, 0, 0, 0),
  (30, .iload 4, 2, 4, 0, 0, 0, 0),
  (32, .iaload, 1, 0, 0, 0, 0, 0),
  (33, .ishr, 1, 0, 0, 0, 0, 0),
  (34, .iconst 1, 1, 0, 0, 0, 1, 0),
  (35, .iand, 1, 0, 0, 0, 0, 0),
  (36, .iconst 1, 1, 0, 0, 0, 1, 0),
  (37, .if_icmp .ne 13, 3, 50, 0, 0, 0, 0),
  (40, .iload_n 3, 1, 3, 0, 0, 0, 0),
  (41, .aload_n 0, 1, 0, 0, 0, 0, 0),
  (42, .getfield 28, 3, 10, 4, 0, 0, 0),
  (45, .iload 4, 2, 4, 0, 0, 0, 0),
  (47, .iaload, 1, 0, 0, 0, 0, 0),
  (48, .iadd, 1, 0, 0, 0, 0, 0),
  (49, .istore_n 3, 1, 3, 0, 0, 0, 0),
  (50, .iinc 4 1, 3, 4, 0, 0, 1, 0),
  (53, .goto (-48), 3, 5, 0, 0, 0, 0),
  (56, .iload_n 3, 1, 3, 0, 0, 0, 0),
  (57, .ireturn, 1, 0, 0, 0, 0, 0)]
def hbk77 : List (Nat × hbR) := [(0, .iconst 0, 1, 0, 0, 0, 0, 0),
  (1, .bipush 7, 2, 0, 0, 0, 7, 0),
  (3, .iload_n 0, 1, 0, 0, 0, 0, 0),
  (4, .invokestatic 71, 3, 190, 2, 0, 0, 0),
  (7, .invokestatic 76, 3, 189, 2, 0, 0, 0),
  (10, .ireturn, 1, 0, 0, 0, 0, 0)]
def hbk78 : List (Nat × hbR) := [(0, .iload_n 1, 1, 1, 0, 0, 0, 0),
  (1, .invokestatic 81, 3, 108, 1, 0, 0, 0),
  (4, .ifCond .eq 17, 3, 21, 0, 0, 0, 0),
  (7, .iload_n 2, 1, 2, 0, 0, 0, 0),
  (8, .iconst 3, 1, 0, 0, 0, 3, 0),
  (9, .invokestatic 85, 3, 110, 2, 0, 0, 0),
  (12, .ifCond .eq 9, 3, 21, 0, 0, 0, 0),
  (15, .iload_n 3, 1, 3, 0, 0, 0, 0),
  (16, .bipush 40, 2, 0, 0, 0, 40, 0),
  (18, .if_icmp .le 6, 3, 24, 0, 0, 0, 0),
  (21, .ldc 89, 2, 0, 0, 0, (-1000001), 0),
  (23, .ireturn, 1, 0, 0, 0, 0, 0),
  (24, .iload_n 3, 1, 3, 0, 0, 0, 0),
  (25, .ifCond .ge 9, 3, 34, 0, 0, 0, 0),
  (28, .aload_n 0, 1, 0, 0, 0, 0, 0),
  (29, .iconst 4, 1, 0, 0, 0, 4, 0),
  (30, .invokevirtual 90, 3, 105, 1, 0, 0, 0),
  (33, .ireturn, 1, 0, 0, 0, 0, 0),
  (34, .aload_n 0, 1, 0, 0, 0, 0, 0),
  (35, .getfield 11, 3, 11, 0, 0, 0, 0),
  (38, .iload_n 1, 1, 1, 0, 0, 0, 0),
  (39, .aaload, 1, 0, 0, 0, 0, 0),
  (40, .iload_n 2, 1, 2, 0, 0, 0, 0),
  (41, .iload_n 3, 1, 3, 0, 0, 0, 0),
  (42, .invokevirtual 94, 3, 29, 2, 0, 0, 0),
  (45, .aload_n 0, 1, 0, 0, 0, 0, 0),
  (46, .iload_n 3, 1, 3, 0, 0, 0, 0),
  (47, .invokevirtual 98, 3, 106, 1, 0, 0, 0),
  (50, .ireturn, 1, 0, 0, 0, 0, 0)]
def hbk79 : List (Nat × hbR) := [(0, .iload_n 1, 1, 1, 0, 0, 0, 0),
  (1, .invokestatic 81, 3, 108, 1, 0, 0, 0),
  (4, .ifCond .ne 6, 3, 10, 0, 0, 0, 0),
  (7, .ldc 89, 2, 0, 0, 0, (-1000001), 0),
  (9, .ireturn, 1, 0, 0, 0, 0, 0),
  (10, .aload_n 0, 1, 0, 0, 0, 0, 0),
  (11, .getfield 11, 3, 11, 0, 0, 0, 0),
  (14, .iload_n 1, 1, 1, 0, 0, 0, 0),
  (15, .aaload, 1, 0, 0, 0, 0, 0),
  (16, .astore 4, 2, 4, 0, 0, 0, 0),
  (18, .aload 4, 2, 4, 0, 0, 0, 0),
  (20, .getfield 101, 3, 5, 1, 0, 0, 0),
  (23, .ifCond .ne 9, 3, 32, 0, 0, 0, 0),
  (26, .aload_n 0, 1, 0, 0, 0, 0, 0),
  (27, .iconst 1, 1, 0, 0, 0, 1, 0),
  (28, .invokevirtual 90, 3, 105, 1, 0, 0, 0),
  (31, .ireturn, 1, 0, 0, 0, 0, 0),
  (32, .aload 4, 2, 4, 0, 0, 0, 0),
  (34, .iload_n 2, 1, 2, 0, 0, 0, 0),
  (35, .iconst 1, 1, 0, 0, 0, 1, 0),
  (36, .invokevirtual 105, 3, 30, 2, 0, 0, 0),
  (39, .ifCond .ne 9, 3, 48, 0, 0, 0, 0),
  (42, .aload_n 0, 1, 0, 0, 0, 0, 0),
  (43, .iconst 2, 1, 0, 0, 0, 2, 0),
  (44, .invokevirtual 90, 3, 105, 1, 0, 0, 0),
  (47, .ireturn, 1, 0, 0, 0, 0, 0),
  (48, .aload 4, 2, 4, 0, 0, 0, 0),
  (50, .getfield 108, 3, 5, 0, 0, 0, 0),
  (53, .iload_n 2, 1, 2, 0, 0, 0, 0),
  (54, .aload 4, 2, 4, 0, 0, 0, 0),
  (56, .iload_n 3, 1, 3, 0, 0, 0, 0),
  (57, .invokevirtual 112, 3, 31, 1, 0, 0, 0),
  (60, .iastore, 1, 0, 0, 0, 0, 0),
  (61, .aload_n 0, 1, 0, 0, 0, 0, 0),
  (62, .aload 4, 2, 4, 0, 0, 0, 0),
  (64, .getfield 108, 3, 5, 0, 0, 0, 0),
  (67, .iload_n 2, 1, 2, 0, 0, 0, 0),
  (68, .iaload, 1, 0, 0, 0, 0, 0),
  (69, .invokevirtual 98, 3, 106, 1, 0, 0, 0),
  (72, .ireturn, 1, 0, 0, 0, 0, 0)]
def hbk80 : List (Nat × hbR) := [(0, .iload_n 1, 1, 1, 0, 0, 0, 0),
  (1, .invokestatic 81, 3, 108, 1, 0, 0, 0),
  (4, .ifCond .eq 10, 3, 14, 0, 0, 0, 0),
  (7, .iload_n 3, 1, 3, 0, 0, 0, 0),
  (8, .invokestatic 81, 3, 108, 1, 0, 0, 0),
  (11, .ifCond .ne 6, 3, 17, 0, 0, 0, 0),
  (14, .ldc 89, 2, 0, 0, 0, (-1000001), 0),
  (16, .ireturn, 1, 0, 0, 0, 0, 0),
  (17, .aload_n 0, 1, 0, 0, 0, 0, 0),
  (18, .getfield 11, 3, 11, 0, 0, 0, 0),
  (21, .iload_n 1, 1, 1, 0, 0, 0, 0),
  (22, .aaload, 1, 0, 0, 0, 0, 0),
  (23, .astore 6, 2, 6, 0, 0, 0, 0),
  (25, .aload_n 0, 1, 0, 0, 0, 0, 0),
  (26, .getfield 11, 3, 11, 0, 0, 0, 0),
  (29, .iload_n 3, 1, 3, 0, 0, 0, 0),
  (30, .aaload, 1, 0, 0, 0, 0, 0),
  (31, .astore 7, 2, 7, 0, 0, 0, 0),
  (33, .aload 6, 2, 6, 0, 0, 0, 0),
  (35, .getfield 101, 3, 5, 1, 0, 0, 0),
  (38, .ifCond .eq 11, 3, 49, 0, 0, 0, 0),
  (41, .aload 7, 2, 7, 0, 0, 0, 0),
  (43, .getfield 101, 3, 5, 1, 0, 0, 0),
  (46, .ifCond .ne 9, 3, 55, 0, 0, 0, 0),
  (49, .aload_n 0, 1, 0, 0, 0, 0, 0),
  (50, .iconst 1, 1, 0, 0, 0, 1, 0),
  (51, .invokevirtual 90, 3, 105, 1, 0, 0, 0),
  (54, .ireturn, 1, 0, 0, 0, 0, 0),
  (55, .aload 6, 2, 6, 0, 0, 0, 0),
  (57, .getfield 115, 3, 5, 2, 0, 0, 0),
  (60, .aload 7, 2, 7, 0, 0, 0, 0),
  (62, .getfield 115, 3, 5, 2, 0, 0, 0),
  (65, .if_icmp .eq 9, 3, 74, 0, 0, 0, 0),
  (68, .aload_n 0, 1, 0, 0, 0, 0, 0),
  (69, .iconst 5, 1, 0, 0, 0, 5, 0),
  (70, .invokevirtual 90, 3, 105, 1, 0, 0, 0),
  (73, .ireturn, 1, 0, 0, 0, 0, 0),
  (74, .aload 6, 2, 6, 0, 0, 0, 0),
  (76, .iload_n 2, 1, 2, 0, 0, 0, 0),
  (77, .iload 5, 2, 5, 0, 0, 0, 0),
  (79, .invokevirtual 105, 3, 30, 2, 0, 0, 0),
  (82, .ifCond .eq 15, 3, 97, 0, 0, 0, 0),
  (85, .aload 7, 2, 7, 0, 0, 0, 0),
  (87, .iload 4, 2, 4, 0, 0, 0, 0),
  (89, .iload 5, 2, 5, 0, 0, 0, 0),
  (91, .invokevirtual 105, 3, 30, 2, 0, 0, 0),
  (94, .ifCond .ne 9, 3, 103, 0, 0, 0, 0),
  (97, .aload_n 0, 1, 0, 0, 0, 0, 0),
  (98, .iconst 2, 1, 0, 0, 0, 2, 0),
  (99, .invokevirtual 90, 3, 105, 1, 0, 0, 0),
  (102, .ireturn, 1, 0, 0, 0, 0, 0),
  (103, .aload 6, 2, 6, 0, 0, 0, 0),
  (105, .getfield 108, 3, 5, 0, 0, 0, 0),
  (108, .iload_n 2, 1, 2, 0, 0, 0, 0),
  (109, .aload 7, 2, 7, 0, 0, 0, 0),
  (111, .getfield 108, 3, 5, 0, 0, 0, 0),
  (114, .iload 4, 2, 4, 0, 0, 0, 0),
  (116, .iload 5, 2, 5, 0, 0, 0, 0),
  (118, .invokestatic 119, 3, 0, 0, 3, 0, 0),
  (121, .aload_n 0, 1, 0, 0, 0, 0, 0),
  (122, .iload 5, 2, 5, 0, 0, 0, 0),
  (124, .invokevirtual 98, 3, 106, 1, 0, 0, 0),
  (127, .ireturn, 1, 0, 0, 0, 0, 0)]
def hbk81 : List (Nat × hbR) := [(0, .iload_n 1, 1, 1, 0, 0, 0, 0),
  (1, .invokestatic 81, 3, 108, 1, 0, 0, 0),
  (4, .ifCond .ne 6, 3, 10, 0, 0, 0, 0),
  (7, .ldc 89, 2, 0, 0, 0, (-1000001), 0),
  (9, .ireturn, 1, 0, 0, 0, 0, 0),
  (10, .aload_n 0, 1, 0, 0, 0, 0, 0),
  (11, .getfield 11, 3, 11, 0, 0, 0, 0),
  (14, .iload_n 1, 1, 1, 0, 0, 0, 0),
  (15, .aaload, 1, 0, 0, 0, 0, 0),
  (16, .astore_n 2, 1, 2, 0, 0, 0, 0),
  (17, .aload_n 2, 1, 2, 0, 0, 0, 0),
  (18, .getfield 101, 3, 5, 1, 0, 0, 0),
  (21, .ifCond .ne 9, 3, 30, 0, 0, 0, 0),
  (24, .aload_n 0, 1, 0, 0, 0, 0, 0),
  (25, .iconst 1, 1, 0, 0, 0, 1, 0),
  (26, .invokevirtual 90, 3, 105, 1, 0, 0, 0),
  (29, .ireturn, 1, 0, 0, 0, 0, 0),
  (30, .aload_n 2, 1, 2, 0, 0, 0, 0),
  (31, .iconst 0, 1, 0, 0, 0, 0, 0),
  (32, .putfield 101, 3, 5, 1, 1, 0, 0),
  (35, .aload_n 0, 1, 0, 0, 0, 0, 0),
  (36, .aload_n 2, 1, 2, 0, 0, 0, 0),
  (37, .getfield 125, 3, 5, 3, 0, 0, 0),
  (40, .invokevirtual 98, 3, 106, 1, 0, 0, 0),
  (43, .ireturn, 1, 0, 0, 0, 0, 0)]
def hbk82 : List (Nat × hbR) := [(0, .iload_n 3, 1, 3, 0, 0, 0, 0),
  (1, .iconst 1, 1, 0, 0, 0, 1, 0),
  (2, .if_icmp .lt 9, 3, 11, 0, 0, 0, 0),
  (5, .iload_n 3, 1, 3, 0, 0, 0, 0),
  (6, .bipush 8, 2, 0, 0, 0, 8, 0),
  (8, .if_icmp .le 6, 3, 14, 0, 0, 0, 0),
  (11, .ldc 89, 2, 0, 0, 0, (-1000001), 0),
  (13, .ireturn, 1, 0, 0, 0, 0, 0),
  (14, .aload_n 0, 1, 0, 0, 0, 0, 0),
  (15, .getfield 41, 3, 11, 4, 0, 0, 0),
  (18, .lload_n 1, 1, 1, 0, 0, 0, 0),
  (19, .iload_n 3, 1, 3, 0, 0, 0, 0),
  (20, .invokevirtual 128, 3, 43, 2, 0, 0, 0),
  (23, .ifCond .eq 13, 3, 36, 0, 0, 0, 0),
  (26, .aload_n 0, 1, 0, 0, 0, 0, 0),
  (27, .getfield 41, 3, 11, 4, 0, 0, 0),
  (30, .getfield 132, 3, 7, 3, 0, 0, 0),
  (33, .goto 5, 3, 38, 0, 0, 0, 0),
  (36, .ldc 135, 2, 0, 0, 0, (-1000003), 0),
  (38, .ireturn, 1, 0, 0, 0, 0, 0)]
def hbk83 : List (Nat × hbR) := [(0, .aload_n 0, 1, 0, 0, 0, 0, 0),
  (1, .getfield 50, 3, 11, 5, 0, 0, 0),
  (4, .invokevirtual 136, 3, 14, 0, 0, 0, 0),
  (7, .ifCond .eq 11, 3, 18, 0, 0, 0, 0),
  (10, .aload_n 0, 1, 0, 0, 0, 0, 0),
  (11, .getfield 25, 3, 11, 2, 0, 0, 0),
  (14, .getfield 140, 3, 6, 4, 0, 0, 0),
  (17, .ireturn, 1, 0, 0, 0, 0, 0),
  (18, .aload_n 0, 1, 0, 0, 0, 0, 0),
  (19, .aload_n 0, 1, 0, 0, 0, 0, 0),
  (20, .getfield 50, 3, 11, 5, 0, 0, 0),
  (23, .getfield 141, 3, 3, 3, 0, 0, 0),
  (26, .putfield 144, 3, 11, 10, 0, 0, 0),
  (29, .ldc 147, 2, 0, 0, 0, (-1000100), 0),
  (31, .aload_n 0, 1, 0, 0, 0, 0, 0),
  (32, .getfield 50, 3, 11, 5, 0, 0, 0),
  (35, .getfield 148, 3, 3, 4, 0, 0, 0),
  (38, .isub, 1, 0, 0, 0, 0, 0),
  (39, .ireturn, 1, 0, 0, 0, 0, 0)]
def hbk84 : List (Nat × hbR) := [(0, .aload_n 0, 1, 0, 0, 0, 0, 0),
  (1, .getfield 144, 3, 11, 10, 0, 0, 0),
  (4, .ireturn, 1, 0, 0, 0, 0, 0)]
def hbk85 : List (Nat × hbR) := [(0, .iload_n 1, 1, 1, 0, 0, 0, 0),
  (1, .iconst 4, 1, 0, 0, 0, 4, 0),
  (2, .invokestatic 85, 3, 110, 2, 0, 0, 0),
  (5, .ifCond .eq 8, 3, 13, 0, 0, 0, 0),
  (8, .iload_n 1, 1, 1, 0, 0, 0, 0),
  (9, .iload_n 2, 1, 2, 0, 0, 0, 0),
  (10, .if_icmp .ne 6, 3, 16, 0, 0, 0, 0),
  (13, .ldc 89, 2, 0, 0, 0, (-1000001), 0),
  (15, .ireturn, 1, 0, 0, 0, 0, 0),
  (16, .iload_n 2, 1, 2, 0, 0, 0, 0),
  (17, .ldc 151, 2, 0, 0, 0, (-1000000), 0),
  (19, .if_icmp .eq 14, 3, 33, 0, 0, 0, 0),
  (22, .iload_n 2, 1, 2, 0, 0, 0, 0),
  (23, .iconst 4, 1, 0, 0, 0, 4, 0),
  (24, .invokestatic 85, 3, 110, 2, 0, 0, 0),
  (27, .ifCond .ne 6, 3, 33, 0, 0, 0, 0),
  (30, .ldc 89, 2, 0, 0, 0, (-1000001), 0),
  (32, .ireturn, 1, 0, 0, 0, 0, 0),
  (33, .aload_n 0, 1, 0, 0, 0, 0, 0),
  (34, .getfield 34, 3, 11, 3, 0, 0, 0),
  (37, .getfield 152, 3, 1, 2, 0, 0, 0),
  (40, .iload_n 1, 1, 1, 0, 0, 0, 0),
  (41, .iload_n 2, 1, 2, 0, 0, 0, 0),
  (42, .iastore, 1, 0, 0, 0, 0, 0),
  (43, .iconst 1, 1, 0, 0, 0, 1, 0),
  (44, .ireturn, 1, 0, 0, 0, 0, 0)]
def hbk86 : List (Nat × hbR) := [(0, .iload_n 1, 1, 1, 0, 0, 0, 0),
  (1, .iconst 4, 1, 0, 0, 0, 4, 0),
  (2, .invokestatic 85, 3, 110, 2, 0, 0, 0),
  (5, .ifCond .eq 14, 3, 19, 0, 0, 0, 0),
  (8, .iload_n 2, 1, 2, 0, 0, 0, 0),
  (9, .iconst 1, 1, 0, 0, 0, 1, 0),
  (10, .if_icmp .lt 9, 3, 19, 0, 0, 0, 0),
  (13, .iload_n 2, 1, 2, 0, 0, 0, 0),
  (14, .bipush 99, 2, 0, 0, 0, 99, 0),
  (16, .if_icmp .le 6, 3, 22, 0, 0, 0, 0),
  (19, .ldc 89, 2, 0, 0, 0, (-1000001), 0),
  (21, .ireturn, 1, 0, 0, 0, 0, 0),
  (22, .aload_n 0, 1, 0, 0, 0, 0, 0),
  (23, .getfield 34, 3, 11, 3, 0, 0, 0),
  (26, .getfield 155, 3, 1, 3, 0, 0, 0),
  (29, .iload_n 1, 1, 1, 0, 0, 0, 0),
  (30, .iaload, 1, 0, 0, 0, 0, 0),
  (31, .istore_n 3, 1, 3, 0, 0, 0, 0),
  (32, .aload_n 0, 1, 0, 0, 0, 0, 0),
  (33, .getfield 34, 3, 11, 3, 0, 0, 0),
  (36, .getfield 155, 3, 1, 3, 0, 0, 0),
  (39, .iload_n 1, 1, 1, 0, 0, 0, 0),
  (40, .iload_n 2, 1, 2, 0, 0, 0, 0),
  (41, .iastore, 1, 0, 0, 0, 0, 0),
  (42, .iload_n 3, 1, 3, 0, 0, 0, 0),
  (43, .ireturn, 1, 0, 0, 0, 0, 0)]
def hbk87 : List (Nat × hbR) := [(0, .iload_n 1, 1, 1, 0, 0, 0, 0),
  (1, .iconst 4, 1, 0, 0, 0, 4, 0),
  (2, .invokestatic 85, 3, 110, 2, 0, 0, 0),
  (5, .ifCond .eq 24, 3, 29, 0, 0, 0, 0),
  (8, .iload_n 2, 1, 2, 0, 0, 0, 0),
  (9, .iconst 4, 1, 0, 0, 0, 4, 0),
  (10, .invokestatic 85, 3, 110, 2, 0, 0, 0),
  (13, .ifCond .eq 16, 3, 29, 0, 0, 0, 0),
  (16, .iload_n 1, 1, 1, 0, 0, 0, 0),
  (17, .iload_n 2, 1, 2, 0, 0, 0, 0),
  (18, .if_icmp .eq 11, 3, 29, 0, 0, 0, 0),
  (21, .iload_n 3, 1, 3, 0, 0, 0, 0),
  (22, .iconst 2, 1, 0, 0, 0, 2, 0),
  (23, .invokestatic 85, 3, 110, 2, 0, 0, 0),
  (26, .ifCond .ne 6, 3, 32, 0, 0, 0, 0),
  (29, .ldc 89, 2, 0, 0, 0, (-1000001), 0),
  (31, .ireturn, 1, 0, 0, 0, 0, 0),
  (32, .iconst 4, 1, 0, 0, 0, 4, 0),
  (33, .iload_n 1, 1, 1, 0, 0, 0, 0),
  (34, .imul, 1, 0, 0, 0, 0, 0),
  (35, .iload_n 2, 1, 2, 0, 0, 0, 0),
  (36, .iadd, 1, 0, 0, 0, 0, 0),
  (37, .istore 4, 2, 4, 0, 0, 0, 0),
  (39, .aload_n 0, 1, 0, 0, 0, 0, 0),
  (40, .getfield 18, 3, 11, 1, 0, 0, 0),
  (43, .getfield 158, 3, 10, 10, 0, 0, 0),
  (46, .iload 4, 2, 4, 0, 0, 0, 0),
  (48, .ishr, 1, 0, 0, 0, 0, 0),
  (49, .iconst 1, 1, 0, 0, 0, 1, 0),
  (50, .iand, 1, 0, 0, 0, 0, 0),
  (51, .istore 5, 2, 5, 0, 0, 0, 0),
  (53, .aload_n 0, 1, 0, 0, 0, 0, 0),
  (54, .getfield 18, 3, 11, 1, 0, 0, 0),
  (57, .aload_n 0, 1, 0, 0, 0, 0, 0),
  (58, .getfield 18, 3, 11, 1, 0, 0, 0),
  (61, .getfield 158, 3, 10, 10, 0, 0, 0),
  (64, .iconst 1, 1, 0, 0, 0, 1, 0),
  (65, .iload 4, 2, 4, 0, 0, 0, 0),
  (67, .ishl, 1, 0, 0, 0, 0, 0),
  (68, .iconst (-1), 1, 0, 0, 0, (-1), 0),
  (69, .ixor, 1, 0, 0, 0, 0, 0),
  (70, .iand, 1, 0, 0, 0, 0, 0),
  (71, .iload_n 3, 1, 3, 0, 0, 0, 0),
  (72, .iload 4, 2, 4, 0, 0, 0, 0),
  (74, .ishl, 1, 0, 0, 0, 0, 0),
  (75, .ior, 1, 0, 0, 0, 0, 0),
  (76, .putfield 158, 3, 10, 10, 0, 0, 0),
  (79, .iload 5, 2, 5, 0, 0, 0, 0),
  (81, .ireturn, 1, 0, 0, 0, 0, 0)]
def hbk88 : List (Nat × hbR) := [(0, .iload_n 1, 1, 1, 0, 0, 0, 0),
  (1, .invokestatic 161, 3, 109, 1, 0, 0, 0),
  (4, .ifCond .eq 15, 3, 19, 0, 0, 0, 0),
  (7, .aload_n 0, 1, 0, 0, 0, 0, 0),
  (8, .getfield 18, 3, 11, 1, 0, 0, 0),
  (11, .getfield 164, 3, 10, 5, 0, 0, 0),
  (14, .iload_n 1, 1, 1, 0, 0, 0, 0),
  (15, .iaload, 1, 0, 0, 0, 0, 0),
  (16, .goto 5, 3, 21, 0, 0, 0, 0),
  (19, .ldc 89, 2, 0, 0, 0, (-1000001), 0),
  (21, .ireturn, 1, 0, 0, 0, 0, 0)]
def hbk89 : List (Nat × hbR) := [(0, .iload_n 1, 1, 1, 0, 0, 0, 0),
  (1, .invokestatic 161, 3, 109, 1, 0, 0, 0),
  (4, .ifCond .eq 11, 3, 15, 0, 0, 0, 0),
  (7, .iload_n 2, 1, 2, 0, 0, 0, 0),
  (8, .iconst 2, 1, 0, 0, 0, 2, 0),
  (9, .invokestatic 85, 3, 110, 2, 0, 0, 0),
  (12, .ifCond .ne 6, 3, 18, 0, 0, 0, 0),
  (15, .ldc 89, 2, 0, 0, 0, (-1000001), 0),
  (17, .ireturn, 1, 0, 0, 0, 0, 0),
  (18, .iload_n 2, 1, 2, 0, 0, 0, 0),
  (19, .ifCond .ne 15, 3, 34, 0, 0, 0, 0),
  (22, .aload_n 0, 1, 0, 0, 0, 0, 0),
  (23, .getfield 18, 3, 11, 1, 0, 0, 0),
  (26, .getfield 167, 3, 10, 6, 0, 0, 0),
  (29, .iload_n 1, 1, 1, 0, 0, 0, 0),
  (30, .baload, 1, 0, 0, 0, 0, 0),
  (31, .goto 12, 3, 43, 0, 0, 0, 0),
  (34, .aload_n 0, 1, 0, 0, 0, 0, 0),
  (35, .getfield 18, 3, 11, 1, 0, 0, 0),
  (38, .getfield 171, 3, 10, 7, 0, 0, 0),
  (41, .iload_n 1, 1, 1, 0, 0, 0, 0),
  (42, .baload, 1, 0, 0, 0, 0, 0),
  (43, .invokestatic 174, 3, 111, 1, 0, 0, 0),
  (46, .ireturn, 1, 0, 0, 0, 0, 0)]
def hbk90 : List (Nat × hbR) := [(0, .iload_n 1, 1, 1, 0, 0, 0, 0),
  (1, .invokestatic 81, 3, 108, 1, 0, 0, 0),
  (4, .ifCond .eq 14, 3, 18, 0, 0, 0, 0),
  (7, .iload_n 3, 1, 3, 0, 0, 0, 0),
  (8, .iconst 1, 1, 0, 0, 0, 1, 0),
  (9, .if_icmp .lt 9, 3, 18, 0, 0, 0, 0),
  (12, .iload_n 3, 1, 3, 0, 0, 0, 0),
  (13, .bipush 20, 2, 0, 0, 0, 20, 0),
  (15, .if_icmp .le 6, 3, 21, 0, 0, 0, 0),
  (18, .ldc 89, 2, 0, 0, 0, (-1000001), 0),
  (20, .ireturn, 1, 0, 0, 0, 0, 0),
  (21, .aload_n 0, 1, 0, 0, 0, 0, 0),
  (22, .getfield 11, 3, 11, 0, 0, 0, 0),
  (25, .iload_n 1, 1, 1, 0, 0, 0, 0),
  (26, .aaload, 1, 0, 0, 0, 0, 0),
  (27, .astore 4, 2, 4, 0, 0, 0, 0),
  (29, .aload 4, 2, 4, 0, 0, 0, 0),
  (31, .getfield 101, 3, 5, 1, 0, 0, 0),
  (34, .ifCond .ne 9, 3, 43, 0, 0, 0, 0),
  (37, .aload_n 0, 1, 0, 0, 0, 0, 0),
  (38, .iconst 1, 1, 0, 0, 0, 1, 0),
  (39, .invokevirtual 90, 3, 105, 1, 0, 0, 0),
  (42, .ireturn, 1, 0, 0, 0, 0, 0),
  (43, .aload 4, 2, 4, 0, 0, 0, 0),
  (45, .iload_n 2, 1, 2, 0, 0, 0, 0),
  (46, .iload_n 3, 1, 3, 0, 0, 0, 0),
  (47, .invokevirtual 105, 3, 30, 2, 0, 0, 0),
  (50, .ifCond .ne 9, 3, 59, 0, 0, 0, 0),
  (53, .aload_n 0, 1, 0, 0, 0, 0, 0),
  (54, .iconst 2, 1, 0, 0, 0, 2, 0),
  (55, .invokevirtual 90, 3, 105, 1, 0, 0, 0),
  (58, .ireturn, 1, 0, 0, 0, 0, 0),
  (59, .iconst 0, 1, 0, 0, 0, 0, 0),
  (60, .istore 5, 2, 5, 0, 0, 0, 0),
  (62, .iload_n 2, 1, 2, 0, 0, 0, 0),
  (63, .istore 6, 2, 6, 0, 0, 0, 0),
  (65, .iload 6, 2, 6, 0, 0, 0, 0),
  (67, .iload_n 2, 1, 2, 0, 0, 0, 0),
  (68, .iload_n 3, 1, 3, 0, 0, 0, 0),
  (69, .iadd, 1, 0, 0, 0, 0, 0),
  (70, .if_icmp .ge 50, 3, 120, 0, 0, 0, 0),
  (73, .aload 4, 2, 4, 0, 0, 0, 0),
  (75, .getfield 108, 3, 5, 0, 0, 0, 0),
  (78, .iload 6, 2, 6, 0, 0, 0, 0),
  (80, .iaload, 1, 0, 0, 0, 0, 0),
  (81, .invokestatic 161, 3, 109, 1, 0, 0, 0),
  (84, .ifCond .ne 6, 3, 90, 0, 0, 0, 0),
  (87, .ldc 89, 2, 0, 0, 0, (-1000001), 0),
  (89, .ireturn, 1, 0, 0, 0, 0, 0),
  (90, .iload 5, 2, 5, 0, 0, 0, 0),
  (92, .aload_n 0, 1, 0, 0, 0, 0, 0),
  (93, .getfield 18, 3, 11, 1, 0, 0, 0),
  (96, .getfield 167, 3, 10, 6, 0, 0, 0),
  (99, .aload 4, 2, 4, 0, 0, 0, 0),
  (101, .getfield 108, 3, 5, 0, 0, 0, 0),
  (104, .iload 6, 2, 6, 0, 0, 0, 0),
  (106, .iaload, 1, 0, 0, 0, 0, 0),
  (107, .baload, 1, 0, 0, 0, 0, 0),
  (108, .invokestatic 174, 3, 111, 1, 0, 0, 0),
  (111, .iadd, 1, 0, 0, 0, 0, 0),
  (112, .istore 5, 2, 5, 0, 0, 0, 0),
  (114, .iinc 6 1, 3, 6, 0, 0, 1, 0),
  (117, .goto (-52), 3, 65, 0, 0, 0, 0),
  (120, .aload_n 0, 1, 0, 0, 0, 0, 0),
  (121, .iload 5, 2, 5, 0, 0, 0, 0),
  (123, .invokevirtual 98, 3, 106, 1, 0, 0, 0),
  (126, .ireturn, 1, 0, 0, 0, 0, 0)]
def hbk91 : List (Nat × hbR) := [(0, .iload_n 1, 1, 1, 0, 0, 0, 0),
  (1, .bipush 17, 2, 0, 0, 0, 17, 0),
  (3, .invokestatic 85, 3, 110, 2, 0, 0, 0),
  (6, .ifCond .eq 10, 3, 16, 0, 0, 0, 0),
  (9, .iload_n 2, 1, 2, 0, 0, 0, 0),
  (10, .invokestatic 161, 3, 109, 1, 0, 0, 0),
  (13, .ifCond .ne 6, 3, 19, 0, 0, 0, 0),
  (16, .ldc 89, 2, 0, 0, 0, (-1000001), 0),
  (18, .ireturn, 1, 0, 0, 0, 0, 0),
  (19, .aload_n 0, 1, 0, 0, 0, 0, 0),
  (20, .getfield 34, 3, 11, 3, 0, 0, 0),
  (23, .iload_n 1, 1, 1, 0, 0, 0, 0),
  (24, .sipush 1024, 3, 0, 0, 0, 1024, 0),
  (27, .imul, 1, 0, 0, 0, 0, 0),
  (28, .iload_n 2, 1, 2, 0, 0, 0, 0),
  (29, .iadd, 1, 0, 0, 0, 0, 0),
  (30, .invokevirtual 178, 3, 8, 1, 0, 0, 0),
  (33, .ireturn, 1, 0, 0, 0, 0, 0)]
def hbk92 : List (Nat × hbR) := [(0, .iload_n 1, 1, 1, 0, 0, 0, 0),
  (1, .bipush 17, 2, 0, 0, 0, 17, 0),
  (3, .invokestatic 85, 3, 110, 2, 0, 0, 0),
  (6, .ifCond .eq 18, 3, 24, 0, 0, 0, 0),
  (9, .iload_n 2, 1, 2, 0, 0, 0, 0),
  (10, .invokestatic 161, 3, 109, 1, 0, 0, 0),
  (13, .ifCond .eq 11, 3, 24, 0, 0, 0, 0),
  (16, .iload_n 3, 1, 3, 0, 0, 0, 0),
  (17, .iconst 4, 1, 0, 0, 0, 4, 0),
  (18, .invokestatic 85, 3, 110, 2, 0, 0, 0),
  (21, .ifCond .ne 6, 3, 27, 0, 0, 0, 0),
  (24, .ldc 89, 2, 0, 0, 0, (-1000001), 0),
  (26, .ireturn, 1, 0, 0, 0, 0, 0),
  (27, .aload_n 0, 1, 0, 0, 0, 0, 0),
  (28, .getfield 34, 3, 11, 3, 0, 0, 0),
  (31, .iload_n 1, 1, 1, 0, 0, 0, 0),
  (32, .sipush 1024, 3, 0, 0, 0, 1024, 0),
  (35, .imul, 1, 0, 0, 0, 0, 0),
  (36, .iload_n 2, 1, 2, 0, 0, 0, 0),
  (37, .iadd, 1, 0, 0, 0, 0, 0),
  (38, .iload_n 3, 1, 3, 0, 0, 0, 0),
  (39, .invokevirtual 181, 3, 10, 2, 0, 0, 0),
  (42, .ireturn, 1, 0, 0, 0, 0, 0)]
def hbk93 : List (Nat × hbR) := [(0, .iload_n 1, 1, 1, 0, 0, 0, 0),
  (1, .invokestatic 161, 3, 109, 1, 0, 0, 0),
  (4, .ifCond .eq 11, 3, 15, 0, 0, 0, 0),
  (7, .iload_n 2, 1, 2, 0, 0, 0, 0),
  (8, .iconst 3, 1, 0, 0, 0, 3, 0),
  (9, .invokestatic 85, 3, 110, 2, 0, 0, 0),
  (12, .ifCond .ne 6, 3, 18, 0, 0, 0, 0),
  (15, .ldc 89, 2, 0, 0, 0, (-1000001), 0),
  (17, .ireturn, 1, 0, 0, 0, 0, 0),
  (18, .aload_n 0, 1, 0, 0, 0, 0, 0),
  (19, .getfield 63, 3, 11, 6, 0, 0, 0),
  (22, .iload_n 1, 1, 1, 0, 0, 0, 0),
  (23, .invokevirtual 185, 3, 63, 1, 0, 0, 0),
  (26, .iload_n 2, 1, 2, 0, 0, 0, 0),
  (27, .iconst 2, 1, 0, 0, 0, 2, 0),
  (28, .if_icmp .ne 14, 3, 42, 0, 0, 0, 0),
  (31, .aload_n 0, 1, 0, 0, 0, 0, 0),
  (32, .getfield 63, 3, 11, 6, 0, 0, 0),
  (35, .getfield 189, 3, 9, 5, 0, 0, 0),
  (38, .invokestatic 174, 3, 111, 1, 0, 0, 0),
  (41, .ireturn, 1, 0, 0, 0, 0, 0),
  (42, .iload_n 2, 1, 2, 0, 0, 0, 0),
  (43, .ifCond .ne 13, 3, 56, 0, 0, 0, 0),
  (46, .aload_n 0, 1, 0, 0, 0, 0, 0),
  (47, .getfield 63, 3, 11, 6, 0, 0, 0),
  (50, .getfield 192, 3, 9, 3, 0, 0, 0),
  (53, .goto 10, 3, 63, 0, 0, 0, 0),
  (56, .aload_n 0, 1, 0, 0, 0, 0, 0),
  (57, .getfield 63, 3, 11, 6, 0, 0, 0),
  (60, .getfield 195, 3, 9, 4, 0, 0, 0),
  (63, .ireturn, 1, 0, 0, 0, 0, 0)]
def hbk94 : List (Nat × hbR) := [(0, .iload_n 1, 1, 1, 0, 0, 0, 0),
  (1, .invokestatic 161, 3, 109, 1, 0, 0, 0),
  (4, .ifCond .eq 19, 3, 23, 0, 0, 0, 0),
  (7, .iload_n 2, 1, 2, 0, 0, 0, 0),
  (8, .iconst 3, 1, 0, 0, 0, 3, 0),
  (9, .invokestatic 85, 3, 110, 2, 0, 0, 0),
  (12, .ifCond .eq 11, 3, 23, 0, 0, 0, 0),
  (15, .iload_n 3, 1, 3, 0, 0, 0, 0),
  (16, .iconst 5, 1, 0, 0, 0, 5, 0),
  (17, .invokestatic 85, 3, 110, 2, 0, 0, 0),
  (20, .ifCond .ne 6, 3, 26, 0, 0, 0, 0),
  (23, .ldc 89, 2, 0, 0, 0, (-1000001), 0),
  (25, .ireturn, 1, 0, 0, 0, 0, 0),
  (26, .aload_n 0, 1, 0, 0, 0, 0, 0),
  (27, .getfield 70, 3, 11, 7, 0, 0, 0),
  (30, .iload_n 1, 1, 1, 0, 0, 0, 0),
  (31, .iload_n 2, 1, 2, 0, 0, 0, 0),
  (32, .iload_n 3, 1, 3, 0, 0, 0, 0),
  (33, .invokevirtual 198, 3, 50, 3, 0, 0, 0),
  (36, .ireturn, 1, 0, 0, 0, 0, 0)]
def hbk95 : List (Nat × hbR) := [(0, .iload_n 1, 1, 1, 0, 0, 0, 0),
  (1, .invokestatic 161, 3, 109, 1, 0, 0, 0),
  (4, .ifCond .eq 11, 3, 15, 0, 0, 0, 0),
  (7, .iload_n 2, 1, 2, 0, 0, 0, 0),
  (8, .iconst 2, 1, 0, 0, 0, 2, 0),
  (9, .invokestatic 85, 3, 110, 2, 0, 0, 0),
  (12, .ifCond .ne 6, 3, 18, 0, 0, 0, 0),
  (15, .ldc 89, 2, 0, 0, 0, (-1000001), 0),
  (17, .ireturn, 1, 0, 0, 0, 0, 0),
  (18, .aload_n 0, 1, 0, 0, 0, 0, 0),
  (19, .getfield 77, 3, 11, 8, 0, 0, 0),
  (22, .iload_n 1, 1, 1, 0, 0, 0, 0),
  (23, .invokevirtual 202, 3, 0, 1, 0, 0, 0),
  (26, .iload_n 2, 1, 2, 0, 0, 0, 0),
  (27, .ifCond .ne 13, 3, 40, 0, 0, 0, 0),
  (30, .aload_n 0, 1, 0, 0, 0, 0, 0),
  (31, .getfield 77, 3, 11, 8, 0, 0, 0),
  (34, .getfield 205, 3, 0, 2, 0, 0, 0),
  (37, .goto 10, 3, 47, 0, 0, 0, 0),
  (40, .aload_n 0, 1, 0, 0, 0, 0, 0),
  (41, .getfield 77, 3, 11, 8, 0, 0, 0),
  (44, .getfield 208, 3, 0, 3, 0, 0, 0),
  (47, .ireturn, 1, 0, 0, 0, 0, 0)]
def hbk96 : List (Nat × hbR) := [(0, .iload_n 1, 1, 1, 0, 0, 0, 0),
  (1, .invokestatic 161, 3, 109, 1, 0, 0, 0),
  (4, .ifCond .eq 11, 3, 15, 0, 0, 0, 0),
  (7, .iload_n 2, 1, 2, 0, 0, 0, 0),
  (8, .iconst 2, 1, 0, 0, 0, 2, 0),
  (9, .invokestatic 85, 3, 110, 2, 0, 0, 0),
  (12, .ifCond .ne 6, 3, 18, 0, 0, 0, 0),
  (15, .ldc 89, 2, 0, 0, 0, (-1000001), 0),
  (17, .ireturn, 1, 0, 0, 0, 0, 0),
  (18, .aload_n 0, 1, 0, 0, 0, 0, 0),
  (19, .getfield 63, 3, 11, 6, 0, 0, 0),
  (22, .iload_n 1, 1, 1, 0, 0, 0, 0),
  (23, .invokevirtual 211, 3, 66, 1, 0, 0, 0),
  (26, .iload_n 2, 1, 2, 0, 0, 0, 0),
  (27, .ifCond .ne 13, 3, 40, 0, 0, 0, 0),
  (30, .aload_n 0, 1, 0, 0, 0, 0, 0),
  (31, .getfield 63, 3, 11, 6, 0, 0, 0),
  (34, .getfield 214, 3, 9, 6, 0, 0, 0),
  (37, .goto 10, 3, 47, 0, 0, 0, 0),
  (40, .aload_n 0, 1, 0, 0, 0, 0, 0),
  (41, .getfield 63, 3, 11, 6, 0, 0, 0),
  (44, .getfield 217, 3, 9, 7, 0, 0, 0),
  (47, .ireturn, 1, 0, 0, 0, 0, 0)]
def hbk97 : List (Nat × hbR) := [(0, .iload_n 1, 1, 1, 0, 0, 0, 0),
  (1, .invokestatic 161, 3, 109, 1, 0, 0, 0),
  (4, .ifCond .eq 22, 3, 26, 0, 0, 0, 0),
  (7, .aload_n 0, 1, 0, 0, 0, 0, 0),
  (8, .getfield 25, 3, 11, 2, 0, 0, 0),
  (11, .iload_n 2, 1, 2, 0, 0, 0, 0),
  (12, .invokevirtual 220, 3, 32, 1, 0, 0, 0),
  (15, .ifCond .eq 11, 3, 26, 0, 0, 0, 0),
  (18, .iload_n 3, 1, 3, 0, 0, 0, 0),
  (19, .iconst 4, 1, 0, 0, 0, 4, 0),
  (20, .invokestatic 85, 3, 110, 2, 0, 0, 0),
  (23, .ifCond .ne 6, 3, 29, 0, 0, 0, 0),
  (26, .ldc 89, 2, 0, 0, 0, (-1000001), 0),
  (28, .ireturn, 1, 0, 0, 0, 0, 0),
  (29, .aload_n 0, 1, 0, 0, 0, 0, 0),
  (30, .getfield 63, 3, 11, 6, 0, 0, 0),
  (33, .iload_n 1, 1, 1, 0, 0, 0, 0),
  (34, .iload_n 2, 1, 2, 0, 0, 0, 0),
  (35, .iload_n 3, 1, 3, 0, 0, 0, 0),
  (36, .invokevirtual 222, 3, 64, 3, 0, 0, 0),
  (39, .ireturn, 1, 0, 0, 0, 0, 0)]
def hbk98 : List (Nat × hbR) := [(0, .iload_n 1, 1, 1, 0, 0, 0, 0),
  (1, .invokestatic 161, 3, 109, 1, 0, 0, 0),
  (4, .ifCond .eq 11, 3, 15, 0, 0, 0, 0),
  (7, .iload_n 2, 1, 2, 0, 0, 0, 0),
  (8, .iconst 2, 1, 0, 0, 0, 2, 0),
  (9, .invokestatic 85, 3, 110, 2, 0, 0, 0),
  (12, .ifCond .ne 6, 3, 18, 0, 0, 0, 0),
  (15, .ldc 89, 2, 0, 0, 0, (-1000001), 0),
  (17, .ireturn, 1, 0, 0, 0, 0, 0),
  (18, .aload_n 0, 1, 0, 0, 0, 0, 0),
  (19, .getfield 70, 3, 11, 7, 0, 0, 0),
  (22, .iload_n 1, 1, 1, 0, 0, 0, 0),
  (23, .invokevirtual 225, 3, 60, 1, 0, 0, 0),
  (26, .istore_n 3, 1, 3, 0, 0, 0, 0),
  (27, .iload_n 3, 1, 3, 0, 0, 0, 0),
  (28, .ldc 151, 2, 0, 0, 0, (-1000000), 0),
  (30, .if_icmp .eq 8, 3, 38, 0, 0, 0, 0),
  (33, .iload_n 2, 1, 2, 0, 0, 0, 0),
  (34, .iconst 1, 1, 0, 0, 0, 1, 0),
  (35, .if_icmp .ne 7, 3, 42, 0, 0, 0, 0),
  (38, .iload_n 3, 1, 3, 0, 0, 0, 0),
  (39, .goto 7, 3, 46, 0, 0, 0, 0),
  (42, .iload_n 3, 1, 3, 0, 0, 0, 0),
  (43, .invokestatic 228, 3, 188, 1, 0, 0, 0),
  (46, .ireturn, 1, 0, 0, 0, 0, 0)]
def hbk99 : List (Nat × hbR) := [(0, .aload_n 0, 1, 0, 0, 0, 0, 0),
  (1, .getfield 25, 3, 11, 2, 0, 0, 0),
  (4, .iload_n 1, 1, 1, 0, 0, 0, 0),
  (5, .invokevirtual 220, 3, 32, 1, 0, 0, 0),
  (8, .ifCond .eq 14, 3, 22, 0, 0, 0, 0),
  (11, .aload_n 0, 1, 0, 0, 0, 0, 0),
  (12, .getfield 25, 3, 11, 2, 0, 0, 0),
  (15, .iload_n 1, 1, 1, 0, 0, 0, 0),
  (16, .invokevirtual 233, 3, 35, 1, 0, 0, 0),
  (19, .goto 5, 3, 24, 0, 0, 0, 0),
  (22, .ldc 89, 2, 0, 0, 0, (-1000001), 0),
  (24, .ireturn, 1, 0, 0, 0, 0, 0)]
def hbk100 : List (Nat × hbR) := [(0, .aload_n 0, 1, 0, 0, 0, 0, 0),
  (1, .getfield 25, 3, 11, 2, 0, 0, 0),
  (4, .iload_n 1, 1, 1, 0, 0, 0, 0),
  (5, .invokevirtual 220, 3, 32, 1, 0, 0, 0),
  (8, .ifCond .eq 12, 3, 20, 0, 0, 0, 0),
  (11, .iload_n 2, 1, 2, 0, 0, 0, 0),
  (12, .bipush 6, 2, 0, 0, 0, 6, 0),
  (14, .invokestatic 85, 3, 110, 2, 0, 0, 0),
  (17, .ifCond .ne 6, 3, 23, 0, 0, 0, 0),
  (20, .ldc 89, 2, 0, 0, 0, (-1000001), 0),
  (22, .ireturn, 1, 0, 0, 0, 0, 0),
  (23, .aload_n 0, 1, 0, 0, 0, 0, 0),
  (24, .getfield 25, 3, 11, 2, 0, 0, 0),
  (27, .iload_n 1, 1, 1, 0, 0, 0, 0),
  (28, .iload_n 2, 1, 2, 0, 0, 0, 0),
  (29, .invokevirtual 236, 3, 36, 2, 0, 0, 0),
  (32, .ifCond .eq 11, 3, 43, 0, 0, 0, 0),
  (35, .aload_n 0, 1, 0, 0, 0, 0, 0),
  (36, .iload_n 1, 1, 1, 0, 0, 0, 0),
  (37, .invokevirtual 98, 3, 106, 1, 0, 0, 0),
  (40, .goto 8, 3, 48, 0, 0, 0, 0),
  (43, .aload_n 0, 1, 0, 0, 0, 0, 0),
  (44, .iconst 3, 1, 0, 0, 0, 3, 0),
  (45, .invokevirtual 90, 3, 105, 1, 0, 0, 0),
  (48, .ireturn, 1, 0, 0, 0, 0, 0)]
def hbk101 : List (Nat × hbR) := [(0, .aload_n 0, 1, 0, 0, 0, 0, 0),
  (1, .getfield 25, 3, 11, 2, 0, 0, 0),
  (4, .iload_n 1, 1, 1, 0, 0, 0, 0),
  (5, .invokevirtual 220, 3, 32, 1, 0, 0, 0),
  (8, .ifCond .eq 11, 3, 19, 0, 0, 0, 0),
  (11, .iload_n 2, 1, 2, 0, 0, 0, 0),
  (12, .iconst 2, 1, 0, 0, 0, 2, 0),
  (13, .invokestatic 85, 3, 110, 2, 0, 0, 0),
  (16, .ifCond .ne 6, 3, 22, 0, 0, 0, 0),
  (19, .ldc 89, 2, 0, 0, 0, (-1000001), 0),
  (21, .ireturn, 1, 0, 0, 0, 0, 0),
  (22, .aload_n 0, 1, 0, 0, 0, 0, 0),
  (23, .getfield 25, 3, 11, 2, 0, 0, 0),
  (26, .iload_n 1, 1, 1, 0, 0, 0, 0),
  (27, .iload_n 2, 1, 2, 0, 0, 0, 0),
  (28, .invokevirtual 239, 3, 38, 2, 0, 0, 0),
  (31, .ireturn, 1, 0, 0, 0, 0, 0)]
def hbk102 : List (Nat × hbR) := [(0, .iload_n 1, 1, 1, 0, 0, 0, 0),
  (1, .aload_n 0, 1, 0, 0, 0, 0, 0),
  (2, .getfield 25, 3, 11, 2, 0, 0, 0),
  (5, .getfield 242, 3, 6, 6, 0, 0, 0),
  (8, .invokestatic 85, 3, 110, 2, 0, 0, 0),
  (11, .ifCond .eq 15, 3, 26, 0, 0, 0, 0),
  (14, .aload_n 0, 1, 0, 0, 0, 0, 0),
  (15, .getfield 25, 3, 11, 2, 0, 0, 0),
  (18, .getfield 245, 3, 6, 3, 0, 0, 0),
  (21, .iload_n 1, 1, 1, 0, 0, 0, 0),
  (22, .iaload, 1, 0, 0, 0, 0, 0),
  (23, .goto 5, 3, 28, 0, 0, 0, 0),
  (26, .ldc 151, 2, 0, 0, 0, (-1000000), 0),
  (28, .ireturn, 1, 0, 0, 0, 0, 0)]
def hbk103 : List (Nat × hbR) := [(0, .iload_n 1, 1, 1, 0, 0, 0, 0),
  (1, .tableswitch 105 0 6 #[43, 48, 56, 64, 75, 86, 97], 43, 0, 0, 0, 0, 0),
  (44, .aload_n 0, 1, 0, 0, 0, 0, 0),
  (45, .invokevirtual 248, 3, 107, 0, 0, 0, 0),
  (48, .ireturn, 1, 0, 0, 0, 0, 0),
  (49, .aload_n 0, 1, 0, 0, 0, 0, 0),
  (50, .getfield 25, 3, 11, 2, 0, 0, 0),
  (53, .getfield 140, 3, 6, 4, 0, 0, 0),
  (56, .ireturn, 1, 0, 0, 0, 0, 0),
  (57, .aload_n 0, 1, 0, 0, 0, 0, 0),
  (58, .getfield 18, 3, 11, 1, 0, 0, 0),
  (61, .getfield 252, 3, 10, 8, 0, 0, 0),
  (64, .ireturn, 1, 0, 0, 0, 0, 0),
  (65, .aload_n 0, 1, 0, 0, 0, 0, 0),
  (66, .getfield 18, 3, 11, 1, 0, 0, 0),
  (69, .getfield 255, 3, 10, 0, 0, 0, 0),
  (72, .getfield 259, 3, 2, 2, 0, 0, 0),
  (75, .ireturn, 1, 0, 0, 0, 0, 0),
  (76, .aload_n 0, 1, 0, 0, 0, 0, 0),
  (77, .getfield 18, 3, 11, 1, 0, 0, 0),
  (80, .getfield 262, 3, 10, 1, 0, 0, 0),
  (83, .getfield 259, 3, 2, 2, 0, 0, 0),
  (86, .ireturn, 1, 0, 0, 0, 0, 0),
  (87, .aload_n 0, 1, 0, 0, 0, 0, 0),
  (88, .getfield 18, 3, 11, 1, 0, 0, 0),
  (91, .getfield 158, 3, 10, 10, 0, 0, 0),
  (94, .invokestatic 228, 3, 188, 1, 0, 0, 0),
  (97, .ireturn, 1, 0, 0, 0, 0, 0),
  (98, .aload_n 0, 1, 0, 0, 0, 0, 0),
  (99, .getfield 41, 3, 11, 4, 0, 0, 0),
  (102, .getfield 132, 3, 7, 3, 0, 0, 0),
  (105, .ireturn, 1, 0, 0, 0, 0, 0),
  (106, .ldc 89, 2, 0, 0, 0, (-1000001), 0),
  (108, .ireturn, 1, 0, 0, 0, 0, 0)]
def hbk104 : List (Nat × hbR) := [(0, .aload_n 0, 1, 0, 0, 0, 0, 0),
  (1, .getfield 265, 3, 11, 9, 0, 0, 0),
  (4, .ireturn, 1, 0, 0, 0, 0, 0)]
def hbk105 : List (Nat × hbR) := [(0, .aload_n 0, 1, 0, 0, 0, 0, 0),
  (1, .iload_n 1, 1, 1, 0, 0, 0, 0),
  (2, .putfield 265, 3, 11, 9, 0, 0, 0),
  (5, .ldc_w 268, 3, 0, 0, 0, (-1000010), 0),
  (8, .iload_n 1, 1, 1, 0, 0, 0, 0),
  (9, .isub, 1, 0, 0, 0, 0, 0),
  (10, .ireturn, 1, 0, 0, 0, 0, 0)]
def hbk106 : List (Nat × hbR) := [(0, .aload_n 0, 1, 0, 0, 0, 0, 0),
  (1, .iconst 0, 1, 0, 0, 0, 0, 0),
  (2, .putfield 265, 3, 11, 9, 0, 0, 0),
  (5, .iload_n 1, 1, 1, 0, 0, 0, 0),
  (6, .ireturn, 1, 0, 0, 0, 0, 0)]
def hbk107 : List (Nat × hbR) := [(0, .iconst 0, 1, 0, 0, 0, 0, 0),
  (1, .istore_n 1, 1, 1, 0, 0, 0, 0),
  (2, .iconst 0, 1, 0, 0, 0, 0, 0),
  (3, .istore_n 2, 1, 2, 0, 0, 0, 0),
  (4, .iload_n 2, 1, 2, 0, 0, 0, 0),
  (5, .bipush 8, 2, 0, 0, 0, 8, 0),
  (7, .if_icmp .ge 24, 3, 31, 0, 0, 0, 0),
  (10, .iload_n 1, 1, 1, 0, 0, 0, 0),
  (11, .aload_n 0, 1, 0, 0, 0, 0, 0),
  (12, .getfield 11, 3, 11, 0, 0, 0, 0),
  (15, .iload_n 2, 1, 2, 0, 0, 0, 0),
  (16, .aaload, 1, 0, 0, 0, 0, 0),
  (17, .getfield 101, 3, 5, 1, 0, 0, 0),
  (20, .invokestatic 174, 3, 111, 1, 0, 0, 0),
  (23, .iadd, 1, 0, 0, 0, 0, 0),
  (24, .istore_n 1, 1, 1, 0, 0, 0, 0),
  (25, .iinc 2 1, 3, 2, 0, 0, 1, 0),
  (28, .goto (-24), 3, 4, 0, 0, 0, 0),
  (31, .iload_n 1, 1, 1, 0, 0, 0, 0),
  (32, .ireturn, 1, 0, 0, 0, 0, 0)]
def hbk108 : List (Nat × hbR) := [(0, .iload_n 0, 1, 0, 0, 0, 0, 0),
  (1, .bipush 8, 2, 0, 0, 0, 8, 0),
  (3, .invokestatic 85, 3, 110, 2, 0, 0, 0),
  (6, .ireturn, 1, 0, 0, 1, 0, 0)]
def hbk109 : List (Nat × hbR) := [(0, .iload_n 0, 1, 0, 0, 0, 0, 0),
  (1, .sipush 1024, 3, 0, 0, 0, 1024, 0),
  (4, .invokestatic 85, 3, 110, 2, 0, 0, 0),
  (7, .ireturn, 1, 0, 0, 1, 0, 0)]
def hbk110 : List (Nat × hbR) := [(0, .iload_n 0, 1, 0, 0, 0, 0, 0),
  (1, .ifCond .lt 12, 3, 13, 0, 0, 0, 0),
  (4, .iload_n 0, 1, 0, 0, 0, 0, 0),
  (5, .iload_n 1, 1, 1, 0, 0, 0, 0),
  (6, .if_icmp .ge 7, 3, 13, 0, 0, 0, 0),
  (9, .iconst 1, 1, 0, 0, 0, 1, 0),
  (10, .goto 4, 3, 14, 0, 0, 0, 0),
  (13, .iconst 0, 1, 0, 0, 0, 0, 0),
  (14, .ireturn, 1, 0, 0, 1, 0, 0)]
def hbk111 : List (Nat × hbR) := [(0, .iload_n 0, 1, 0, 0, 0, 0, 0),
  (1, .ifCond .eq 7, 3, 8, 0, 0, 0, 0),
  (4, .iconst 1, 1, 0, 0, 0, 1, 0),
  (5, .goto 4, 3, 9, 0, 0, 0, 0),
  (8, .iconst 0, 1, 0, 0, 0, 0, 0),
  (9, .ireturn, 1, 0, 0, 0, 0, 0)]
def hbk112 : List (Nat × hbR) := [(0, .lload_n 0, 1, 0, 0, 0, 0, 0),
  (1, .lload_n 2, 1, 2, 0, 0, 0, 0),
  (2, .lcmp, 1, 0, 0, 0, 0, 0),
  (3, .ifCond .lt 14, 3, 17, 0, 0, 0, 0),
  (6, .lload_n 0, 1, 0, 0, 0, 0, 0),
  (7, .lload 4, 2, 4, 0, 0, 0, 0),
  (9, .lcmp, 1, 0, 0, 0, 0, 0),
  (10, .ifCond .gt 7, 3, 17, 0, 0, 0, 0),
  (13, .iconst 1, 1, 0, 0, 0, 1, 0),
  (14, .goto 4, 3, 18, 0, 0, 0, 0),
  (17, .iconst 0, 1, 0, 0, 0, 0, 0),
  (18, .ireturn, 1, 0, 0, 1, 0, 0)]
def hbk113 : List (Nat × hbR) := [(0, .aload_n 0, 1, 0, 0, 0, 0, 0),
  (1, .iload_n 1, 1, 1, 0, 0, 0, 0),
  (2, .putfield 91, 3, 12, 1, 0, 0, 0),
  (5, .ldc 94, 2, 0, 0, 0, (-1000010), 0),
  (7, .iload_n 1, 1, 1, 0, 0, 0, 0),
  (8, .isub, 1, 0, 0, 0, 0, 0),
  (9, .ireturn, 1, 0, 0, 0, 0, 0)]
def hbk114 : List (Nat × hbR) := [(0, .iload_n 0, 1, 0, 0, 0, 0, 0),
  (1, .i2l, 1, 0, 0, 0, 0, 0),
  (2, .lconst 0, 1, 0, 0, 0, 0, 0),
  (3, .ldc2_w 95, 3, 0, 0, 0, 0, 7),
  (6, .invokestatic 97, 3, 112, 3, 0, 0, 0),
  (9, .ireturn, 1, 0, 0, 1, 0, 0)]
def hbk115 : List (Nat × hbR) := [(0, .aload_n 0, 1, 0, 0, 0, 0, 0),
  (1, .iconst 0, 1, 0, 0, 0, 0, 0),
  (2, .putfield 87, 3, 12, 0, 0, 0, 0),
  (5, .iload_n 1, 1, 1, 0, 0, 0, 0),
  (6, .invokestatic 101, 3, 114, 1, 0, 0, 0),
  (9, .ifCond .eq 21, 3, 30, 0, 0, 0, 0),
  (12, .iload_n 2, 1, 2, 0, 0, 0, 0),
  (13, .i2l, 1, 0, 0, 0, 0, 0),
  (14, .lconst 0, 1, 0, 0, 0, 0, 0),
  (15, .ldc2_w 105, 3, 0, 0, 0, 0, 2),
  (18, .invokestatic 97, 3, 112, 3, 0, 0, 0),
  (21, .ifCond .eq 9, 3, 30, 0, 0, 0, 0),
  (24, .iload_n 3, 1, 3, 0, 0, 0, 0),
  (25, .bipush 40, 2, 0, 0, 0, 40, 0),
  (27, .if_icmp .le 6, 3, 33, 0, 0, 0, 0),
  (30, .ldc 107, 2, 0, 0, 0, (-1000001), 0),
  (32, .ireturn, 1, 0, 0, 0, 0, 0),
  (33, .aload_n 0, 1, 0, 0, 0, 0, 0),
  (34, .iconst 0, 1, 0, 0, 0, 0, 0),
  (35, .putfield 91, 3, 12, 1, 0, 0, 0),
  (38, .iload_n 3, 1, 3, 0, 0, 0, 0),
  (39, .ifCond .ge 9, 3, 48, 0, 0, 0, 0),
  (42, .aload_n 0, 1, 0, 0, 0, 0, 0),
  (43, .iconst 4, 1, 0, 0, 0, 4, 0),
  (44, .invokevirtual 108, 3, 113, 1, 0, 0, 0),
  (47, .ireturn, 1, 0, 0, 0, 0, 0),
  (48, .aload_n 0, 1, 0, 0, 0, 0, 0),
  (49, .getfield 7, 3, 12, 2, 0, 0, 0),
  (52, .iload_n 1, 1, 1, 0, 0, 0, 0),
  (53, .iload_n 2, 1, 2, 0, 0, 0, 0),
  (54, .iastore, 1, 0, 0, 0, 0, 0),
  (55, .aload_n 0, 1, 0, 0, 0, 0, 0),
  (56, .getfield 13, 3, 12, 3, 0, 0, 0),
  (59, .iload_n 1, 1, 1, 0, 0, 0, 0),
  (60, .iload_n 3, 1, 3, 0, 0, 0, 0),
  (61, .iastore, 1, 0, 0, 0, 0, 0),
  (62, .iconst 0, 1, 0, 0, 0, 0, 0),
  (63, .istore 4, 2, 4, 0, 0, 0, 0),
  (65, .iload 4, 2, 4, 0, 0, 0, 0),
  (67, .bipush 40, 2, 0, 0, 0, 40, 0),
  (69, .if_icmp .ge 22, 3, 91, 0, 0, 0, 0),
  (72, .aload_n 0, 1, 0, 0, 0, 0, 0),
  (73, .getfield 16, 3, 12, 4, 0, 0, 0),
  (76, .bipush 40, 2, 0, 0, 0, 40, 0),
  (78, .iload_n 1, 1, 1, 0, 0, 0, 0),
  (79, .imul, 1, 0, 0, 0, 0, 0),
  (80, .iload 4, 2, 4, 0, 0, 0, 0),
  (82, .iadd, 1, 0, 0, 0, 0, 0),
  (83, .iconst 0, 1, 0, 0, 0, 0, 0),
  (84, .iastore, 1, 0, 0, 0, 0, 0),
  (85, .iinc 4 1, 3, 4, 0, 0, 1, 0),
  (88, .goto (-23), 3, 65, 0, 0, 0, 0),
  (91, .iload_n 3, 1, 3, 0, 0, 0, 0),
  (92, .ireturn, 1, 0, 0, 0, 0, 0)]
def hbk116 : List (Nat × hbR) := [(0, .aload_n 0, 1, 0, 0, 0, 0, 0),
  (1, .iconst 0, 1, 0, 0, 0, 0, 0),
  (2, .putfield 87, 3, 12, 0, 0, 0, 0),
  (5, .iload_n 1, 1, 1, 0, 0, 0, 0),
  (6, .invokestatic 101, 3, 114, 1, 0, 0, 0),
  (9, .ifCond .ne 6, 3, 15, 0, 0, 0, 0),
  (12, .ldc 107, 2, 0, 0, 0, (-1000001), 0),
  (14, .ireturn, 1, 0, 0, 0, 0, 0),
  (15, .aload_n 0, 1, 0, 0, 0, 0, 0),
  (16, .iconst 0, 1, 0, 0, 0, 0, 0),
  (17, .putfield 91, 3, 12, 1, 0, 0, 0),
  (20, .aload_n 0, 1, 0, 0, 0, 0, 0),
  (21, .getfield 7, 3, 12, 2, 0, 0, 0),
  (24, .iload_n 1, 1, 1, 0, 0, 0, 0),
  (25, .iaload, 1, 0, 0, 0, 0, 0),
  (26, .ifCond .ge 9, 3, 35, 0, 0, 0, 0),
  (29, .aload_n 0, 1, 0, 0, 0, 0, 0),
  (30, .iconst 1, 1, 0, 0, 0, 1, 0),
  (31, .invokevirtual 108, 3, 113, 1, 0, 0, 0),
  (34, .ireturn, 1, 0, 0, 0, 0, 0),
  (35, .iload_n 2, 1, 2, 0, 0, 0, 0),
  (36, .i2l, 1, 0, 0, 0, 0, 0),
  (37, .lconst 0, 1, 0, 0, 0, 0, 0),
  (38, .aload_n 0, 1, 0, 0, 0, 0, 0),
  (39, .getfield 13, 3, 12, 3, 0, 0, 0),
  (42, .iload_n 1, 1, 1, 0, 0, 0, 0),
  (43, .iaload, 1, 0, 0, 0, 0, 0),
  (44, .iconst 1, 1, 0, 0, 0, 1, 0),
  (45, .isub, 1, 0, 0, 0, 0, 0),
  (46, .i2l, 1, 0, 0, 0, 0, 0),
  (47, .invokestatic 97, 3, 112, 3, 0, 0, 0),
  (50, .ifCond .ne 9, 3, 59, 0, 0, 0, 0),
  (53, .aload_n 0, 1, 0, 0, 0, 0, 0),
  (54, .iconst 2, 1, 0, 0, 0, 2, 0),
  (55, .invokevirtual 108, 3, 113, 1, 0, 0, 0),
  (58, .ireturn, 1, 0, 0, 0, 0, 0),
  (59, .aload_n 0, 1, 0, 0, 0, 0, 0),
  (60, .getfield 16, 3, 12, 4, 0, 0, 0),
  (63, .bipush 40, 2, 0, 0, 0, 40, 0),
  (65, .iload_n 1, 1, 1, 0, 0, 0, 0),
  (66, .imul, 1, 0, 0, 0, 0, 0),
  (67, .iload_n 2, 1, 2, 0, 0, 0, 0),
  (68, .iadd, 1, 0, 0, 0, 0, 0),
  (69, .aload_n 0, 1, 0, 0, 0, 0, 0),
  (70, .getfield 7, 3, 12, 2, 0, 0, 0),
  (73, .iload_n 1, 1, 1, 0, 0, 0, 0),
  (74, .iaload, 1, 0, 0, 0, 0, 0),
  (75, .ifCond .ne 8, 3, 83, 0, 0, 0, 0),
  (78, .iload_n 3, 1, 3, 0, 0, 0, 0),
  (79, .i2b, 1, 0, 0, 0, 0, 0),
  (80, .goto 19, 3, 99, 0, 0, 0, 0),
  (83, .aload_n 0, 1, 0, 0, 0, 0, 0),
  (84, .getfield 7, 3, 12, 2, 0, 0, 0),
  (87, .iload_n 1, 1, 1, 0, 0, 0, 0),
  (88, .iaload, 1, 0, 0, 0, 0, 0),
  (89, .iconst 1, 1, 0, 0, 0, 1, 0),
  (90, .if_icmp .ne 8, 3, 98, 0, 0, 0, 0),
  (93, .iload_n 3, 1, 3, 0, 0, 0, 0),
  (94, .i2s, 1, 0, 0, 0, 0, 0),
  (95, .goto 4, 3, 99, 0, 0, 0, 0),
  (98, .iload_n 3, 1, 3, 0, 0, 0, 0),
  (99, .iastore, 1, 0, 0, 0, 0, 0),
  (100, .aload_n 0, 1, 0, 0, 0, 0, 0),
  (101, .getfield 16, 3, 12, 4, 0, 0, 0),
  (104, .bipush 40, 2, 0, 0, 0, 40, 0),
  (106, .iload_n 1, 1, 1, 0, 0, 0, 0),
  (107, .imul, 1, 0, 0, 0, 0, 0),
  (108, .iload_n 2, 1, 2, 0, 0, 0, 0),
  (109, .iadd, 1, 0, 0, 0, 0, 0),
  (110, .iaload, 1, 0, 0, 0, 0, 0),
  (111, .ireturn, 1, 0, 0, 0, 0, 0)]
def hbk117 : List (Nat × hbR) := [(0, .aload_n 0, 1, 0, 0, 0, 0, 0),
  (1, .iconst 0, 1, 0, 0, 0, 0, 0),
  (2, .putfield 87, 3, 12, 0, 0, 0, 0),
  (5, .iload_n 1, 1, 1, 0, 0, 0, 0),
  (6, .invokestatic 101, 3, 114, 1, 0, 0, 0),
  (9, .ifCond .eq 10, 3, 19, 0, 0, 0, 0),
  (12, .iload_n 3, 1, 3, 0, 0, 0, 0),
  (13, .invokestatic 101, 3, 114, 1, 0, 0, 0),
  (16, .ifCond .ne 6, 3, 22, 0, 0, 0, 0),
  (19, .ldc 107, 2, 0, 0, 0, (-1000001), 0),
  (21, .ireturn, 1, 0, 0, 0, 0, 0),
  (22, .aload_n 0, 1, 0, 0, 0, 0, 0),
  (23, .iconst 0, 1, 0, 0, 0, 0, 0),
  (24, .putfield 91, 3, 12, 1, 0, 0, 0),
  (27, .aload_n 0, 1, 0, 0, 0, 0, 0),
  (28, .getfield 7, 3, 12, 2, 0, 0, 0),
  (31, .iload_n 1, 1, 1, 0, 0, 0, 0),
  (32, .iaload, 1, 0, 0, 0, 0, 0),
  (33, .ifCond .lt 12, 3, 45, 0, 0, 0, 0),
  (36, .aload_n 0, 1, 0, 0, 0, 0, 0),
  (37, .getfield 7, 3, 12, 2, 0, 0, 0),
  (40, .iload_n 3, 1, 3, 0, 0, 0, 0),
  (41, .iaload, 1, 0, 0, 0, 0, 0),
  (42, .ifCond .ge 9, 3, 51, 0, 0, 0, 0),
  (45, .aload_n 0, 1, 0, 0, 0, 0, 0),
  (46, .iconst 1, 1, 0, 0, 0, 1, 0),
  (47, .invokevirtual 108, 3, 113, 1, 0, 0, 0),
  (50, .ireturn, 1, 0, 0, 0, 0, 0),
  (51, .aload_n 0, 1, 0, 0, 0, 0, 0),
  (52, .getfield 7, 3, 12, 2, 0, 0, 0),
  (55, .iload_n 1, 1, 1, 0, 0, 0, 0),
  (56, .iaload, 1, 0, 0, 0, 0, 0),
  (57, .aload_n 0, 1, 0, 0, 0, 0, 0),
  (58, .getfield 7, 3, 12, 2, 0, 0, 0),
  (61, .iload_n 3, 1, 3, 0, 0, 0, 0),
  (62, .iaload, 1, 0, 0, 0, 0, 0),
  (63, .if_icmp .eq 9, 3, 72, 0, 0, 0, 0),
  (66, .aload_n 0, 1, 0, 0, 0, 0, 0),
  (67, .iconst 5, 1, 0, 0, 0, 5, 0),
  (68, .invokevirtual 108, 3, 113, 1, 0, 0, 0),
  (71, .ireturn, 1, 0, 0, 0, 0, 0),
  (72, .iload_n 2, 1, 2, 0, 0, 0, 0),
  (73, .ifCond .lt 48, 3, 121, 0, 0, 0, 0),
  (76, .iload 4, 2, 4, 0, 0, 0, 0),
  (78, .ifCond .lt 43, 3, 121, 0, 0, 0, 0),
  (81, .iload 5, 2, 5, 0, 0, 0, 0),
  (83, .ifCond .lt 38, 3, 121, 0, 0, 0, 0),
  (86, .iload_n 2, 1, 2, 0, 0, 0, 0),
  (87, .i2l, 1, 0, 0, 0, 0, 0),
  (88, .iload 5, 2, 5, 0, 0, 0, 0),
  (90, .i2l, 1, 0, 0, 0, 0, 0),
  (91, .ladd, 1, 0, 0, 0, 0, 0),
  (92, .aload_n 0, 1, 0, 0, 0, 0, 0),
  (93, .getfield 13, 3, 12, 3, 0, 0, 0),
  (96, .iload_n 1, 1, 1, 0, 0, 0, 0),
  (97, .iaload, 1, 0, 0, 0, 0, 0),
  (98, .i2l, 1, 0, 0, 0, 0, 0),
  (99, .lcmp, 1, 0, 0, 0, 0, 0),
  (100, .ifCond .gt 21, 3, 121, 0, 0, 0, 0),
  (103, .iload 4, 2, 4, 0, 0, 0, 0),
  (105, .i2l, 1, 0, 0, 0, 0, 0),
  (106, .iload 5, 2, 5, 0, 0, 0, 0),
  (108, .i2l, 1, 0, 0, 0, 0, 0),
  (109, .ladd, 1, 0, 0, 0, 0, 0),
  (110, .aload_n 0, 1, 0, 0, 0, 0, 0),
  (111, .getfield 13, 3, 12, 3, 0, 0, 0),
  (114, .iload_n 3, 1, 3, 0, 0, 0, 0),
  (115, .iaload, 1, 0, 0, 0, 0, 0),
  (116, .i2l, 1, 0, 0, 0, 0, 0),
  (117, .lcmp, 1, 0, 0, 0, 0, 0),
  (118, .ifCond .le 9, 3, 127, 0, 0, 0, 0),
  (121, .aload_n 0, 1, 0, 0, 0, 0, 0),
  (122, .iconst 2, 1, 0, 0, 0, 2, 0),
  (123, .invokevirtual 108, 3, 113, 1, 0, 0, 0),
  (126, .ireturn, 1, 0, 0, 0, 0, 0),
  (127, .iload_n 2, 1, 2, 0, 0, 0, 0),
  (128, .iload 4, 2, 4, 0, 0, 0, 0),
  (130, .if_icmp .lt 7, 3, 137, 0, 0, 0, 0),
  (133, .iconst 1, 1, 0, 0, 0, 1, 0),
  (134, .goto 4, 3, 138, 0, 0, 0, 0),
  (137, .iconst 0, 1, 0, 0, 0, 0, 0),
  (138, .istore 6, 2, 6, 0, 0, 0, 0),
  (140, .iconst 0, 1, 0, 0, 0, 0, 0),
  (141, .istore 7, 2, 7, 0, 0, 0, 0),
  (143, .iload 7, 2, 7, 0, 0, 0, 0),
  (145, .iload 5, 2, 5, 0, 0, 0, 0),
  (147, .if_icmp .ge 57, 3, 204, 0, 0, 0, 0),
  (150, .iload 6, 2, 6, 0, 0, 0, 0),
  (152, .ifCond .eq 8, 3, 160, 0, 0, 0, 0),
  (155, .iload 7, 2, 7, 0, 0, 0, 0),
  (157, .goto 10, 3, 167, 0, 0, 0, 0),
  (160, .iload 5, 2, 5, 0, 0, 0, 0),
  (162, .iconst 1, 1, 0, 0, 0, 1, 0),
  (163, .isub, 1, 0, 0, 0, 0, 0),
  (164, .iload 7, 2, 7, 0, 0, 0, 0),
  (166, .isub, 1, 0, 0, 0, 0, 0),
  (167, .istore 8, 2, 8, 0, 0, 0, 0),
  (169, .aload_n 0, 1, 0, 0, 0, 0, 0),
  (170, .getfield 16, 3, 12, 4, 0, 0, 0),
  (173, .bipush 40, 2, 0, 0, 0, 40, 0),
  (175, .iload_n 3, 1, 3, 0, 0, 0, 0),
  (176, .imul, 1, 0, 0, 0, 0, 0),
  (177, .iload 4, 2, 4, 0, 0, 0, 0),
  (179, .iadd, 1, 0, 0, 0, 0, 0),
  (180, .iload 8, 2, 8, 0, 0, 0, 0),
  (182, .iadd, 1, 0, 0, 0, 0, 0),
  (183, .aload_n 0, 1, 0, 0, 0, 0, 0),
  (184, .getfield 16, 3, 12, 4, 0, 0, 0),
  (187, .bipush 40, 2, 0, 0, 0, 40, 0),
  (189, .iload_n 1, 1, 1, 0, 0, 0, 0),
  (190, .imul, 1, 0, 0, 0, 0, 0),
  (191, .iload_n 2, 1, 2, 0, 0, 0, 0),
  (192, .iadd, 1, 0, 0, 0, 0, 0),
  (193, .iload 8, 2, 8, 0, 0, 0, 0),
  (195, .iadd, 1, 0, 0, 0, 0, 0),
  (196, .iaload, 1, 0, 0, 0, 0, 0),
  (197, .iastore, 1, 0, 0, 0, 0, 0),
  (198, .iinc 7 1, 3, 7, 0, 0, 1, 0),
  (201, .goto (-58), 3, 143, 0, 0, 0, 0),
  (204, .iload 5, 2, 5, 0, 0, 0, 0),
  (206, .ireturn, 1, 0, 0, 0, 0, 0)]
def hbk118 : List (Nat × hbR) := [(0, .aload_n 0, 1, 0, 0, 0, 0, 0),
  (1, .iconst 0, 1, 0, 0, 0, 0, 0),
  (2, .putfield 87, 3, 12, 0, 0, 0, 0),
  (5, .iload_n 1, 1, 1, 0, 0, 0, 0),
  (6, .invokestatic 101, 3, 114, 1, 0, 0, 0),
  (9, .ifCond .ne 6, 3, 15, 0, 0, 0, 0),
  (12, .ldc 107, 2, 0, 0, 0, (-1000001), 0),
  (14, .ireturn, 1, 0, 0, 0, 0, 0),
  (15, .aload_n 0, 1, 0, 0, 0, 0, 0),
  (16, .iconst 0, 1, 0, 0, 0, 0, 0),
  (17, .putfield 91, 3, 12, 1, 0, 0, 0),
  (20, .aload_n 0, 1, 0, 0, 0, 0, 0),
  (21, .getfield 7, 3, 12, 2, 0, 0, 0),
  (24, .iload_n 1, 1, 1, 0, 0, 0, 0),
  (25, .iaload, 1, 0, 0, 0, 0, 0),
  (26, .ifCond .ge 9, 3, 35, 0, 0, 0, 0),
  (29, .aload_n 0, 1, 0, 0, 0, 0, 0),
  (30, .iconst 1, 1, 0, 0, 0, 1, 0),
  (31, .invokevirtual 108, 3, 113, 1, 0, 0, 0),
  (34, .ireturn, 1, 0, 0, 0, 0, 0),
  (35, .aload_n 0, 1, 0, 0, 0, 0, 0),
  (36, .getfield 7, 3, 12, 2, 0, 0, 0),
  (39, .iload_n 1, 1, 1, 0, 0, 0, 0),
  (40, .iconst (-1), 1, 0, 0, 0, (-1), 0),
  (41, .iastore, 1, 0, 0, 0, 0, 0),
  (42, .aload_n 0, 1, 0, 0, 0, 0, 0),
  (43, .getfield 13, 3, 12, 3, 0, 0, 0),
  (46, .iload_n 1, 1, 1, 0, 0, 0, 0),
  (47, .iaload, 1, 0, 0, 0, 0, 0),
  (48, .ireturn, 1, 0, 0, 0, 0, 0)]
def hbk119 : List (Nat × hbR) := [(0, .aload_n 0, 1, 0, 0, 0, 0, 0),
  (1, .iconst 0, 1, 0, 0, 0, 0, 0),
  (2, .putfield 87, 3, 12, 0, 0, 0, 0),
  (5, .iload_n 3, 1, 3, 0, 0, 0, 0),
  (6, .i2l, 1, 0, 0, 0, 0, 0),
  (7, .lconst 1, 1, 0, 0, 0, 0, 1),
  (8, .ldc2_w 112, 3, 0, 0, 0, 0, 8),
  (11, .invokestatic 97, 3, 112, 3, 0, 0, 0),
  (14, .ifCond .ne 6, 3, 20, 0, 0, 0, 0),
  (17, .ldc 107, 2, 0, 0, 0, (-1000001), 0),
  (19, .ireturn, 1, 0, 0, 0, 0, 0),
  (20, .aload_n 0, 1, 0, 0, 0, 0, 0),
  (21, .getfield 114, 3, 12, 23, 0, 0, 0),
  (24, .iload_n 3, 1, 3, 0, 0, 0, 0),
  (25, .iadd, 1, 0, 0, 0, 0, 0),
  (26, .sipush 400, 3, 0, 0, 0, 400, 0),
  (29, .if_icmp .le 6, 3, 35, 0, 0, 0, 0),
  (32, .ldc 117, 2, 0, 0, 0, (-1000003), 0),
  (34, .ireturn, 1, 0, 0, 0, 0, 0),
  (35, .iload_n 3, 1, 3, 0, 0, 0, 0),
  (36, .iconst 1, 1, 0, 0, 0, 1, 0),
  (37, .isub, 1, 0, 0, 0, 0, 0),
  (38, .istore 4, 2, 4, 0, 0, 0, 0),
  (40, .iload 4, 2, 4, 0, 0, 0, 0),
  (42, .ifCond .lt 40, 3, 82, 0, 0, 0, 0),
  (45, .aload_n 0, 1, 0, 0, 0, 0, 0),
  (46, .getfield 46, 3, 12, 22, 0, 0, 0),
  (49, .aload_n 0, 1, 0, 0, 0, 0, 0),
  (50, .getfield 114, 3, 12, 23, 0, 0, 0),
  (53, .lload_n 1, 1, 1, 0, 0, 0, 0),
  (54, .bipush 8, 2, 0, 0, 0, 8, 0),
  (56, .iload 4, 2, 4, 0, 0, 0, 0),
  (58, .imul, 1, 0, 0, 0, 0, 0),
  (59, .lshr, 1, 0, 0, 0, 0, 0),
  (60, .ldc2_w 118, 3, 0, 0, 0, 0, 255),
  (63, .land, 1, 0, 0, 0, 0, 0),
  (64, .l2i, 1, 0, 0, 0, 0, 0),
  (65, .iastore, 1, 0, 0, 0, 0, 0),
  (66, .aload_n 0, 1, 0, 0, 0, 0, 0),
  (67, .dup, 1, 0, 0, 0, 0, 0),
  (68, .getfield 114, 3, 12, 23, 0, 0, 0),
  (71, .iconst 1, 1, 0, 0, 0, 1, 0),
  (72, .iadd, 1, 0, 0, 0, 0, 0),
  (73, .putfield 114, 3, 12, 23, 0, 0, 0),
  (76, .iinc 4 (-1), 3, 4, 0, 0, (-1), 0),
  (79, .goto (-39), 3, 40, 0, 0, 0, 0),
  (82, .aload_n 0, 1, 0, 0, 0, 0, 0),
  (83, .getfield 114, 3, 12, 23, 0, 0, 0),
  (86, .ireturn, 1, 0, 0, 0, 0, 0)]
def hbk120 : List (Nat × hbR) := [(0, .iload_n 1, 1, 1, 0, 0, 0, 0),
  (1, .aload_n 0, 1, 0, 0, 0, 0, 0),
  (2, .getfield 120, 3, 12, 25, 0, 0, 0),
  (5, .if_icmp .ge 12, 3, 17, 0, 0, 0, 0),
  (8, .aload_n 0, 1, 0, 0, 0, 0, 0),
  (9, .getfield 46, 3, 12, 22, 0, 0, 0),
  (12, .iload_n 1, 1, 1, 0, 0, 0, 0),
  (13, .iaload, 1, 0, 0, 0, 0, 0),
  (14, .goto 5, 3, 19, 0, 0, 0, 0),
  (17, .ldc 123, 2, 0, 0, 0, (-1000000), 0),
  (19, .ireturn, 1, 0, 0, 0, 0, 0)]
def hbk121 : List (Nat × hbR) := [(0, .iload_n 0, 1, 0, 0, 0, 0, 0),
  (1, .bipush 97, 2, 0, 0, 0, 97, 0),
  (3, .if_icmp .lt 13, 3, 16, 0, 0, 0, 0),
  (6, .iload_n 0, 1, 0, 0, 0, 0, 0),
  (7, .bipush 122, 2, 0, 0, 0, 122, 0),
  (9, .if_icmp .gt 7, 3, 16, 0, 0, 0, 0),
  (12, .iconst 1, 1, 0, 0, 0, 1, 0),
  (13, .goto 4, 3, 17, 0, 0, 0, 0),
  (16, .iconst 0, 1, 0, 0, 0, 0, 0),
  (17, .ireturn, 1, 0, 0, 1, 0, 0)]
def hbk122 : List (Nat × hbR) := [(0, .iload_n 0, 1, 0, 0, 0, 0, 0),
  (1, .bipush 48, 2, 0, 0, 0, 48, 0),
  (3, .if_icmp .lt 13, 3, 16, 0, 0, 0, 0),
  (6, .iload_n 0, 1, 0, 0, 0, 0, 0),
  (7, .bipush 57, 2, 0, 0, 0, 57, 0),
  (9, .if_icmp .gt 7, 3, 16, 0, 0, 0, 0),
  (12, .iconst 1, 1, 0, 0, 0, 1, 0),
  (13, .goto 4, 3, 17, 0, 0, 0, 0),
  (16, .iconst 0, 1, 0, 0, 0, 0, 0),
  (17, .ireturn, 1, 0, 0, 1, 0, 0)]
def hbk123 : List (Nat × hbR) := [(0, .aload_n 0, 1, 0, 0, 0, 0, 0),
  (1, .aload_n 0, 1, 0, 0, 0, 0, 0),
  (2, .getfield 124, 3, 12, 26, 0, 0, 0),
  (5, .invokevirtual 127, 3, 120, 1, 0, 0, 0),
  (8, .bipush 32, 2, 0, 0, 0, 32, 0),
  (10, .if_icmp .eq 16, 3, 26, 0, 0, 0, 0),
  (13, .aload_n 0, 1, 0, 0, 0, 0, 0),
  (14, .aload_n 0, 1, 0, 0, 0, 0, 0),
  (15, .getfield 124, 3, 12, 26, 0, 0, 0),
  (18, .invokevirtual 127, 3, 120, 1, 0, 0, 0),
  (21, .bipush 10, 2, 0, 0, 0, 10, 0),
  (23, .if_icmp .ne 16, 3, 39, 0, 0, 0, 0),
  (26, .aload_n 0, 1, 0, 0, 0, 0, 0),
  (27, .dup, 1, 0, 0, 0, 0, 0),
  (28, .getfield 124, 3, 12, 26, 0, 0, 0),
  (31, .iconst 1, 1, 0, 0, 0, 1, 0),
  (32, .iadd, 1, 0, 0, 0, 0, 0),
  (33, .putfield 124, 3, 12, 26, 0, 0, 0),
  (36, .goto (-36), 3, 0, 0, 0, 0, 0),
  (39, .aload_n 0, 1, 0, 0, 0, 0, 0),
  (40, .aload_n 0, 1, 0, 0, 0, 0, 0),
  (41, .getfield 124, 3, 12, 26, 0, 0, 0),
  (44, .putfield 130, 3, 12, 28, 0, 0, 0),
  (47, .aload_n 0, 1, 0, 0, 0, 0, 0),
  (48, .aload_n 0, 1, 0, 0, 0, 0, 0),
  (49, .getfield 124, 3, 12, 26, 0, 0, 0),
  (52, .invokevirtual 127, 3, 120, 1, 0, 0, 0),
  (55, .istore_n 1, 1, 1, 0, 0, 0, 0),
  (56, .iload_n 1, 1, 1, 0, 0, 0, 0),
  (57, .ldc 123, 2, 0, 0, 0, (-1000000), 0),
  (59, .if_icmp .ne 11, 3, 70, 0, 0, 0, 0),
  (62, .aload_n 0, 1, 0, 0, 0, 0, 0),
  (63, .iconst 1, 1, 0, 0, 0, 1, 0),
  (64, .putfield 133, 3, 12, 27, 0, 0, 0),
  (67, .goto 129, 3, 196, 0, 0, 0, 0),
  (70, .iload_n 1, 1, 1, 0, 0, 0, 0),
  (71, .invokestatic 136, 3, 121, 1, 0, 0, 0),
  (74, .ifCond .eq 38, 3, 112, 0, 0, 0, 0),
  (77, .aload_n 0, 1, 0, 0, 0, 0, 0),
  (78, .aload_n 0, 1, 0, 0, 0, 0, 0),
  (79, .getfield 124, 3, 12, 26, 0, 0, 0),
  (82, .invokevirtual 127, 3, 120, 1, 0, 0, 0),
  (85, .invokestatic 136, 3, 121, 1, 0, 0, 0),
  (88, .ifCond .eq 16, 3, 104, 0, 0, 0, 0),
  (91, .aload_n 0, 1, 0, 0, 0, 0, 0),
  (92, .dup, 1, 0, 0, 0, 0, 0),
  (93, .getfield 124, 3, 12, 26, 0, 0, 0),
  (96, .iconst 1, 1, 0, 0, 0, 1, 0),
  (97, .iadd, 1, 0, 0, 0, 0, 0),
  (98, .putfield 124, 3, 12, 26, 0, 0, 0),
  (101, .goto (-24), 3, 77, 0, 0, 0, 0),
  (104, .aload_n 0, 1, 0, 0, 0, 0, 0),
  (105, .iconst 2, 1, 0, 0, 0, 2, 0),
  (106, .putfield 133, 3, 12, 27, 0, 0, 0),
  (109, .goto 87, 3, 196, 0, 0, 0, 0),
  (112, .iload_n 1, 1, 1, 0, 0, 0, 0),
  (113, .invokestatic 139, 3, 122, 1, 0, 0, 0),
  (116, .ifCond .eq 55, 3, 171, 0, 0, 0, 0),
  (119, .aload_n 0, 1, 0, 0, 0, 0, 0),
  (120, .aload_n 0, 1, 0, 0, 0, 0, 0),
  (121, .getfield 124, 3, 12, 26, 0, 0, 0),
  (124, .invokevirtual 127, 3, 120, 1, 0, 0, 0),
  (127, .invokestatic 139, 3, 122, 1, 0, 0, 0),
  (130, .ifCond .eq 16, 3, 146, 0, 0, 0, 0),
  (133, .aload_n 0, 1, 0, 0, 0, 0, 0),
  (134, .dup, 1, 0, 0, 0, 0, 0),
  (135, .getfield 124, 3, 12, 26, 0, 0, 0),
  (138, .iconst 1, 1, 0, 0, 0, 1, 0),
  (139, .iadd, 1, 0, 0, 0, 0, 0),
  (140, .putfield 124, 3, 12, 26, 0, 0, 0),
  (143, .goto (-24), 3, 119, 0, 0, 0, 0),
  (146, .aload_n 0, 1, 0, 0, 0, 0, 0),
  (147, .aload_n 0, 1, 0, 0, 0, 0, 0),
  (148, .getfield 124, 3, 12, 26, 0, 0, 0),
  (151, .aload_n 0, 1, 0, 0, 0, 0, 0),
  (152, .getfield 130, 3, 12, 28, 0, 0, 0),
  (155, .isub, 1, 0, 0, 0, 0, 0),
  (156, .iconst 2, 1, 0, 0, 0, 2, 0),
  (157, .if_icmp .le 7, 3, 164, 0, 0, 0, 0),
  (160, .iconst 0, 1, 0, 0, 0, 0, 0),
  (161, .goto 4, 3, 165, 0, 0, 0, 0),
  (164, .iconst 3, 1, 0, 0, 0, 3, 0),
  (165, .putfield 133, 3, 12, 27, 0, 0, 0),
  (168, .goto 28, 3, 196, 0, 0, 0, 0),
  (171, .aload_n 0, 1, 0, 0, 0, 0, 0),
  (172, .dup, 1, 0, 0, 0, 0, 0),
  (173, .getfield 124, 3, 12, 26, 0, 0, 0),
  (176, .iconst 1, 1, 0, 0, 0, 1, 0),
  (177, .iadd, 1, 0, 0, 0, 0, 0),
  (178, .putfield 124, 3, 12, 26, 0, 0, 0),
  (181, .aload_n 0, 1, 0, 0, 0, 0, 0),
  (182, .iload_n 1, 1, 1, 0, 0, 0, 0),
  (183, .bipush 59, 2, 0, 0, 0, 59, 0),
  (185, .if_icmp .ne 7, 3, 192, 0, 0, 0, 0),
  (188, .iconst 4, 1, 0, 0, 0, 4, 0),
  (189, .goto 4, 3, 193, 0, 0, 0, 0),
  (192, .iconst 0, 1, 0, 0, 0, 0, 0),
  (193, .putfield 133, 3, 12, 27, 0, 0, 0),
  (196, .aload_n 0, 1, 0, 0, 0, 0, 0),
  (197, .aload_n 0, 1, 0, 0, 0, 0, 0),
  (198, .getfield 124, 3, 12, 26, 0, 0, 0),
  (201, .putfield 142, 3, 12, 29, 0, 0, 0),
  (204, .return_, 1, 0, 0, 0, 0, 0)]
def hbk124 : List (Nat × hbR) := [(0, .aload_n 0, 1, 0, 0, 0, 0, 0),
  (1, .getfield 145, 3, 12, 30, 0, 0, 0),
  (4, .ifCond .ne 16, 3, 20, 0, 0, 0, 0),
  (7, .aload_n 0, 1, 0, 0, 0, 0, 0),
  (8, .iload_n 1, 1, 1, 0, 0, 0, 0),
  (9, .putfield 145, 3, 12, 30, 0, 0, 0),
  (12, .aload_n 0, 1, 0, 0, 0, 0, 0),
  (13, .aload_n 0, 1, 0, 0, 0, 0, 0),
  (14, .getfield 130, 3, 12, 28, 0, 0, 0),
  (17, .putfield 148, 3, 12, 31, 0, 0, 0),
  (20, .return_, 1, 0, 0, 0, 0, 0)]
def hbk125 : List (Nat × hbR) := [(0, .iload_n 1, 1, 1, 0, 0, 0, 0),
  (1, .ifCond .ne 8, 3, 9, 0, 0, 0, 0),
  (4, .aload_n 0, 1, 0, 0, 0, 0, 0),
  (5, .iconst 1, 1, 0, 0, 0, 1, 0),
  (6, .invokevirtual 151, 3, 124, 1, 0, 0, 0),
  (9, .aload_n 0, 1, 0, 0, 0, 0, 0),
  (10, .getfield 145, 3, 12, 30, 0, 0, 0),
  (13, .ifCond .ne 7, 3, 20, 0, 0, 0, 0),
  (16, .aload_n 0, 1, 0, 0, 0, 0, 0),
  (17, .invokevirtual 155, 3, 123, 0, 0, 0, 0),
  (20, .return_, 1, 0, 0, 0, 0, 0)]
def hbk126 : List (Nat × hbR) := [(0, .lconst 0, 1, 0, 0, 0, 0, 0),
  (1, .lstore_n 1, 1, 1, 0, 0, 0, 0),
  (2, .aload_n 0, 1, 0, 0, 0, 0, 0),
  (3, .getfield 130, 3, 12, 28, 0, 0, 0),
  (6, .istore_n 3, 1, 3, 0, 0, 0, 0),
  (7, .iload_n 3, 1, 3, 0, 0, 0, 0),
  (8, .aload_n 0, 1, 0, 0, 0, 0, 0),
  (9, .getfield 142, 3, 12, 29, 0, 0, 0),
  (12, .if_icmp .ge 44, 3, 56, 0, 0, 0, 0),
  (15, .aload_n 0, 1, 0, 0, 0, 0, 0),
  (16, .getfield 133, 3, 12, 27, 0, 0, 0),
  (19, .iconst 2, 1, 0, 0, 0, 2, 0),
  (20, .if_icmp .ne 36, 3, 56, 0, 0, 0, 0),
  (23, .aload_n 0, 1, 0, 0, 0, 0, 0),
  (24, .getfield 142, 3, 12, 29, 0, 0, 0),
  (27, .aload_n 0, 1, 0, 0, 0, 0, 0),
  (28, .getfield 130, 3, 12, 28, 0, 0, 0),
  (31, .isub, 1, 0, 0, 0, 0, 0),
  (32, .bipush 8, 2, 0, 0, 0, 8, 0),
  (34, .if_icmp .ge 22, 3, 56, 0, 0, 0, 0),
  (37, .lload_n 1, 1, 1, 0, 0, 0, 0),
  (38, .bipush 8, 2, 0, 0, 0, 8, 0),
  (40, .lshl, 1, 0, 0, 0, 0, 0),
  (41, .aload_n 0, 1, 0, 0, 0, 0, 0),
  (42, .getfield 46, 3, 12, 22, 0, 0, 0),
  (45, .iload_n 3, 1, 3, 0, 0, 0, 0),
  (46, .iaload, 1, 0, 0, 0, 0, 0),
  (47, .i2l, 1, 0, 0, 0, 0, 0),
  (48, .lor, 1, 0, 0, 0, 0, 0),
  (49, .lstore_n 1, 1, 1, 0, 0, 0, 0),
  (50, .iinc 3 1, 3, 3, 0, 0, 1, 0),
  (53, .goto (-46), 3, 7, 0, 0, 0, 0),
  (56, .lload_n 1, 1, 1, 0, 0, 0, 0),
  (57, .lreturn, 1, 0, 0, 0, 0, 0)]
def hbk127 : List (Nat × hbR) := [(0, .aload_n 0, 1, 0, 0, 0, 0, 0),
  (1, .getfield 145, 3, 12, 30, 0, 0, 0),
  (4, .ifCond .le 5, 3, 9, 0, 0, 0, 0),
  (7, .iconst 0, 1, 0, 0, 0, 0, 0),
  (8, .ireturn, 1, 0, 0, 0, 0, 0),
  (9, .iconst 0, 1, 0, 0, 0, 0, 0),
  (10, .istore_n 2, 1, 2, 0, 0, 0, 0),
  (11, .aload_n 0, 1, 0, 0, 0, 0, 0),
  (12, .getfield 130, 3, 12, 28, 0, 0, 0),
  (15, .istore_n 3, 1, 3, 0, 0, 0, 0),
  (16, .iload_n 3, 1, 3, 0, 0, 0, 0),
  (17, .aload_n 0, 1, 0, 0, 0, 0, 0),
  (18, .getfield 142, 3, 12, 29, 0, 0, 0),
  (21, .if_icmp .ge 32, 3, 53, 0, 0, 0, 0),
  (24, .aload_n 0, 1, 0, 0, 0, 0, 0),
  (25, .getfield 133, 3, 12, 27, 0, 0, 0),
  (28, .iconst 3, 1, 0, 0, 0, 3, 0),
  (29, .if_icmp .ne 24, 3, 53, 0, 0, 0, 0),
  (32, .bipush 10, 2, 0, 0, 0, 10, 0),
  (34, .iload_n 2, 1, 2, 0, 0, 0, 0),
  (35, .imul, 1, 0, 0, 0, 0, 0),
  (36, .aload_n 0, 1, 0, 0, 0, 0, 0),
  (37, .getfield 46, 3, 12, 22, 0, 0, 0),
  (40, .iload_n 3, 1, 3, 0, 0, 0, 0),
  (41, .iaload, 1, 0, 0, 0, 0, 0),
  (42, .iadd, 1, 0, 0, 0, 0, 0),
  (43, .bipush 48, 2, 0, 0, 0, 48, 0),
  (45, .isub, 1, 0, 0, 0, 0, 0),
  (46, .istore_n 2, 1, 2, 0, 0, 0, 0),
  (47, .iinc 3 1, 3, 3, 0, 0, 1, 0),
  (50, .goto (-34), 3, 16, 0, 0, 0, 0),
  (53, .aload_n 0, 1, 0, 0, 0, 0, 0),
  (54, .getfield 133, 3, 12, 27, 0, 0, 0),
  (57, .iconst 3, 1, 0, 0, 0, 3, 0),
  (58, .if_icmp .ne 13, 3, 71, 0, 0, 0, 0),
  (61, .iload_n 2, 1, 2, 0, 0, 0, 0),
  (62, .iload_n 1, 1, 1, 0, 0, 0, 0),
  (63, .if_icmp .le 8, 3, 71, 0, 0, 0, 0),
  (66, .aload_n 0, 1, 0, 0, 0, 0, 0),
  (67, .iconst 2, 1, 0, 0, 0, 2, 0),
  (68, .invokevirtual 151, 3, 124, 1, 0, 0, 0),
  (71, .aload_n 0, 1, 0, 0, 0, 0, 0),
  (72, .aload_n 0, 1, 0, 0, 0, 0, 0),
  (73, .getfield 133, 3, 12, 27, 0, 0, 0),
  (76, .iconst 3, 1, 0, 0, 0, 3, 0),
  (77, .if_icmp .ne 7, 3, 84, 0, 0, 0, 0),
  (80, .iconst 1, 1, 0, 0, 0, 1, 0),
  (81, .goto 4, 3, 85, 0, 0, 0, 0),
  (84, .iconst 0, 1, 0, 0, 0, 0, 0),
  (85, .invokevirtual 158, 3, 125, 1, 0, 0, 0),
  (88, .iload_n 2, 1, 2, 0, 0, 0, 0),
  (89, .ireturn, 1, 0, 0, 0, 0, 0)]
def hbk128 : List (Nat × hbR) := [(0, .aload_n 0, 1, 0, 0, 0, 0, 0),
  (1, .invokevirtual 162, 3, 126, 0, 0, 0, 0),
  (4, .lstore_n 1, 1, 1, 0, 0, 0, 0),
  (5, .lload_n 1, 1, 1, 0, 0, 0, 0),
  (6, .ldc2_w 166, 3, 0, 0, 0, 0, 1869636974),
  (9, .lcmp, 1, 0, 0, 0, 0, 0),
  (10, .ifCond .ne 7, 3, 17, 0, 0, 0, 0),
  (13, .iconst 0, 1, 0, 0, 0, 0, 0),
  (14, .goto 91, 3, 105, 0, 0, 0, 0),
  (17, .lload_n 1, 1, 1, 0, 0, 0, 0),
  (18, .ldc2_w 168, 3, 0, 0, 0, 0, 1936225652),
  (21, .lcmp, 1, 0, 0, 0, 0, 0),
  (22, .ifCond .ne 7, 3, 29, 0, 0, 0, 0),
  (25, .iconst 1, 1, 0, 0, 0, 1, 0),
  (26, .goto 79, 3, 105, 0, 0, 0, 0),
  (29, .lload_n 1, 1, 1, 0, 0, 0, 0),
  (30, .ldc2_w 170, 3, 0, 0, 0, 0, 418263299685),
  (33, .lcmp, 1, 0, 0, 0, 0, 0),
  (34, .ifCond .ne 7, 3, 41, 0, 0, 0, 0),
  (37, .iconst 2, 1, 0, 0, 0, 2, 0),
  (38, .goto 67, 3, 105, 0, 0, 0, 0),
  (41, .lload_n 1, 1, 1, 0, 0, 0, 0),
  (42, .ldc2_w 172, 3, 0, 0, 0, 0, 422608400247),
  (45, .lcmp, 1, 0, 0, 0, 0, 0),
  (46, .ifCond .ne 7, 3, 53, 0, 0, 0, 0),
  (49, .iconst 3, 1, 0, 0, 0, 3, 0),
  (50, .goto 55, 3, 105, 0, 0, 0, 0),
  (53, .lload_n 1, 1, 1, 0, 0, 0, 0),
  (54, .ldc2_w 174, 3, 0, 0, 0, 0, 2002872692),
  (57, .lcmp, 1, 0, 0, 0, 0, 0),
  (58, .ifCond .ne 7, 3, 65, 0, 0, 0, 0),
  (61, .iconst 4, 1, 0, 0, 0, 4, 0),
  (62, .goto 43, 3, 105, 0, 0, 0, 0),
  (65, .lload_n 1, 1, 1, 0, 0, 0, 0),
  (66, .ldc2_w 176, 3, 0, 0, 0, 0, 26982),
  (69, .lcmp, 1, 0, 0, 0, 0, 0),
  (70, .ifCond .ne 7, 3, 77, 0, 0, 0, 0),
  (73, .iconst 5, 1, 0, 0, 0, 5, 0),
  (74, .goto 31, 3, 105, 0, 0, 0, 0),
  (77, .lload_n 1, 1, 1, 0, 0, 0, 0),
  (78, .ldc2_w 178, 3, 0, 0, 0, 0, 26479),
  (81, .lcmp, 1, 0, 0, 0, 0, 0),
  (82, .ifCond .ne 8, 3, 90, 0, 0, 0, 0),
  (85, .bipush 6, 2, 0, 0, 0, 6, 0),
  (87, .goto 18, 3, 105, 0, 0, 0, 0),
  (90, .lload_n 1, 1, 1, 0, 0, 0, 0),
  (91, .ldc2_w 180, 3, 0, 0, 0, 0, 6647396),
  (94, .lcmp, 1, 0, 0, 0, 0, 0),
  (95, .ifCond .ne 8, 3, 103, 0, 0, 0, 0),
  (98, .bipush 7, 2, 0, 0, 0, 7, 0),
  (100, .goto 5, 3, 105, 0, 0, 0, 0),
  (103, .ldc 123, 2, 0, 0, 0, (-1000000), 0),
  (105, .ireturn, 1, 0, 0, 0, 0, 0)]
def hbk129 : List (Nat × hbR) := [(0, .aload_n 0, 1, 0, 0, 0, 0, 0),
  (1, .getfield 145, 3, 12, 30, 0, 0, 0),
  (4, .ifCond .le 4, 3, 8, 0, 0, 0, 0),
  (7, .return_, 1, 0, 0, 0, 0, 0),
  (8, .aload_n 0, 1, 0, 0, 0, 0, 0),
  (9, .invokevirtual 182, 3, 128, 0, 0, 0, 0),
  (12, .istore_n 2, 1, 2, 0, 0, 0, 0),
  (13, .aload_n 0, 1, 0, 0, 0, 0, 0),
  (14, .iload_n 2, 1, 2, 0, 0, 0, 0),
  (15, .i2l, 1, 0, 0, 0, 0, 0),
  (16, .lconst 0, 1, 0, 0, 0, 0, 0),
  (17, .ldc2_w 186, 3, 0, 0, 0, 0, 3),
  (20, .invokestatic 97, 3, 112, 3, 0, 0, 0),
  (23, .invokevirtual 158, 3, 125, 1, 0, 0, 0),
  (26, .aload_n 0, 1, 0, 0, 0, 0, 0),
  (27, .iload_n 2, 1, 2, 0, 0, 0, 0),
  (28, .iconst 2, 1, 0, 0, 0, 2, 0),
  (29, .if_icmp .ge 7, 3, 36, 0, 0, 0, 0),
  (32, .iconst 3, 1, 0, 0, 0, 3, 0),
  (33, .goto 4, 3, 37, 0, 0, 0, 0),
  (36, .iconst 1, 1, 0, 0, 0, 1, 0),
  (37, .invokevirtual 188, 3, 127, 1, 0, 0, 0),
  (40, .istore_n 3, 1, 3, 0, 0, 0, 0),
  (41, .iload_n 2, 1, 2, 0, 0, 0, 0),
  (42, .iconst 2, 1, 0, 0, 0, 2, 0),
  (43, .if_icmp .ge 7, 3, 50, 0, 0, 0, 0),
  (46, .iconst 0, 1, 0, 0, 0, 0, 0),
  (47, .goto 9, 3, 56, 0, 0, 0, 0),
  (50, .aload_n 0, 1, 0, 0, 0, 0, 0),
  (51, .bipush 7, 2, 0, 0, 0, 7, 0),
  (53, .invokevirtual 188, 3, 127, 1, 0, 0, 0),
  (56, .istore 4, 2, 4, 0, 0, 0, 0),
  (58, .aload_n 0, 1, 0, 0, 0, 0, 0),
  (59, .getfield 145, 3, 12, 30, 0, 0, 0),
  (62, .ifCond .ne 25, 3, 87, 0, 0, 0, 0),
  (65, .aload_n 0, 1, 0, 0, 0, 0, 0),
  (66, .getfield 31, 3, 12, 17, 0, 0, 0),
  (69, .iload_n 1, 1, 1, 0, 0, 0, 0),
  (70, .iload_n 2, 1, 2, 0, 0, 0, 0),
  (71, .iastore, 1, 0, 0, 0, 0, 0),
  (72, .aload_n 0, 1, 0, 0, 0, 0, 0),
  (73, .getfield 34, 3, 12, 18, 0, 0, 0),
  (76, .iload_n 1, 1, 1, 0, 0, 0, 0),
  (77, .iload_n 3, 1, 3, 0, 0, 0, 0),
  (78, .iastore, 1, 0, 0, 0, 0, 0),
  (79, .aload_n 0, 1, 0, 0, 0, 0, 0),
  (80, .getfield 37, 3, 12, 19, 0, 0, 0),
  (83, .iload_n 1, 1, 1, 0, 0, 0, 0),
  (84, .iload 4, 2, 4, 0, 0, 0, 0),
  (86, .iastore, 1, 0, 0, 0, 0, 0),
  (87, .return_, 1, 0, 0, 0, 0, 0)]
def hbk130 : List (Nat × hbR) := [(0, .aload_n 0, 1, 0, 0, 0, 0, 0),
  (1, .getfield 28, 3, 12, 16, 0, 0, 0),
  (4, .iload_n 1, 1, 1, 0, 0, 0, 0),
  (5, .iconst 0, 1, 0, 0, 0, 0, 0),
  (6, .iastore, 1, 0, 0, 0, 0, 0),
  (7, .iconst 1, 1, 0, 0, 0, 1, 0),
  (8, .istore_n 2, 1, 2, 0, 0, 0, 0),
  (9, .iload_n 2, 1, 2, 0, 0, 0, 0),
  (10, .ifCond .eq 92, 3, 102, 0, 0, 0, 0),
  (13, .aload_n 0, 1, 0, 0, 0, 0, 0),
  (14, .invokevirtual 182, 3, 128, 0, 0, 0, 0),
  (17, .i2l, 1, 0, 0, 0, 0, 0),
  (18, .lconst 0, 1, 0, 0, 0, 0, 0),
  (19, .ldc2_w 186, 3, 0, 0, 0, 0, 3),
  (22, .invokestatic 97, 3, 112, 3, 0, 0, 0),
  (25, .ifCond .eq 18, 3, 43, 0, 0, 0, 0),
  (28, .aload_n 0, 1, 0, 0, 0, 0, 0),
  (29, .getfield 28, 3, 12, 16, 0, 0, 0),
  (32, .iload_n 1, 1, 1, 0, 0, 0, 0),
  (33, .iaload, 1, 0, 0, 0, 0, 0),
  (34, .iconst 3, 1, 0, 0, 0, 3, 0),
  (35, .if_icmp .ne 8, 3, 43, 0, 0, 0, 0),
  (38, .aload_n 0, 1, 0, 0, 0, 0, 0),
  (39, .iconst 3, 1, 0, 0, 0, 3, 0),
  (40, .invokevirtual 151, 3, 124, 1, 0, 0, 0),
  (43, .aload_n 0, 1, 0, 0, 0, 0, 0),
  (44, .iconst 3, 1, 0, 0, 0, 3, 0),
  (45, .iload_n 1, 1, 1, 0, 0, 0, 0),
  (46, .imul, 1, 0, 0, 0, 0, 0),
  (47, .aload_n 0, 1, 0, 0, 0, 0, 0),
  (48, .getfield 28, 3, 12, 16, 0, 0, 0),
  (51, .iload_n 1, 1, 1, 0, 0, 0, 0),
  (52, .iaload, 1, 0, 0, 0, 0, 0),
  (53, .iadd, 1, 0, 0, 0, 0, 0),
  (54, .invokevirtual 191, 3, 129, 1, 0, 0, 0),
  (57, .aload_n 0, 1, 0, 0, 0, 0, 0),
  (58, .getfield 28, 3, 12, 16, 0, 0, 0),
  (61, .iload_n 1, 1, 1, 0, 0, 0, 0),
  (62, .dup2, 1, 0, 0, 0, 0, 0),
  (63, .iaload, 1, 0, 0, 0, 0, 0),
  (64, .iconst 1, 1, 0, 0, 0, 1, 0),
  (65, .iadd, 1, 0, 0, 0, 0, 0),
  (66, .iastore, 1, 0, 0, 0, 0, 0),
  (67, .aload_n 0, 1, 0, 0, 0, 0, 0),
  (68, .getfield 145, 3, 12, 30, 0, 0, 0),
  (71, .ifCond .ne 18, 3, 89, 0, 0, 0, 0),
  (74, .aload_n 0, 1, 0, 0, 0, 0, 0),
  (75, .invokevirtual 162, 3, 126, 0, 0, 0, 0),
  (78, .ldc2_w 194, 3, 0, 0, 0, 0, 6385252),
  (81, .lcmp, 1, 0, 0, 0, 0, 0),
  (82, .ifCond .ne 7, 3, 89, 0, 0, 0, 0),
  (85, .iconst 1, 1, 0, 0, 0, 1, 0),
  (86, .goto 4, 3, 90, 0, 0, 0, 0),
  (89, .iconst 0, 1, 0, 0, 0, 0, 0),
  (90, .istore_n 2, 1, 2, 0, 0, 0, 0),
  (91, .iload_n 2, 1, 2, 0, 0, 0, 0),
  (92, .ifCond .eq (-83), 3, 9, 0, 0, 0, 0),
  (95, .aload_n 0, 1, 0, 0, 0, 0, 0),
  (96, .invokevirtual 155, 3, 123, 0, 0, 0, 0),
  (99, .goto (-90), 3, 9, 0, 0, 0, 0),
  (102, .return_, 1, 0, 0, 0, 0, 0)]
def hbk131 : List (Nat × hbR) := [(0, .aload_n 0, 1, 0, 0, 0, 0, 0),
  (1, .invokevirtual 182, 3, 128, 0, 0, 0, 0),
  (4, .istore_n 1, 1, 1, 0, 0, 0, 0),
  (5, .aload_n 0, 1, 0, 0, 0, 0, 0),
  (6, .iload_n 1, 1, 1, 0, 0, 0, 0),
  (7, .ldc 123, 2, 0, 0, 0, (-1000000), 0),
  (9, .if_icmp .eq 17, 3, 26, 0, 0, 0, 0),
  (12, .iload_n 1, 1, 1, 0, 0, 0, 0),
  (13, .iconst 2, 1, 0, 0, 0, 2, 0),
  (14, .if_icmp .eq 12, 3, 26, 0, 0, 0, 0),
  (17, .iload_n 1, 1, 1, 0, 0, 0, 0),
  (18, .iconst 3, 1, 0, 0, 0, 3, 0),
  (19, .if_icmp .eq 7, 3, 26, 0, 0, 0, 0),
  (22, .iconst 1, 1, 0, 0, 0, 1, 0),
  (23, .goto 4, 3, 27, 0, 0, 0, 0),
  (26, .iconst 0, 1, 0, 0, 0, 0, 0),
  (27, .invokevirtual 158, 3, 125, 1, 0, 0, 0),
  (30, .aload_n 0, 1, 0, 0, 0, 0, 0),
  (31, .getfield 40, 3, 12, 20, 0, 0, 0),
  (34, .aload_n 0, 1, 0, 0, 0, 0, 0),
  (35, .getfield 196, 3, 12, 15, 0, 0, 0),
  (38, .iload_n 1, 1, 1, 0, 0, 0, 0),
  (39, .iastore, 1, 0, 0, 0, 0, 0),
  (40, .iload_n 1, 1, 1, 0, 0, 0, 0),
  (41, .iconst 4, 1, 0, 0, 0, 4, 0),
  (42, .if_icmp .eq 8, 3, 50, 0, 0, 0, 0),
  (45, .iload_n 1, 1, 1, 0, 0, 0, 0),
  (46, .iconst 5, 1, 0, 0, 0, 5, 0),
  (47, .if_icmp .ne 14, 3, 61, 0, 0, 0, 0),
  (50, .aload_n 0, 1, 0, 0, 0, 0, 0),
  (51, .bipush 24, 2, 0, 0, 0, 24, 0),
  (53, .aload_n 0, 1, 0, 0, 0, 0, 0),
  (54, .getfield 196, 3, 12, 15, 0, 0, 0),
  (57, .iadd, 1, 0, 0, 0, 0, 0),
  (58, .invokevirtual 191, 3, 129, 1, 0, 0, 0),
  (61, .iload_n 1, 1, 1, 0, 0, 0, 0),
  (62, .iconst 4, 1, 0, 0, 0, 4, 0),
  (63, .if_icmp .eq 33, 3, 96, 0, 0, 0, 0),
  (66, .iload_n 1, 1, 1, 0, 0, 0, 0),
  (67, .bipush 7, 2, 0, 0, 0, 7, 0),
  (69, .if_icmp .eq 27, 3, 96, 0, 0, 0, 0),
  (72, .aload_n 0, 1, 0, 0, 0, 0, 0),
  (73, .getfield 43, 3, 12, 21, 0, 0, 0),
  (76, .aload_n 0, 1, 0, 0, 0, 0, 0),
  (77, .getfield 196, 3, 12, 15, 0, 0, 0),
  (80, .aload_n 0, 1, 0, 0, 0, 0, 0),
  (81, .iload_n 1, 1, 1, 0, 0, 0, 0),
  (82, .iconst 2, 1, 0, 0, 0, 2, 0),
  (83, .if_icmp .ge 7, 3, 90, 0, 0, 0, 0),
  (86, .iconst 3, 1, 0, 0, 0, 3, 0),
  (87, .goto 5, 3, 92, 0, 0, 0, 0),
  (90, .bipush 15, 2, 0, 0, 0, 15, 0),
  (92, .invokevirtual 188, 3, 127, 1, 0, 0, 0),
  (95, .iastore, 1, 0, 0, 0, 0, 0),
  (96, .aload_n 0, 1, 0, 0, 0, 0, 0),
  (97, .dup, 1, 0, 0, 0, 0, 0),
  (98, .getfield 196, 3, 12, 15, 0, 0, 0),
  (101, .iconst 1, 1, 0, 0, 0, 1, 0),
  (102, .iadd, 1, 0, 0, 0, 0, 0),
  (103, .putfield 196, 3, 12, 15, 0, 0, 0),
  (106, .return_, 1, 0, 0, 0, 0, 0)]
def hbk132 : List (Nat × hbR) := [(0, .aload_n 0, 1, 0, 0, 0, 0, 0),
  (1, .invokevirtual 162, 3, 126, 0, 0, 0, 0),
  (4, .lstore_n 1, 1, 1, 0, 0, 0, 0),
  (5, .lload_n 1, 1, 1, 0, 0, 0, 0),
  (6, .ldc2_w 199, 3, 0, 0, 0, 0, 1718382455),
  (9, .lcmp, 1, 0, 0, 0, 0, 0),
  (10, .ifCond .ne 12, 3, 22, 0, 0, 0, 0),
  (13, .aload_n 0, 1, 0, 0, 0, 0, 0),
  (14, .getfield 201, 3, 12, 12, 0, 0, 0),
  (17, .bipush 8, 2, 0, 0, 0, 8, 0),
  (19, .if_icmp .eq 52, 3, 71, 0, 0, 0, 0),
  (22, .lload_n 1, 1, 1, 0, 0, 0, 0),
  (23, .ldc2_w 204, 3, 0, 0, 0, 0, 6447460),
  (26, .lcmp, 1, 0, 0, 0, 0, 0),
  (27, .ifCond .ne 11, 3, 38, 0, 0, 0, 0),
  (30, .aload_n 0, 1, 0, 0, 0, 0, 0),
  (31, .getfield 206, 3, 12, 13, 0, 0, 0),
  (34, .iconst 4, 1, 0, 0, 0, 4, 0),
  (35, .if_icmp .eq 36, 3, 71, 0, 0, 0, 0),
  (38, .lload_n 1, 1, 1, 0, 0, 0, 0),
  (39, .ldc2_w 209, 3, 0, 0, 0, 0, 1735356260),
  (42, .lcmp, 1, 0, 0, 0, 0, 0),
  (43, .ifCond .ne 11, 3, 54, 0, 0, 0, 0),
  (46, .aload_n 0, 1, 0, 0, 0, 0, 0),
  (47, .getfield 211, 3, 12, 14, 0, 0, 0),
  (50, .iconst 4, 1, 0, 0, 0, 4, 0),
  (51, .if_icmp .eq 20, 3, 71, 0, 0, 0, 0),
  (54, .lload_n 1, 1, 1, 0, 0, 0, 0),
  (55, .ldc2_w 214, 3, 0, 0, 0, 0, 1937007984),
  (58, .lcmp, 1, 0, 0, 0, 0, 0),
  (59, .ifCond .ne 17, 3, 76, 0, 0, 0, 0),
  (62, .aload_n 0, 1, 0, 0, 0, 0, 0),
  (63, .getfield 196, 3, 12, 15, 0, 0, 0),
  (66, .bipush 16, 2, 0, 0, 0, 16, 0),
  (68, .if_icmp .ne 8, 3, 76, 0, 0, 0, 0),
  (71, .aload_n 0, 1, 0, 0, 0, 0, 0),
  (72, .iconst 3, 1, 0, 0, 0, 3, 0),
  (73, .invokevirtual 151, 3, 124, 1, 0, 0, 0),
  (76, .aload_n 0, 1, 0, 0, 0, 0, 0),
  (77, .lload_n 1, 1, 1, 0, 0, 0, 0),
  (78, .ldc2_w 199, 3, 0, 0, 0, 0, 1718382455),
  (81, .lcmp, 1, 0, 0, 0, 0, 0),
  (82, .ifCond .eq 27, 3, 109, 0, 0, 0, 0),
  (85, .lload_n 1, 1, 1, 0, 0, 0, 0),
  (86, .ldc2_w 204, 3, 0, 0, 0, 0, 6447460),
  (89, .lcmp, 1, 0, 0, 0, 0, 0),
  (90, .ifCond .eq 19, 3, 109, 0, 0, 0, 0),
  (93, .lload_n 1, 1, 1, 0, 0, 0, 0),
  (94, .ldc2_w 209, 3, 0, 0, 0, 0, 1735356260),
  (97, .lcmp, 1, 0, 0, 0, 0, 0),
  (98, .ifCond .eq 11, 3, 109, 0, 0, 0, 0),
  (101, .lload_n 1, 1, 1, 0, 0, 0, 0),
  (102, .ldc2_w 214, 3, 0, 0, 0, 0, 1937007984),
  (105, .lcmp, 1, 0, 0, 0, 0, 0),
  (106, .ifCond .ne 7, 3, 113, 0, 0, 0, 0),
  (109, .iconst 1, 1, 0, 0, 0, 1, 0),
  (110, .goto 4, 3, 114, 0, 0, 0, 0),
  (113, .iconst 0, 1, 0, 0, 0, 0, 0),
  (114, .invokevirtual 158, 3, 125, 1, 0, 0, 0),
  (117, .aload_n 0, 1, 0, 0, 0, 0, 0),
  (118, .getfield 145, 3, 12, 30, 0, 0, 0),
  (121, .ifCond .le 4, 3, 125, 0, 0, 0, 0),
  (124, .return_, 1, 0, 0, 0, 0, 0),
  (125, .lload_n 1, 1, 1, 0, 0, 0, 0),
  (126, .ldc2_w 199, 3, 0, 0, 0, 0, 1718382455),
  (129, .lcmp, 1, 0, 0, 0, 0, 0),
  (130, .ifCond .ne 107, 3, 237, 0, 0, 0, 0),
  (133, .aload_n 0, 1, 0, 0, 0, 0, 0),
  (134, .getfield 19, 3, 12, 6, 0, 0, 0),
  (137, .aload_n 0, 1, 0, 0, 0, 0, 0),
  (138, .getfield 201, 3, 12, 12, 0, 0, 0),
  (141, .aload_n 0, 1, 0, 0, 0, 0, 0),
  (142, .iconst 3, 1, 0, 0, 0, 3, 0),
  (143, .invokevirtual 188, 3, 127, 1, 0, 0, 0),
  (146, .iastore, 1, 0, 0, 0, 0, 0),
  (147, .aload_n 0, 1, 0, 0, 0, 0, 0),
  (148, .getfield 22, 3, 12, 7, 0, 0, 0),
  (151, .aload_n 0, 1, 0, 0, 0, 0, 0),
  (152, .getfield 201, 3, 12, 12, 0, 0, 0),
  (155, .aload_n 0, 1, 0, 0, 0, 0, 0),
  (156, .iconst 1, 1, 0, 0, 0, 1, 0),
  (157, .invokevirtual 188, 3, 127, 1, 0, 0, 0),
  (160, .iastore, 1, 0, 0, 0, 0, 0),
  (161, .aload_n 0, 1, 0, 0, 0, 0, 0),
  (162, .getfield 145, 3, 12, 30, 0, 0, 0),
  (165, .ifCond .ne 59, 3, 224, 0, 0, 0, 0),
  (168, .aload_n 0, 1, 0, 0, 0, 0, 0),
  (169, .getfield 25, 3, 12, 8, 0, 0, 0),
  (172, .aload_n 0, 1, 0, 0, 0, 0, 0),
  (173, .getfield 201, 3, 12, 12, 0, 0, 0),
  (176, .aload_n 0, 1, 0, 0, 0, 0, 0),
  (177, .invokevirtual 162, 3, 126, 0, 0, 0, 0),
  (180, .ldc2_w 216, 3, 0, 0, 0, 0, 30064),
  (183, .lcmp, 1, 0, 0, 0, 0, 0),
  (184, .ifCond .ne 7, 3, 191, 0, 0, 0, 0),
  (187, .iconst 1, 1, 0, 0, 0, 1, 0),
  (188, .goto 4, 3, 192, 0, 0, 0, 0),
  (191, .iconst (-1), 1, 0, 0, 0, (-1), 0),
  (192, .iastore, 1, 0, 0, 0, 0, 0),
  (193, .aload_n 0, 1, 0, 0, 0, 0, 0),
  (194, .aload_n 0, 1, 0, 0, 0, 0, 0),
  (195, .invokevirtual 162, 3, 126, 0, 0, 0, 0),
  (198, .ldc2_w 216, 3, 0, 0, 0, 0, 30064),
  (201, .lcmp, 1, 0, 0, 0, 0, 0),
  (202, .ifCond .eq 14, 3, 216, 0, 0, 0, 0),
  (205, .aload_n 0, 1, 0, 0, 0, 0, 0),
  (206, .invokevirtual 162, 3, 126, 0, 0, 0, 0),
  (209, .ldc2_w 218, 3, 0, 0, 0, 0, 1685026670),
  (212, .lcmp, 1, 0, 0, 0, 0, 0),
  (213, .ifCond .ne 7, 3, 220, 0, 0, 0, 0),
  (216, .iconst 1, 1, 0, 0, 0, 1, 0),
  (217, .goto 4, 3, 221, 0, 0, 0, 0),
  (220, .iconst 0, 1, 0, 0, 0, 0, 0),
  (221, .invokevirtual 158, 3, 125, 1, 0, 0, 0),
  (224, .aload_n 0, 1, 0, 0, 0, 0, 0),
  (225, .dup, 1, 0, 0, 0, 0, 0),
  (226, .getfield 201, 3, 12, 12, 0, 0, 0),
  (229, .iconst 1, 1, 0, 0, 0, 1, 0),
  (230, .iadd, 1, 0, 0, 0, 0, 0),
  (231, .putfield 201, 3, 12, 12, 0, 0, 0),
  (234, .goto 67, 3, 301, 0, 0, 0, 0),
  (237, .lload_n 1, 1, 1, 0, 0, 0, 0),
  (238, .ldc2_w 204, 3, 0, 0, 0, 0, 6447460),
  (241, .lcmp, 1, 0, 0, 0, 0, 0),
  (242, .ifCond .ne 24, 3, 266, 0, 0, 0, 0),
  (245, .aload_n 0, 1, 0, 0, 0, 0, 0),
  (246, .aload_n 0, 1, 0, 0, 0, 0, 0),
  (247, .getfield 206, 3, 12, 13, 0, 0, 0),
  (250, .invokevirtual 220, 3, 130, 1, 0, 0, 0),
  (253, .aload_n 0, 1, 0, 0, 0, 0, 0),
  (254, .dup, 1, 0, 0, 0, 0, 0),
  (255, .getfield 206, 3, 12, 13, 0, 0, 0),
  (258, .iconst 1, 1, 0, 0, 0, 1, 0),
  (259, .iadd, 1, 0, 0, 0, 0, 0),
  (260, .putfield 206, 3, 12, 13, 0, 0, 0),
  (263, .goto 38, 3, 301, 0, 0, 0, 0),
  (266, .lload_n 1, 1, 1, 0, 0, 0, 0),
  (267, .ldc2_w 209, 3, 0, 0, 0, 0, 1735356260),
  (270, .lcmp, 1, 0, 0, 0, 0, 0),
  (271, .ifCond .ne 26, 3, 297, 0, 0, 0, 0),
  (274, .aload_n 0, 1, 0, 0, 0, 0, 0),
  (275, .iconst 4, 1, 0, 0, 0, 4, 0),
  (276, .aload_n 0, 1, 0, 0, 0, 0, 0),
  (277, .getfield 211, 3, 12, 14, 0, 0, 0),
  (280, .iadd, 1, 0, 0, 0, 0, 0),
  (281, .invokevirtual 220, 3, 130, 1, 0, 0, 0),
  (284, .aload_n 0, 1, 0, 0, 0, 0, 0),
  (285, .dup, 1, 0, 0, 0, 0, 0),
  (286, .getfield 211, 3, 12, 14, 0, 0, 0),
  (289, .iconst 1, 1, 0, 0, 0, 1, 0),
  (290, .iadd, 1, 0, 0, 0, 0, 0),
  (291, .putfield 211, 3, 12, 14, 0, 0, 0),
  (294, .goto 7, 3, 301, 0, 0, 0, 0),
  (297, .aload_n 0, 1, 0, 0, 0, 0, 0),
  (298, .invokevirtual 223, 3, 131, 0, 0, 0, 0),
  (301, .aload_n 0, 1, 0, 0, 0, 0, 0),
  (302, .getfield 145, 3, 12, 30, 0, 0, 0),
  (305, .ifCond .ne 20, 3, 325, 0, 0, 0, 0),
  (308, .aload_n 0, 1, 0, 0, 0, 0, 0),
  (309, .aload_n 0, 1, 0, 0, 0, 0, 0),
  (310, .getfield 133, 3, 12, 27, 0, 0, 0),
  (313, .iconst 4, 1, 0, 0, 0, 4, 0),
  (314, .if_icmp .ne 7, 3, 321, 0, 0, 0, 0),
  (317, .iconst 1, 1, 0, 0, 0, 1, 0),
  (318, .goto 4, 3, 322, 0, 0, 0, 0),
  (321, .iconst 0, 1, 0, 0, 0, 0, 0),
  (322, .invokevirtual 158, 3, 125, 1, 0, 0, 0),
  (325, .return_, 1, 0, 0, 0, 0, 0)]
def hbk133 : List (Nat × hbR) := [(0, .aload_n 0, 1, 0, 0, 0, 0, 0),
  (1, .iconst 0, 1, 0, 0, 0, 0, 0),
  (2, .putfield 87, 3, 12, 0, 0, 0, 0),
  (5, .aload_n 0, 1, 0, 0, 0, 0, 0),
  (6, .aload_n 0, 1, 0, 0, 0, 0, 0),
  (7, .getfield 114, 3, 12, 23, 0, 0, 0),
  (10, .putfield 120, 3, 12, 25, 0, 0, 0),
  (13, .aload_n 0, 1, 0, 0, 0, 0, 0),
  (14, .iconst 0, 1, 0, 0, 0, 0, 0),
  (15, .putfield 114, 3, 12, 23, 0, 0, 0),
  (18, .aload_n 0, 1, 0, 0, 0, 0, 0),
  (19, .iconst 0, 1, 0, 0, 0, 0, 0),
  (20, .putfield 124, 3, 12, 26, 0, 0, 0),
  (23, .aload_n 0, 1, 0, 0, 0, 0, 0),
  (24, .iconst 0, 1, 0, 0, 0, 0, 0),
  (25, .putfield 145, 3, 12, 30, 0, 0, 0),
  (28, .aload_n 0, 1, 0, 0, 0, 0, 0),
  (29, .aload_n 0, 1, 0, 0, 0, 0, 0),
  (30, .getfield 226, 3, 12, 5, 0, 0, 0),
  (33, .putfield 201, 3, 12, 12, 0, 0, 0),
  (36, .aload_n 0, 1, 0, 0, 0, 0, 0),
  (37, .aload_n 0, 1, 0, 0, 0, 0, 0),
  (38, .getfield 229, 3, 12, 9, 0, 0, 0),
  (41, .putfield 206, 3, 12, 13, 0, 0, 0),
  (44, .aload_n 0, 1, 0, 0, 0, 0, 0),
  (45, .aload_n 0, 1, 0, 0, 0, 0, 0),
  (46, .getfield 232, 3, 12, 10, 0, 0, 0),
  (49, .putfield 211, 3, 12, 14, 0, 0, 0),
  (52, .aload_n 0, 1, 0, 0, 0, 0, 0),
  (53, .aload_n 0, 1, 0, 0, 0, 0, 0),
  (54, .getfield 235, 3, 12, 11, 0, 0, 0),
  (57, .putfield 196, 3, 12, 15, 0, 0, 0),
  (60, .aload_n 0, 1, 0, 0, 0, 0, 0),
  (61, .invokevirtual 155, 3, 123, 0, 0, 0, 0),
  (64, .aload_n 0, 1, 0, 0, 0, 0, 0),
  (65, .getfield 145, 3, 12, 30, 0, 0, 0),
  (68, .ifCond .ne 18, 3, 86, 0, 0, 0, 0),
  (71, .aload_n 0, 1, 0, 0, 0, 0, 0),
  (72, .getfield 133, 3, 12, 27, 0, 0, 0),
  (75, .iconst 1, 1, 0, 0, 0, 1, 0),
  (76, .if_icmp .eq 10, 3, 86, 0, 0, 0, 0),
  (79, .aload_n 0, 1, 0, 0, 0, 0, 0),
  (80, .invokevirtual 238, 3, 132, 0, 0, 0, 0),
  (83, .goto (-19), 3, 64, 0, 0, 0, 0),
  (86, .aload_n 0, 1, 0, 0, 0, 0, 0),
  (87, .getfield 145, 3, 12, 30, 0, 0, 0),
  (90, .ifCond .le 19, 3, 109, 0, 0, 0, 0),
  (93, .aload_n 0, 1, 0, 0, 0, 0, 0),
  (94, .aload_n 0, 1, 0, 0, 0, 0, 0),
  (95, .getfield 145, 3, 12, 30, 0, 0, 0),
  (98, .putfield 241, 3, 12, 24, 0, 0, 0),
  (101, .ldc 244, 2, 0, 0, 0, (-1000100), 0),
  (103, .aload_n 0, 1, 0, 0, 0, 0, 0),
  (104, .getfield 148, 3, 12, 31, 0, 0, 0),
  (107, .isub, 1, 0, 0, 0, 0, 0),
  (108, .ireturn, 1, 0, 0, 0, 0, 0),
  (109, .aload_n 0, 1, 0, 0, 0, 0, 0),
  (110, .aload_n 0, 1, 0, 0, 0, 0, 0),
  (111, .getfield 201, 3, 12, 12, 0, 0, 0),
  (114, .putfield 226, 3, 12, 5, 0, 0, 0),
  (117, .aload_n 0, 1, 0, 0, 0, 0, 0),
  (118, .aload_n 0, 1, 0, 0, 0, 0, 0),
  (119, .getfield 206, 3, 12, 13, 0, 0, 0),
  (122, .putfield 229, 3, 12, 9, 0, 0, 0),
  (125, .aload_n 0, 1, 0, 0, 0, 0, 0),
  (126, .aload_n 0, 1, 0, 0, 0, 0, 0),
  (127, .getfield 211, 3, 12, 14, 0, 0, 0),
  (130, .putfield 232, 3, 12, 10, 0, 0, 0),
  (133, .aload_n 0, 1, 0, 0, 0, 0, 0),
  (134, .aload_n 0, 1, 0, 0, 0, 0, 0),
  (135, .getfield 196, 3, 12, 15, 0, 0, 0),
  (138, .putfield 235, 3, 12, 11, 0, 0, 0),
  (141, .aload_n 0, 1, 0, 0, 0, 0, 0),
  (142, .getfield 235, 3, 12, 11, 0, 0, 0),
  (145, .ireturn, 1, 0, 0, 0, 0, 0)]
def hbk134 : List (Nat × hbR) := [(0, .aload_n 0, 1, 0, 0, 0, 0, 0),
  (1, .iconst 0, 1, 0, 0, 0, 0, 0),
  (2, .putfield 87, 3, 12, 0, 0, 0, 0),
  (5, .aload_n 0, 1, 0, 0, 0, 0, 0),
  (6, .getfield 241, 3, 12, 24, 0, 0, 0),
  (9, .ireturn, 1, 0, 0, 0, 0, 0)]
def hbk135 : List (Nat × hbR) := [(0, .iload_n 0, 1, 0, 0, 0, 0, 0),
  (1, .i2l, 1, 0, 0, 0, 0, 0),
  (2, .lconst 0, 1, 0, 0, 0, 0, 0),
  (3, .ldc2_w 186, 3, 0, 0, 0, 0, 3),
  (6, .invokestatic 97, 3, 112, 3, 0, 0, 0),
  (9, .ireturn, 1, 0, 0, 1, 0, 0)]
def hbk136 : List (Nat × hbR) := [(0, .iload_n 0, 1, 0, 0, 0, 0, 0),
  (1, .i2l, 1, 0, 0, 0, 0, 0),
  (2, .lconst 0, 1, 0, 0, 0, 0, 0),
  (3, .ldc2_w 245, 3, 0, 0, 0, 0, 1023),
  (6, .invokestatic 97, 3, 112, 3, 0, 0, 0),
  (9, .ireturn, 1, 0, 0, 1, 0, 0)]
def hbk137 : List (Nat × hbR) := [(0, .iload_n 0, 1, 0, 0, 0, 0, 0),
  (1, .i2l, 1, 0, 0, 0, 0, 0),
  (2, .lconst 0, 1, 0, 0, 0, 0, 0),
  (3, .ldc2_w 186, 3, 0, 0, 0, 0, 3),
  (6, .invokestatic 97, 3, 112, 3, 0, 0, 0),
  (9, .ireturn, 1, 0, 0, 1, 0, 0)]
def hbk138 : List (Nat × hbR) := [(0, .aload_n 0, 1, 0, 0, 0, 0, 0),
  (1, .iconst 0, 1, 0, 0, 0, 0, 0),
  (2, .putfield 87, 3, 12, 0, 0, 0, 0),
  (5, .iload_n 1, 1, 1, 0, 0, 0, 0),
  (6, .invokestatic 247, 3, 135, 1, 0, 0, 0),
  (9, .ifCond .eq 21, 3, 30, 0, 0, 0, 0),
  (12, .iload_n 2, 1, 2, 0, 0, 0, 0),
  (13, .ldc 123, 2, 0, 0, 0, (-1000000), 0),
  (15, .if_icmp .eq 10, 3, 25, 0, 0, 0, 0),
  (18, .iload_n 2, 1, 2, 0, 0, 0, 0),
  (19, .invokestatic 247, 3, 135, 1, 0, 0, 0),
  (22, .ifCond .eq 8, 3, 30, 0, 0, 0, 0),
  (25, .iload_n 1, 1, 1, 0, 0, 0, 0),
  (26, .iload_n 2, 1, 2, 0, 0, 0, 0),
  (27, .if_icmp .ne 6, 3, 33, 0, 0, 0, 0),
  (30, .ldc 107, 2, 0, 0, 0, (-1000001), 0),
  (32, .ireturn, 1, 0, 0, 0, 0, 0),
  (33, .aload_n 0, 1, 0, 0, 0, 0, 0),
  (34, .getfield 49, 3, 12, 32, 0, 0, 0),
  (37, .iload_n 1, 1, 1, 0, 0, 0, 0),
  (38, .iload_n 2, 1, 2, 0, 0, 0, 0),
  (39, .ldc 123, 2, 0, 0, 0, (-1000000), 0),
  (41, .if_icmp .ne 7, 3, 48, 0, 0, 0, 0),
  (44, .iconst (-1), 1, 0, 0, 0, (-1), 0),
  (45, .goto 4, 3, 49, 0, 0, 0, 0),
  (48, .iload_n 2, 1, 2, 0, 0, 0, 0),
  (49, .iastore, 1, 0, 0, 0, 0, 0),
  (50, .iconst 1, 1, 0, 0, 0, 1, 0),
  (51, .ireturn, 1, 0, 0, 0, 0, 0)]
def hbk139 : List (Nat × hbR) := [(0, .aload_n 0, 1, 0, 0, 0, 0, 0),
  (1, .iconst 0, 1, 0, 0, 0, 0, 0),
  (2, .putfield 87, 3, 12, 0, 0, 0, 0),
  (5, .iload_n 1, 1, 1, 0, 0, 0, 0),
  (6, .invokestatic 250, 3, 137, 1, 0, 0, 0),
  (9, .ifCond .eq 15, 3, 24, 0, 0, 0, 0),
  (12, .iload_n 2, 1, 2, 0, 0, 0, 0),
  (13, .i2l, 1, 0, 0, 0, 0, 0),
  (14, .lconst 1, 1, 0, 0, 0, 0, 1),
  (15, .ldc2_w 253, 3, 0, 0, 0, 0, 99),
  (18, .invokestatic 97, 3, 112, 3, 0, 0, 0),
  (21, .ifCond .ne 6, 3, 27, 0, 0, 0, 0),
  (24, .ldc 107, 2, 0, 0, 0, (-1000001), 0),
  (26, .ireturn, 1, 0, 0, 0, 0, 0),
  (27, .aload_n 0, 1, 0, 0, 0, 0, 0),
  (28, .getfield 52, 3, 12, 33, 0, 0, 0),
  (31, .iload_n 1, 1, 1, 0, 0, 0, 0),
  (32, .iaload, 1, 0, 0, 0, 0, 0),
  (33, .istore_n 3, 1, 3, 0, 0, 0, 0),
  (34, .aload_n 0, 1, 0, 0, 0, 0, 0),
  (35, .getfield 52, 3, 12, 33, 0, 0, 0),
  (38, .iload_n 1, 1, 1, 0, 0, 0, 0),
  (39, .iload_n 2, 1, 2, 0, 0, 0, 0),
  (40, .iastore, 1, 0, 0, 0, 0, 0),
  (41, .iload_n 3, 1, 3, 0, 0, 0, 0),
  (42, .ireturn, 1, 0, 0, 0, 0, 0)]
def hbk140 : List (Nat × hbR) := [(0, .aload_n 0, 1, 0, 0, 0, 0, 0),
  (1, .iconst 0, 1, 0, 0, 0, 0, 0),
  (2, .putfield 87, 3, 12, 0, 0, 0, 0),
  (5, .iload_n 1, 1, 1, 0, 0, 0, 0),
  (6, .invokestatic 247, 3, 135, 1, 0, 0, 0),
  (9, .ifCond .eq 25, 3, 34, 0, 0, 0, 0),
  (12, .iload_n 2, 1, 2, 0, 0, 0, 0),
  (13, .invokestatic 247, 3, 135, 1, 0, 0, 0),
  (16, .ifCond .eq 18, 3, 34, 0, 0, 0, 0),
  (19, .iload_n 1, 1, 1, 0, 0, 0, 0),
  (20, .iload_n 2, 1, 2, 0, 0, 0, 0),
  (21, .if_icmp .eq 13, 3, 34, 0, 0, 0, 0),
  (24, .iload_n 3, 1, 3, 0, 0, 0, 0),
  (25, .i2l, 1, 0, 0, 0, 0, 0),
  (26, .lconst 0, 1, 0, 0, 0, 0, 0),
  (27, .lconst 1, 1, 0, 0, 0, 0, 1),
  (28, .invokestatic 97, 3, 112, 3, 0, 0, 0),
  (31, .ifCond .ne 6, 3, 37, 0, 0, 0, 0),
  (34, .ldc 107, 2, 0, 0, 0, (-1000001), 0),
  (36, .ireturn, 1, 0, 0, 0, 0, 0),
  (37, .aload_n 0, 1, 0, 0, 0, 0, 0),
  (38, .getfield 255, 3, 12, 34, 0, 0, 0),
  (41, .iconst 4, 1, 0, 0, 0, 4, 0),
  (42, .iload_n 1, 1, 1, 0, 0, 0, 0),
  (43, .imul, 1, 0, 0, 0, 0, 0),
  (44, .iload_n 2, 1, 2, 0, 0, 0, 0),
  (45, .iadd, 1, 0, 0, 0, 0, 0),
  (46, .ishr, 1, 0, 0, 0, 0, 0),
  (47, .iconst 1, 1, 0, 0, 0, 1, 0),
  (48, .iand, 1, 0, 0, 0, 0, 0),
  (49, .istore 4, 2, 4, 0, 0, 0, 0),
  (51, .aload_n 0, 1, 0, 0, 0, 0, 0),
  (52, .aload_n 0, 1, 0, 0, 0, 0, 0),
  (53, .getfield 255, 3, 12, 34, 0, 0, 0),
  (56, .iconst 1, 1, 0, 0, 0, 1, 0),
  (57, .iconst 4, 1, 0, 0, 0, 4, 0),
  (58, .iload_n 1, 1, 1, 0, 0, 0, 0),
  (59, .imul, 1, 0, 0, 0, 0, 0),
  (60, .iload_n 2, 1, 2, 0, 0, 0, 0),
  (61, .iadd, 1, 0, 0, 0, 0, 0),
  (62, .ishl, 1, 0, 0, 0, 0, 0),
  (63, .iconst (-1), 1, 0, 0, 0, (-1), 0),
  (64, .ixor, 1, 0, 0, 0, 0, 0),
  (65, .iand, 1, 0, 0, 0, 0, 0),
  (66, .iload_n 3, 1, 3, 0, 0, 0, 0),
  (67, .iconst 4, 1, 0, 0, 0, 4, 0),
  (68, .iload_n 1, 1, 1, 0, 0, 0, 0),
  (69, .imul, 1, 0, 0, 0, 0, 0),
  (70, .iload_n 2, 1, 2, 0, 0, 0, 0),
  (71, .iadd, 1, 0, 0, 0, 0, 0),
  (72, .ishl, 1, 0, 0, 0, 0, 0),
  (73, .ior, 1, 0, 0, 0, 0, 0),
  (74, .putfield 255, 3, 12, 34, 0, 0, 0),
  (77, .iload 4, 2, 4, 0, 0, 0, 0),
  (79, .ireturn, 1, 0, 0, 0, 0, 0)]
def hbk141 : List (Nat × hbR) := [(0, .iload_n 0, 1, 0, 0, 0, 0, 0),
  (1, .iconst 4, 1, 0, 0, 0, 4, 0),
  (2, .iconst 3, 1, 0, 0, 0, 3, 0),
  (3, .iload_n 1, 1, 1, 0, 0, 0, 0),
  (4, .imul, 1, 0, 0, 0, 0, 0),
  (5, .iadd, 1, 0, 0, 0, 0, 0),
  (6, .ishr, 1, 0, 0, 0, 0, 0),
  (7, .bipush 7, 2, 0, 0, 0, 7, 0),
  (9, .iand, 1, 0, 0, 0, 0, 0),
  (10, .ireturn, 1, 0, 0, 0, 0, 0)]
def hbk142 : List (Nat × hbR) := [(0, .iload_n 1, 1, 1, 0, 0, 0, 0),
  (1, .bipush 15, 2, 0, 0, 0, 15, 0),
  (3, .iand, 1, 0, 0, 0, 0, 0),
  (4, .istore_n 2, 1, 2, 0, 0, 0, 0),
  (5, .iconst 0, 1, 0, 0, 0, 0, 0),
  (6, .istore_n 3, 1, 3, 0, 0, 0, 0),
  (7, .iload_n 3, 1, 3, 0, 0, 0, 0),
  (8, .iconst 2, 1, 0, 0, 0, 2, 0),
  (9, .if_icmp .ge 112, 3, 121, 0, 0, 0, 0),
  (12, .iload_n 1, 1, 1, 0, 0, 0, 0),
  (13, .iload_n 3, 1, 3, 0, 0, 0, 0),
  (14, .invokestatic 258, 3, 141, 2, 0, 0, 0),
  (17, .istore 4, 2, 4, 0, 0, 0, 0),
  (19, .iconst 0, 1, 0, 0, 0, 0, 0),
  (20, .istore 5, 2, 5, 0, 0, 0, 0),
  (22, .iload 5, 2, 5, 0, 0, 0, 0),
  (24, .aload_n 0, 1, 0, 0, 0, 0, 0),
  (25, .getfield 226, 3, 12, 5, 0, 0, 0),
  (28, .if_icmp .ge 51, 3, 79, 0, 0, 0, 0),
  (31, .iload 4, 2, 4, 0, 0, 0, 0),
  (33, .aload_n 0, 1, 0, 0, 0, 0, 0),
  (34, .getfield 22, 3, 12, 7, 0, 0, 0),
  (37, .iload 5, 2, 5, 0, 0, 0, 0),
  (39, .iaload, 1, 0, 0, 0, 0, 0),
  (40, .iload_n 3, 1, 3, 0, 0, 0, 0),
  (41, .if_icmp .ne 28, 3, 69, 0, 0, 0, 0),
  (44, .iload_n 1, 1, 1, 0, 0, 0, 0),
  (45, .aload_n 0, 1, 0, 0, 0, 0, 0),
  (46, .getfield 19, 3, 12, 6, 0, 0, 0),
  (49, .iload 5, 2, 5, 0, 0, 0, 0),
  (51, .iaload, 1, 0, 0, 0, 0, 0),
  (52, .ishr, 1, 0, 0, 0, 0, 0),
  (53, .iconst 1, 1, 0, 0, 0, 1, 0),
  (54, .iand, 1, 0, 0, 0, 0, 0),
  (55, .iconst 1, 1, 0, 0, 0, 1, 0),
  (56, .if_icmp .ne 13, 3, 69, 0, 0, 0, 0),
  (59, .aload_n 0, 1, 0, 0, 0, 0, 0),
  (60, .getfield 25, 3, 12, 8, 0, 0, 0),
  (63, .iload 5, 2, 5, 0, 0, 0, 0),
  (65, .iaload, 1, 0, 0, 0, 0, 0),
  (66, .goto 4, 3, 70, 0, 0, 0, 0),
  (69, .iconst 0, 1, 0, 0, 0, 0, 0),
  (70, .iadd, 1, 0, 0, 0, 0, 0),
  (71, .istore 4, 2, 4, 0, 0, 0, 0),
  (73, .iinc 5 1, 3, 5, 0, 0, 1, 0),
  (76, .goto (-54), 3, 22, 0, 0, 0, 0),
  (79, .iload 4, 2, 4, 0, 0, 0, 0),
  (81, .ifCond .ge 7, 3, 88, 0, 0, 0, 0),
  (84, .iconst 0, 1, 0, 0, 0, 0, 0),
  (85, .goto 17, 3, 102, 0, 0, 0, 0),
  (88, .iload 4, 2, 4, 0, 0, 0, 0),
  (90, .bipush 7, 2, 0, 0, 0, 7, 0),
  (92, .if_icmp .le 8, 3, 100, 0, 0, 0, 0),
  (95, .bipush 7, 2, 0, 0, 0, 7, 0),
  (97, .goto 5, 3, 102, 0, 0, 0, 0),
  (100, .iload 4, 2, 4, 0, 0, 0, 0),
  (102, .istore 4, 2, 4, 0, 0, 0, 0),
  (104, .iload_n 2, 1, 2, 0, 0, 0, 0),
  (105, .iload 4, 2, 4, 0, 0, 0, 0),
  (107, .iconst 4, 1, 0, 0, 0, 4, 0),
  (108, .iconst 3, 1, 0, 0, 0, 3, 0),
  (109, .iload_n 3, 1, 3, 0, 0, 0, 0),
  (110, .imul, 1, 0, 0, 0, 0, 0),
  (111, .iadd, 1, 0, 0, 0, 0, 0),
  (112, .ishl, 1, 0, 0, 0, 0, 0),
  (113, .ior, 1, 0, 0, 0, 0, 0),
  (114, .istore_n 2, 1, 2, 0, 0, 0, 0),
  (115, .iinc 3 1, 3, 3, 0, 0, 1, 0),
  (118, .goto (-111), 3, 7, 0, 0, 0, 0),
  (121, .iload_n 2, 1, 2, 0, 0, 0, 0),
  (122, .ireturn, 1, 0, 0, 0, 0, 0)]
def hbk143 : List (Nat × hbR) := [(0, .aload_n 0, 1, 0, 0, 0, 0, 0),
  (1, .iconst 0, 1, 0, 0, 0, 0, 0),
  (2, .putfield 87, 3, 12, 0, 0, 0, 0),
  (5, .iload_n 1, 1, 1, 0, 0, 0, 0),
  (6, .invokestatic 262, 3, 136, 1, 0, 0, 0),
  (9, .ifCond .eq 11, 3, 20, 0, 0, 0, 0),
  (12, .aload_n 0, 1, 0, 0, 0, 0, 0),
  (13, .iload_n 1, 1, 1, 0, 0, 0, 0),
  (14, .invokevirtual 265, 3, 142, 1, 0, 0, 0),
  (17, .goto 5, 3, 22, 0, 0, 0, 0),
  (20, .ldc 107, 2, 0, 0, 0, (-1000001), 0),
  (22, .ireturn, 1, 0, 0, 0, 0, 0)]
def hbk144 : List (Nat × hbR) := [(0, .aload_n 0, 1, 0, 0, 0, 0, 0),
  (1, .getfield 34, 3, 12, 18, 0, 0, 0),
  (4, .iload_n 1, 1, 1, 0, 0, 0, 0),
  (5, .iaload, 1, 0, 0, 0, 0, 0),
  (6, .istore_n 3, 1, 3, 0, 0, 0, 0),
  (7, .aload_n 0, 1, 0, 0, 0, 0, 0),
  (8, .getfield 31, 3, 12, 17, 0, 0, 0),
  (11, .iload_n 1, 1, 1, 0, 0, 0, 0),
  (12, .iaload, 1, 0, 0, 0, 0, 0),
  (13, .tableswitch 76 0 2 #[27, 42, 56], 27, 0, 0, 0, 0, 0),
  (40, .iload_n 2, 1, 2, 0, 0, 0, 0),
  (41, .iload_n 3, 1, 3, 0, 0, 0, 0),
  (42, .ishr, 1, 0, 0, 0, 0, 0),
  (43, .iconst 1, 1, 0, 0, 0, 1, 0),
  (44, .iand, 1, 0, 0, 0, 0, 0),
  (45, .iconst 1, 1, 0, 0, 0, 1, 0),
  (46, .if_icmp .ne 7, 3, 53, 0, 0, 0, 0),
  (49, .iconst 1, 1, 0, 0, 0, 1, 0),
  (50, .goto 4, 3, 54, 0, 0, 0, 0),
  (53, .iconst 0, 1, 0, 0, 0, 0, 0),
  (54, .ireturn, 1, 0, 0, 1, 0, 0),
  (55, .iload_n 2, 1, 2, 0, 0, 0, 0),
  (56, .iload_n 3, 1, 3, 0, 0, 0, 0),
  (57, .ishr, 1, 0, 0, 0, 0, 0),
  (58, .iconst 1, 1, 0, 0, 0, 1, 0),
  (59, .iand, 1, 0, 0, 0, 0, 0),
  (60, .ifCond .ne 7, 3, 67, 0, 0, 0, 0),
  (63, .iconst 1, 1, 0, 0, 0, 1, 0),
  (64, .goto 4, 3, 68, 0, 0, 0, 0),
  (67, .iconst 0, 1, 0, 0, 0, 0, 0),
  (68, .ireturn, 1, 0, 0, 1, 0, 0),
  (69, .iload_n 2, 1, 2, 0, 0, 0, 0),
  (70, .iload_n 3, 1, 3, 0, 0, 0, 0),
  (71, .invokestatic 258, 3, 141, 2, 0, 0, 0),
  (74, .aload_n 0, 1, 0, 0, 0, 0, 0),
  (75, .getfield 37, 3, 12, 19, 0, 0, 0),
  (78, .iload_n 1, 1, 1, 0, 0, 0, 0),
  (79, .iaload, 1, 0, 0, 0, 0, 0),
  (80, .if_icmp .le 7, 3, 87, 0, 0, 0, 0),
  (83, .iconst 1, 1, 0, 0, 0, 1, 0),
  (84, .goto 4, 3, 88, 0, 0, 0, 0),
  (87, .iconst 0, 1, 0, 0, 0, 0, 0),
  (88, .ireturn, 1, 0, 0, 1, 0, 0),
  (89, .iload_n 2, 1, 2, 0, 0, 0, 0),
  (90, .iload_n 3, 1, 3, 0, 0, 0, 0),
  (91, .invokestatic 258, 3, 141, 2, 0, 0, 0),
  (94, .aload_n 0, 1, 0, 0, 0, 0, 0),
  (95, .getfield 37, 3, 12, 19, 0, 0, 0),
  (98, .iload_n 1, 1, 1, 0, 0, 0, 0),
  (99, .iaload, 1, 0, 0, 0, 0, 0),
  (100, .if_icmp .ge 7, 3, 107, 0, 0, 0, 0),
  (103, .iconst 1, 1, 0, 0, 0, 1, 0),
  (104, .goto 4, 3, 108, 0, 0, 0, 0),
  (107, .iconst 0, 1, 0, 0, 0, 0, 0),
  (108, .ireturn, 1, 0, 0, 1, 0, 0)]
def hbk145 : List (Nat × hbR) := [(0, .iconst 1, 1, 0, 0, 0, 1, 0),
  (1, .istore_n 3, 1, 3, 0, 0, 0, 0),
  (2, .iconst 3, 1, 0, 0, 0, 3, 0),
  (3, .iload_n 1, 1, 1, 0, 0, 0, 0),
  (4, .imul, 1, 0, 0, 0, 0, 0),
  (5, .istore 4, 2, 4, 0, 0, 0, 0),
  (7, .iload 4, 2, 4, 0, 0, 0, 0),
  (9, .iconst 3, 1, 0, 0, 0, 3, 0),
  (10, .iload_n 1, 1, 1, 0, 0, 0, 0),
  (11, .imul, 1, 0, 0, 0, 0, 0),
  (12, .aload_n 0, 1, 0, 0, 0, 0, 0),
  (13, .getfield 28, 3, 12, 16, 0, 0, 0),
  (16, .iload_n 1, 1, 1, 0, 0, 0, 0),
  (17, .iaload, 1, 0, 0, 0, 0, 0),
  (18, .iadd, 1, 0, 0, 0, 0, 0),
  (19, .if_icmp .ge 29, 3, 48, 0, 0, 0, 0),
  (22, .iload_n 3, 1, 3, 0, 0, 0, 0),
  (23, .ifCond .eq 17, 3, 40, 0, 0, 0, 0),
  (26, .aload_n 0, 1, 0, 0, 0, 0, 0),
  (27, .iload 4, 2, 4, 0, 0, 0, 0),
  (29, .iload_n 2, 1, 2, 0, 0, 0, 0),
  (30, .invokevirtual 268, 3, 144, 2, 0, 0, 0),
  (33, .ifCond .eq 7, 3, 40, 0, 0, 0, 0),
  (36, .iconst 1, 1, 0, 0, 0, 1, 0),
  (37, .goto 4, 3, 41, 0, 0, 0, 0),
  (40, .iconst 0, 1, 0, 0, 0, 0, 0),
  (41, .istore_n 3, 1, 3, 0, 0, 0, 0),
  (42, .iinc 4 1, 3, 4, 0, 0, 1, 0),
  (45, .goto (-38), 3, 7, 0, 0, 0, 0),
  (48, .iload_n 3, 1, 3, 0, 0, 0, 0),
  (49, .ireturn, 1, 0, 0, 1, 0, 0)]
def hbk146 : List (Nat × hbR) := [(0, .iconst 0, 1, 0, 0, 0, 0, 0),
  (1, .istore_n 2, 1, 2, 0, 0, 0, 0),
  (2, .iconst 0, 1, 0, 0, 0, 0, 0),
  (3, .istore_n 3, 1, 3, 0, 0, 0, 0),
  (4, .iload_n 3, 1, 3, 0, 0, 0, 0),
  (5, .aload_n 0, 1, 0, 0, 0, 0, 0),
  (6, .getfield 229, 3, 12, 9, 0, 0, 0),
  (9, .if_icmp .ge 28, 3, 37, 0, 0, 0, 0),
  (12, .iload_n 2, 1, 2, 0, 0, 0, 0),
  (13, .ifCond .ne 12, 3, 25, 0, 0, 0, 0),
  (16, .aload_n 0, 1, 0, 0, 0, 0, 0),
  (17, .iload_n 3, 1, 3, 0, 0, 0, 0),
  (18, .iload_n 1, 1, 1, 0, 0, 0, 0),
  (19, .invokevirtual 272, 3, 145, 2, 0, 0, 0),
  (22, .ifCond .eq 7, 3, 29, 0, 0, 0, 0),
  (25, .iconst 1, 1, 0, 0, 0, 1, 0),
  (26, .goto 4, 3, 30, 0, 0, 0, 0),
  (29, .iconst 0, 1, 0, 0, 0, 0, 0),
  (30, .istore_n 2, 1, 2, 0, 0, 0, 0),
  (31, .iinc 3 1, 3, 3, 0, 0, 1, 0),
  (34, .goto (-30), 3, 4, 0, 0, 0, 0),
  (37, .iload_n 2, 1, 2, 0, 0, 0, 0),
  (38, .ireturn, 1, 0, 0, 1, 0, 0)]
def hbk147 : List (Nat × hbR) := [(0, .aload_n 0, 1, 0, 0, 0, 0, 0),
  (1, .iload_n 1, 1, 1, 0, 0, 0, 0),
  (2, .invokevirtual 275, 3, 146, 1, 0, 0, 0),
  (5, .ifCond .ne 7, 3, 12, 0, 0, 0, 0),
  (8, .iconst 1, 1, 0, 0, 0, 1, 0),
  (9, .goto 4, 3, 13, 0, 0, 0, 0),
  (12, .iconst 0, 1, 0, 0, 0, 0, 0),
  (13, .istore_n 2, 1, 2, 0, 0, 0, 0),
  (14, .iconst 4, 1, 0, 0, 0, 4, 0),
  (15, .istore_n 3, 1, 3, 0, 0, 0, 0),
  (16, .iload_n 3, 1, 3, 0, 0, 0, 0),
  (17, .iconst 4, 1, 0, 0, 0, 4, 0),
  (18, .aload_n 0, 1, 0, 0, 0, 0, 0),
  (19, .getfield 232, 3, 12, 10, 0, 0, 0),
  (22, .iadd, 1, 0, 0, 0, 0, 0),
  (23, .if_icmp .ge 28, 3, 51, 0, 0, 0, 0),
  (26, .iload_n 2, 1, 2, 0, 0, 0, 0),
  (27, .ifCond .eq 16, 3, 43, 0, 0, 0, 0),
  (30, .aload_n 0, 1, 0, 0, 0, 0, 0),
  (31, .iload_n 3, 1, 3, 0, 0, 0, 0),
  (32, .iload_n 1, 1, 1, 0, 0, 0, 0),
  (33, .invokevirtual 272, 3, 145, 2, 0, 0, 0),
  (36, .ifCond .eq 7, 3, 43, 0, 0, 0, 0),
  (39, .iconst 1, 1, 0, 0, 0, 1, 0),
  (40, .goto 4, 3, 44, 0, 0, 0, 0),
  (43, .iconst 0, 1, 0, 0, 0, 0, 0),
  (44, .istore_n 2, 1, 2, 0, 0, 0, 0),
  (45, .iinc 3 1, 3, 3, 0, 0, 1, 0),
  (48, .goto (-32), 3, 16, 0, 0, 0, 0),
  (51, .iload_n 2, 1, 2, 0, 0, 0, 0),
  (52, .ireturn, 1, 0, 0, 1, 0, 0)]
def hbk148 : List (Nat × hbR) := [(0, .aload_n 0, 1, 0, 0, 0, 0, 0),
  (1, .iconst 0, 1, 0, 0, 0, 0, 0),
  (2, .putfield 87, 3, 12, 0, 0, 0, 0),
  (5, .iload_n 1, 1, 1, 0, 0, 0, 0),
  (6, .invokestatic 262, 3, 136, 1, 0, 0, 0),
  (9, .ifCond .eq 13, 3, 22, 0, 0, 0, 0),
  (12, .iload_n 2, 1, 2, 0, 0, 0, 0),
  (13, .i2l, 1, 0, 0, 0, 0, 0),
  (14, .lconst 0, 1, 0, 0, 0, 0, 0),
  (15, .lconst 1, 1, 0, 0, 0, 0, 1),
  (16, .invokestatic 97, 3, 112, 3, 0, 0, 0),
  (19, .ifCond .ne 8, 3, 27, 0, 0, 0, 0),
  (22, .ldc 107, 2, 0, 0, 0, (-1000001), 0),
  (24, .goto 31, 3, 55, 0, 0, 0, 0),
  (27, .iload_n 2, 1, 2, 0, 0, 0, 0),
  (28, .ifCond .ne 14, 3, 42, 0, 0, 0, 0),
  (31, .aload_n 0, 1, 0, 0, 0, 0, 0),
  (32, .iload_n 1, 1, 1, 0, 0, 0, 0),
  (33, .invokevirtual 275, 3, 146, 1, 0, 0, 0),
  (36, .ifCond .eq 18, 3, 54, 0, 0, 0, 0),
  (39, .goto 11, 3, 50, 0, 0, 0, 0),
  (42, .aload_n 0, 1, 0, 0, 0, 0, 0),
  (43, .iload_n 1, 1, 1, 0, 0, 0, 0),
  (44, .invokevirtual 278, 3, 147, 1, 0, 0, 0),
  (47, .ifCond .eq 7, 3, 54, 0, 0, 0, 0),
  (50, .iconst 1, 1, 0, 0, 0, 1, 0),
  (51, .goto 4, 3, 55, 0, 0, 0, 0),
  (54, .iconst 0, 1, 0, 0, 0, 0, 0),
  (55, .ireturn, 1, 0, 0, 0, 0, 0)]
def hbk149 : List (Nat × hbR) := [(0, .aload_n 0, 1, 0, 0, 0, 0, 0),
  (1, .iconst 0, 1, 0, 0, 0, 0, 0),
  (2, .putfield 87, 3, 12, 0, 0, 0, 0),
  (5, .iload_n 1, 1, 1, 0, 0, 0, 0),
  (6, .invokestatic 101, 3, 114, 1, 0, 0, 0),
  (9, .ifCond .eq 15, 3, 24, 0, 0, 0, 0),
  (12, .iload_n 3, 1, 3, 0, 0, 0, 0),
  (13, .i2l, 1, 0, 0, 0, 0, 0),
  (14, .lconst 1, 1, 0, 0, 0, 0, 1),
  (15, .ldc2_w 281, 3, 0, 0, 0, 0, 20),
  (18, .invokestatic 97, 3, 112, 3, 0, 0, 0),
  (21, .ifCond .ne 6, 3, 27, 0, 0, 0, 0),
  (24, .ldc 107, 2, 0, 0, 0, (-1000001), 0),
  (26, .ireturn, 1, 0, 0, 0, 0, 0),
  (27, .aload_n 0, 1, 0, 0, 0, 0, 0),
  (28, .getfield 7, 3, 12, 2, 0, 0, 0),
  (31, .iload_n 1, 1, 1, 0, 0, 0, 0),
  (32, .iaload, 1, 0, 0, 0, 0, 0),
  (33, .ifCond .ge 9, 3, 42, 0, 0, 0, 0),
  (36, .aload_n 0, 1, 0, 0, 0, 0, 0),
  (37, .iconst 1, 1, 0, 0, 0, 1, 0),
  (38, .invokevirtual 108, 3, 113, 1, 0, 0, 0),
  (41, .ireturn, 1, 0, 0, 0, 0, 0),
  (42, .iload_n 2, 1, 2, 0, 0, 0, 0),
  (43, .ifCond .lt 19, 3, 62, 0, 0, 0, 0),
  (46, .iload_n 2, 1, 2, 0, 0, 0, 0),
  (47, .i2l, 1, 0, 0, 0, 0, 0),
  (48, .iload_n 3, 1, 3, 0, 0, 0, 0),
  (49, .i2l, 1, 0, 0, 0, 0, 0),
  (50, .ladd, 1, 0, 0, 0, 0, 0),
  (51, .aload_n 0, 1, 0, 0, 0, 0, 0),
  (52, .getfield 13, 3, 12, 3, 0, 0, 0),
  (55, .iload_n 1, 1, 1, 0, 0, 0, 0),
  (56, .iaload, 1, 0, 0, 0, 0, 0),
  (57, .i2l, 1, 0, 0, 0, 0, 0),
  (58, .lcmp, 1, 0, 0, 0, 0, 0),
  (59, .ifCond .le 9, 3, 68, 0, 0, 0, 0),
  (62, .aload_n 0, 1, 0, 0, 0, 0, 0),
  (63, .iconst 2, 1, 0, 0, 0, 2, 0),
  (64, .invokevirtual 108, 3, 113, 1, 0, 0, 0),
  (67, .ireturn, 1, 0, 0, 0, 0, 0),
  (68, .iconst 0, 1, 0, 0, 0, 0, 0),
  (69, .istore 4, 2, 4, 0, 0, 0, 0),
  (71, .bipush 40, 2, 0, 0, 0, 40, 0),
  (73, .iload_n 1, 1, 1, 0, 0, 0, 0),
  (74, .imul, 1, 0, 0, 0, 0, 0),
  (75, .iload_n 2, 1, 2, 0, 0, 0, 0),
  (76, .iadd, 1, 0, 0, 0, 0, 0),
  (77, .istore 5, 2, 5, 0, 0, 0, 0),
  (79, .iload 5, 2, 5, 0, 0, 0, 0),
  (81, .bipush 40, 2, 0, 0, 0, 40, 0),
  (83, .iload_n 1, 1, 1, 0, 0, 0, 0),
  (84, .imul, 1, 0, 0, 0, 0, 0),
  (85, .iload_n 2, 1, 2, 0, 0, 0, 0),
  (86, .iadd, 1, 0, 0, 0, 0, 0),
  (87, .iload_n 3, 1, 3, 0, 0, 0, 0),
  (88, .iadd, 1, 0, 0, 0, 0, 0),
  (89, .if_icmp .ge 49, 3, 138, 0, 0, 0, 0),
  (92, .aload_n 0, 1, 0, 0, 0, 0, 0),
  (93, .getfield 16, 3, 12, 4, 0, 0, 0),
  (96, .iload 5, 2, 5, 0, 0, 0, 0),
  (98, .iaload, 1, 0, 0, 0, 0, 0),
  (99, .invokestatic 262, 3, 136, 1, 0, 0, 0),
  (102, .ifCond .ne 6, 3, 108, 0, 0, 0, 0),
  (105, .ldc 107, 2, 0, 0, 0, (-1000001), 0),
  (107, .ireturn, 1, 0, 0, 0, 0, 0),
  (108, .iload 4, 2, 4, 0, 0, 0, 0),
  (110, .aload_n 0, 1, 0, 0, 0, 0, 0),
  (111, .aload_n 0, 1, 0, 0, 0, 0, 0),
  (112, .getfield 16, 3, 12, 4, 0, 0, 0),
  (115, .iload 5, 2, 5, 0, 0, 0, 0),
  (117, .iaload, 1, 0, 0, 0, 0, 0),
  (118, .invokevirtual 275, 3, 146, 1, 0, 0, 0),
  (121, .ifCond .eq 7, 3, 128, 0, 0, 0, 0),
  (124, .iconst 1, 1, 0, 0, 0, 1, 0),
  (125, .goto 4, 3, 129, 0, 0, 0, 0),
  (128, .iconst 0, 1, 0, 0, 0, 0, 0),
  (129, .iadd, 1, 0, 0, 0, 0, 0),
  (130, .istore 4, 2, 4, 0, 0, 0, 0),
  (132, .iinc 5 1, 3, 5, 0, 0, 1, 0),
  (135, .goto (-56), 3, 79, 0, 0, 0, 0),
  (138, .aload_n 0, 1, 0, 0, 0, 0, 0),
  (139, .iconst 0, 1, 0, 0, 0, 0, 0),
  (140, .putfield 91, 3, 12, 1, 0, 0, 0),
  (143, .iload 4, 2, 4, 0, 0, 0, 0),
  (145, .ireturn, 1, 0, 0, 0, 0, 0)]
def hbk150 : List (Nat × hbR) := [(0, .iload_n 3, 1, 3, 0, 0, 0, 0),
  (1, .ifCond .ne 15, 3, 16, 0, 0, 0, 0),
  (4, .aload_n 0, 1, 0, 0, 0, 0, 0),
  (5, .iload_n 1, 1, 1, 0, 0, 0, 0),
  (6, .iconst 1, 1, 0, 0, 0, 1, 0),
  (7, .iload_n 2, 1, 2, 0, 0, 0, 0),
  (8, .ishl, 1, 0, 0, 0, 0, 0),
  (9, .iconst (-1), 1, 0, 0, 0, (-1), 0),
  (10, .ixor, 1, 0, 0, 0, 0, 0),
  (11, .iand, 1, 0, 0, 0, 0, 0),
  (12, .invokevirtual 265, 3, 142, 1, 0, 0, 0),
  (15, .ireturn, 1, 0, 0, 0, 0, 0),
  (16, .iconst 0, 1, 0, 0, 0, 0, 0),
  (17, .istore 4, 2, 4, 0, 0, 0, 0),
  (19, .iconst 0, 1, 0, 0, 0, 0, 0),
  (20, .istore 5, 2, 5, 0, 0, 0, 0),
  (22, .iload 5, 2, 5, 0, 0, 0, 0),
  (24, .iconst 4, 1, 0, 0, 0, 4, 0),
  (25, .if_icmp .ge 48, 3, 73, 0, 0, 0, 0),
  (28, .iload 4, 2, 4, 0, 0, 0, 0),
  (30, .ifCond .ne 30, 3, 60, 0, 0, 0, 0),
  (33, .aload_n 0, 1, 0, 0, 0, 0, 0),
  (34, .getfield 255, 3, 12, 34, 0, 0, 0),
  (37, .iconst 4, 1, 0, 0, 0, 4, 0),
  (38, .iload_n 2, 1, 2, 0, 0, 0, 0),
  (39, .imul, 1, 0, 0, 0, 0, 0),
  (40, .iload 5, 2, 5, 0, 0, 0, 0),
  (42, .iadd, 1, 0, 0, 0, 0, 0),
  (43, .ishr, 1, 0, 0, 0, 0, 0),
  (44, .iconst 1, 1, 0, 0, 0, 1, 0),
  (45, .iand, 1, 0, 0, 0, 0, 0),
  (46, .iconst 1, 1, 0, 0, 0, 1, 0),
  (47, .if_icmp .ne 17, 3, 64, 0, 0, 0, 0),
  (50, .iload_n 1, 1, 1, 0, 0, 0, 0),
  (51, .iload 5, 2, 5, 0, 0, 0, 0),
  (53, .ishr, 1, 0, 0, 0, 0, 0),
  (54, .iconst 1, 1, 0, 0, 0, 1, 0),
  (55, .iand, 1, 0, 0, 0, 0, 0),
  (56, .iconst 1, 1, 0, 0, 0, 1, 0),
  (57, .if_icmp .ne 7, 3, 64, 0, 0, 0, 0),
  (60, .iconst 1, 1, 0, 0, 0, 1, 0),
  (61, .goto 4, 3, 65, 0, 0, 0, 0),
  (64, .iconst 0, 1, 0, 0, 0, 0, 0),
  (65, .istore 4, 2, 4, 0, 0, 0, 0),
  (67, .iinc 5 1, 3, 5, 0, 0, 1, 0),
  (70, .goto (-48), 3, 22, 0, 0, 0, 0),
  (73, .aload_n 0, 1, 0, 0, 0, 0, 0),
  (74, .iload 4, 2, 4, 0, 0, 0, 0),
  (76, .ifCond .eq 7, 3, 83, 0, 0, 0, 0),
  (79, .iload_n 1, 1, 1, 0, 0, 0, 0),
  (80, .goto 8, 3, 88, 0, 0, 0, 0),
  (83, .iload_n 1, 1, 1, 0, 0, 0, 0),
  (84, .iconst 1, 1, 0, 0, 0, 1, 0),
  (85, .iload_n 2, 1, 2, 0, 0, 0, 0),
  (86, .ishl, 1, 0, 0, 0, 0, 0),
  (87, .ior, 1, 0, 0, 0, 0, 0),
  (88, .invokevirtual 265, 3, 142, 1, 0, 0, 0),
  (91, .ireturn, 1, 0, 0, 0, 0, 0)]
def hbk151 : List (Nat × hbR) := [(0, .iload_n 1, 1, 1, 0, 0, 0, 0),
  (1, .aload_n 0, 1, 0, 0, 0, 0, 0),
  (2, .getfield 235, 3, 12, 11, 0, 0, 0),
  (5, .if_icmp .ge 14, 3, 19, 0, 0, 0, 0),
  (8, .aload_n 0, 1, 0, 0, 0, 0, 0),
  (9, .getfield 40, 3, 12, 20, 0, 0, 0),
  (12, .iload_n 1, 1, 1, 0, 0, 0, 0),
  (13, .iaload, 1, 0, 0, 0, 0, 0),
  (14, .bipush 7, 2, 0, 0, 0, 7, 0),
  (16, .if_icmp .ne 7, 3, 23, 0, 0, 0, 0),
  (19, .iconst 1, 1, 0, 0, 0, 1, 0),
  (20, .goto 4, 3, 24, 0, 0, 0, 0),
  (23, .iconst 0, 1, 0, 0, 0, 0, 0),
  (24, .ireturn, 1, 0, 0, 1, 0, 0)]
def hbk152 : List (Nat × hbR) := [(0, .iload_n 1, 1, 1, 0, 0, 0, 0),
  (1, .sipush 1024, 3, 0, 0, 0, 1024, 0),
  (4, .idiv, 1, 0, 0, 0, 0, 0),
  (5, .istore_n 2, 1, 2, 0, 0, 0, 0),
  (6, .iload_n 1, 1, 1, 0, 0, 0, 0),
  (7, .sipush 1024, 3, 0, 0, 0, 1024, 0),
  (10, .irem, 1, 0, 0, 0, 0, 0),
  (11, .istore_n 3, 1, 3, 0, 0, 0, 0),
  (12, .aload_n 0, 1, 0, 0, 0, 0, 0),
  (13, .iload_n 2, 1, 2, 0, 0, 0, 0),
  (14, .invokevirtual 283, 3, 151, 1, 0, 0, 0),
  (17, .ifCond .eq 6, 3, 23, 0, 0, 0, 0),
  (20, .ldc 123, 2, 0, 0, 0, (-1000000), 0),
  (22, .ireturn, 1, 0, 0, 0, 0, 0),
  (23, .sipush 1024, 3, 0, 0, 0, 1024, 0),
  (26, .iload_n 2, 1, 2, 0, 0, 0, 0),
  (27, .iconst 1, 1, 0, 0, 0, 1, 0),
  (28, .iadd, 1, 0, 0, 0, 0, 0),
  (29, .imul, 1, 0, 0, 0, 0, 0),
  (30, .istore 4, 2, 4, 0, 0, 0, 0),
  (32, .aload_n 0, 1, 0, 0, 0, 0, 0),
  (33, .getfield 40, 3, 12, 20, 0, 0, 0),
  (36, .iload_n 2, 1, 2, 0, 0, 0, 0),
  (37, .iaload, 1, 0, 0, 0, 0, 0),
  (38, .tableswitch 128 0 5 #[38, 38, 128, 128, 67, 98], 38, 0, 0, 0, 0, 0),
  (76, .iload 4, 2, 4, 0, 0, 0, 0),
  (78, .aload_n 0, 1, 0, 0, 0, 0, 0),
  (79, .iload_n 3, 1, 3, 0, 0, 0, 0),
  (80, .aload_n 0, 1, 0, 0, 0, 0, 0),
  (81, .getfield 43, 3, 12, 21, 0, 0, 0),
  (84, .iload_n 2, 1, 2, 0, 0, 0, 0),
  (85, .iaload, 1, 0, 0, 0, 0, 0),
  (86, .aload_n 0, 1, 0, 0, 0, 0, 0),
  (87, .getfield 40, 3, 12, 20, 0, 0, 0),
  (90, .iload_n 2, 1, 2, 0, 0, 0, 0),
  (91, .iaload, 1, 0, 0, 0, 0, 0),
  (92, .ifCond .ne 7, 3, 99, 0, 0, 0, 0),
  (95, .iconst 1, 1, 0, 0, 0, 1, 0),
  (96, .goto 4, 3, 100, 0, 0, 0, 0),
  (99, .iconst 0, 1, 0, 0, 0, 0, 0),
  (100, .invokevirtual 286, 3, 150, 3, 0, 0, 0),
  (103, .iadd, 1, 0, 0, 0, 0, 0),
  (104, .ireturn, 1, 0, 0, 0, 0, 0),
  (105, .aload_n 0, 1, 0, 0, 0, 0, 0),
  (106, .bipush 24, 2, 0, 0, 0, 24, 0),
  (108, .iload_n 2, 1, 2, 0, 0, 0, 0),
  (109, .iadd, 1, 0, 0, 0, 0, 0),
  (110, .iload_n 3, 1, 3, 0, 0, 0, 0),
  (111, .invokevirtual 268, 3, 144, 2, 0, 0, 0),
  (114, .ifCond .eq 10, 3, 124, 0, 0, 0, 0),
  (117, .iload 4, 2, 4, 0, 0, 0, 0),
  (119, .iload_n 3, 1, 3, 0, 0, 0, 0),
  (120, .iadd, 1, 0, 0, 0, 0, 0),
  (121, .goto 14, 3, 135, 0, 0, 0, 0),
  (124, .sipush 1024, 3, 0, 0, 0, 1024, 0),
  (127, .iload_n 2, 1, 2, 0, 0, 0, 0),
  (128, .imul, 1, 0, 0, 0, 0, 0),
  (129, .aload_n 0, 1, 0, 0, 0, 0, 0),
  (130, .iload_n 3, 1, 3, 0, 0, 0, 0),
  (131, .invokevirtual 265, 3, 142, 1, 0, 0, 0),
  (134, .iadd, 1, 0, 0, 0, 0, 0),
  (135, .ireturn, 1, 0, 0, 0, 0, 0),
  (136, .aload_n 0, 1, 0, 0, 0, 0, 0),
  (137, .bipush 24, 2, 0, 0, 0, 24, 0),
  (139, .iload_n 2, 1, 2, 0, 0, 0, 0),
  (140, .iadd, 1, 0, 0, 0, 0, 0),
  (141, .iload_n 3, 1, 3, 0, 0, 0, 0),
  (142, .invokevirtual 268, 3, 144, 2, 0, 0, 0),
  (145, .ifCond .eq 16, 3, 161, 0, 0, 0, 0),
  (148, .sipush 1024, 3, 0, 0, 0, 1024, 0),
  (151, .aload_n 0, 1, 0, 0, 0, 0, 0),
  (152, .getfield 43, 3, 12, 21, 0, 0, 0),
  (155, .iload_n 2, 1, 2, 0, 0, 0, 0),
  (156, .iaload, 1, 0, 0, 0, 0, 0),
  (157, .imul, 1, 0, 0, 0, 0, 0),
  (158, .goto 5, 3, 163, 0, 0, 0, 0),
  (161, .iload 4, 2, 4, 0, 0, 0, 0),
  (163, .iload_n 3, 1, 3, 0, 0, 0, 0),
  (164, .iadd, 1, 0, 0, 0, 0, 0),
  (165, .ireturn, 1, 0, 0, 0, 0, 0),
  (166, .sipush 1024, 3, 0, 0, 0, 1024, 0),
  (169, .aload_n 0, 1, 0, 0, 0, 0, 0),
  (170, .getfield 43, 3, 12, 21, 0, 0, 0),
  (173, .iload_n 2, 1, 2, 0, 0, 0, 0),
  (174, .iaload, 1, 0, 0, 0, 0, 0),
  (175, .imul, 1, 0, 0, 0, 0, 0),
  (176, .iload_n 3, 1, 3, 0, 0, 0, 0),
  (177, .iadd, 1, 0, 0, 0, 0, 0),
  (178, .ireturn, 1, 0, 0, 0, 0, 0)]
def hbk153 : List (Nat × hbR) := [(0, .iload_n 1, 1, 1, 0, 0, 0, 0),
  (1, .sipush 1024, 3, 0, 0, 0, 1024, 0),
  (4, .idiv, 1, 0, 0, 0, 0, 0),
  (5, .istore_n 3, 1, 3, 0, 0, 0, 0),
  (6, .iload_n 1, 1, 1, 0, 0, 0, 0),
  (7, .sipush 1024, 3, 0, 0, 0, 1024, 0),
  (10, .irem, 1, 0, 0, 0, 0, 0),
  (11, .istore 4, 2, 4, 0, 0, 0, 0),
  (13, .iload_n 3, 1, 3, 0, 0, 0, 0),
  (14, .aload_n 0, 1, 0, 0, 0, 0, 0),
  (15, .getfield 235, 3, 12, 11, 0, 0, 0),
  (18, .if_icmp .ge 17, 3, 35, 0, 0, 0, 0),
  (21, .aload_n 0, 1, 0, 0, 0, 0, 0),
  (22, .getfield 40, 3, 12, 20, 0, 0, 0),
  (25, .iload_n 3, 1, 3, 0, 0, 0, 0),
  (26, .iaload, 1, 0, 0, 0, 0, 0),
  (27, .iconst 2, 1, 0, 0, 0, 2, 0),
  (28, .if_icmp .ge 7, 3, 35, 0, 0, 0, 0),
  (31, .iconst 1, 1, 0, 0, 0, 1, 0),
  (32, .goto 4, 3, 36, 0, 0, 0, 0),
  (35, .iconst 0, 1, 0, 0, 0, 0, 0),
  (36, .istore 5, 2, 5, 0, 0, 0, 0),
  (38, .iload_n 3, 1, 3, 0, 0, 0, 0),
  (39, .aload_n 0, 1, 0, 0, 0, 0, 0),
  (40, .getfield 235, 3, 12, 11, 0, 0, 0),
  (43, .if_icmp .ge 17, 3, 60, 0, 0, 0, 0),
  (46, .aload_n 0, 1, 0, 0, 0, 0, 0),
  (47, .getfield 40, 3, 12, 20, 0, 0, 0),
  (50, .iload_n 3, 1, 3, 0, 0, 0, 0),
  (51, .iaload, 1, 0, 0, 0, 0, 0),
  (52, .iconst 4, 1, 0, 0, 0, 4, 0),
  (53, .if_icmp .ne 7, 3, 60, 0, 0, 0, 0),
  (56, .iconst 1, 1, 0, 0, 0, 1, 0),
  (57, .goto 4, 3, 61, 0, 0, 0, 0),
  (60, .iconst 0, 1, 0, 0, 0, 0, 0),
  (61, .istore 6, 2, 6, 0, 0, 0, 0),
  (63, .sipush 1024, 3, 0, 0, 0, 1024, 0),
  (66, .iload_n 3, 1, 3, 0, 0, 0, 0),
  (67, .iconst 1, 1, 0, 0, 0, 1, 0),
  (68, .iadd, 1, 0, 0, 0, 0, 0),
  (69, .imul, 1, 0, 0, 0, 0, 0),
  (70, .istore 7, 2, 7, 0, 0, 0, 0),
  (72, .iload_n 2, 1, 2, 0, 0, 0, 0),
  (73, .ifCond .ne 24, 3, 97, 0, 0, 0, 0),
  (76, .iload 5, 2, 5, 0, 0, 0, 0),
  (78, .ifCond .ne 8, 3, 86, 0, 0, 0, 0),
  (81, .iload 6, 2, 6, 0, 0, 0, 0),
  (83, .ifCond .eq 11, 3, 94, 0, 0, 0, 0),
  (86, .iload 7, 2, 7, 0, 0, 0, 0),
  (88, .iload 4, 2, 4, 0, 0, 0, 0),
  (90, .iadd, 1, 0, 0, 0, 0, 0),
  (91, .goto 5, 3, 96, 0, 0, 0, 0),
  (94, .ldc 123, 2, 0, 0, 0, (-1000000), 0),
  (96, .ireturn, 1, 0, 0, 0, 0, 0),
  (97, .iload_n 2, 1, 2, 0, 0, 0, 0),
  (98, .iconst 1, 1, 0, 0, 0, 1, 0),
  (99, .if_icmp .ne 62, 3, 161, 0, 0, 0, 0),
  (102, .iload 5, 2, 5, 0, 0, 0, 0),
  (104, .ifCond .eq 54, 3, 158, 0, 0, 0, 0),
  (107, .aload_n 0, 1, 0, 0, 0, 0, 0),
  (108, .getfield 49, 3, 12, 32, 0, 0, 0),
  (111, .aload_n 0, 1, 0, 0, 0, 0, 0),
  (112, .getfield 43, 3, 12, 21, 0, 0, 0),
  (115, .iload_n 3, 1, 3, 0, 0, 0, 0),
  (116, .iaload, 1, 0, 0, 0, 0, 0),
  (117, .iaload, 1, 0, 0, 0, 0, 0),
  (118, .ifCond .lt 40, 3, 158, 0, 0, 0, 0),
  (121, .iload 7, 2, 7, 0, 0, 0, 0),
  (123, .aload_n 0, 1, 0, 0, 0, 0, 0),
  (124, .iload 4, 2, 4, 0, 0, 0, 0),
  (126, .aload_n 0, 1, 0, 0, 0, 0, 0),
  (127, .getfield 49, 3, 12, 32, 0, 0, 0),
  (130, .aload_n 0, 1, 0, 0, 0, 0, 0),
  (131, .getfield 43, 3, 12, 21, 0, 0, 0),
  (134, .iload_n 3, 1, 3, 0, 0, 0, 0),
  (135, .iaload, 1, 0, 0, 0, 0, 0),
  (136, .iaload, 1, 0, 0, 0, 0, 0),
  (137, .aload_n 0, 1, 0, 0, 0, 0, 0),
  (138, .getfield 40, 3, 12, 20, 0, 0, 0),
  (141, .iload_n 3, 1, 3, 0, 0, 0, 0),
  (142, .iaload, 1, 0, 0, 0, 0, 0),
  (143, .ifCond .ne 7, 3, 150, 0, 0, 0, 0),
  (146, .iconst 1, 1, 0, 0, 0, 1, 0),
  (147, .goto 4, 3, 151, 0, 0, 0, 0),
  (150, .iconst 0, 1, 0, 0, 0, 0, 0),
  (151, .invokevirtual 286, 3, 150, 3, 0, 0, 0),
  (154, .iadd, 1, 0, 0, 0, 0, 0),
  (155, .goto 5, 3, 160, 0, 0, 0, 0),
  (158, .ldc 123, 2, 0, 0, 0, (-1000000), 0),
  (160, .ireturn, 1, 0, 0, 0, 0, 0),
  (161, .iload_n 2, 1, 2, 0, 0, 0, 0),
  (162, .iconst 2, 1, 0, 0, 0, 2, 0),
  (163, .if_icmp .ne 36, 3, 199, 0, 0, 0, 0),
  (166, .iload 6, 2, 6, 0, 0, 0, 0),
  (168, .ifCond .eq 28, 3, 196, 0, 0, 0, 0),
  (171, .aload_n 0, 1, 0, 0, 0, 0, 0),
  (172, .bipush 24, 2, 0, 0, 0, 24, 0),
  (174, .iload_n 3, 1, 3, 0, 0, 0, 0),
  (175, .iadd, 1, 0, 0, 0, 0, 0),
  (176, .iload 4, 2, 4, 0, 0, 0, 0),
  (178, .invokevirtual 268, 3, 144, 2, 0, 0, 0),
  (181, .ifCond .ne 15, 3, 196, 0, 0, 0, 0),
  (184, .iload 7, 2, 7, 0, 0, 0, 0),
  (186, .aload_n 0, 1, 0, 0, 0, 0, 0),
  (187, .iload 4, 2, 4, 0, 0, 0, 0),
  (189, .invokevirtual 265, 3, 142, 1, 0, 0, 0),
  (192, .iadd, 1, 0, 0, 0, 0, 0),
  (193, .goto 5, 3, 198, 0, 0, 0, 0),
  (196, .ldc 123, 2, 0, 0, 0, (-1000000), 0),
  (198, .ireturn, 1, 0, 0, 0, 0, 0),
  (199, .iload 5, 2, 5, 0, 0, 0, 0),
  (201, .ifCond .ne 8, 3, 209, 0, 0, 0, 0),
  (204, .iload 6, 2, 6, 0, 0, 0, 0),
  (206, .ifCond .eq 20, 3, 226, 0, 0, 0, 0),
  (209, .iload_n 3, 1, 3, 0, 0, 0, 0),
  (210, .ifCond .le 16, 3, 226, 0, 0, 0, 0),
  (213, .sipush 1024, 3, 0, 0, 0, 1024, 0),
  (216, .iload_n 3, 1, 3, 0, 0, 0, 0),
  (217, .iconst 1, 1, 0, 0, 0, 1, 0),
  (218, .isub, 1, 0, 0, 0, 0, 0),
  (219, .imul, 1, 0, 0, 0, 0, 0),
  (220, .iload 4, 2, 4, 0, 0, 0, 0),
  (222, .iadd, 1, 0, 0, 0, 0, 0),
  (223, .goto 5, 3, 228, 0, 0, 0, 0),
  (226, .ldc 123, 2, 0, 0, 0, (-1000000), 0),
  (228, .ireturn, 1, 0, 0, 0, 0, 0)]
def hbk154 : List (Nat × hbR) := [(0, .iload_n 0, 1, 0, 0, 0, 0, 0),
  (1, .i2l, 1, 0, 0, 0, 0, 0),
  (2, .lconst 0, 1, 0, 0, 0, 0, 0),
  (3, .ldc2_w 290, 3, 0, 0, 0, 0, 16),
  (6, .invokestatic 97, 3, 112, 3, 0, 0, 0),
  (9, .ifCond .eq 14, 3, 23, 0, 0, 0, 0),
  (12, .iload_n 1, 1, 1, 0, 0, 0, 0),
  (13, .invokestatic 262, 3, 136, 1, 0, 0, 0),
  (16, .ifCond .eq 7, 3, 23, 0, 0, 0, 0),
  (19, .iconst 1, 1, 0, 0, 0, 1, 0),
  (20, .goto 4, 3, 24, 0, 0, 0, 0),
  (23, .iconst 0, 1, 0, 0, 0, 0, 0),
  (24, .ireturn, 1, 0, 0, 1, 0, 0)]
def hbk155 : List (Nat × hbR) := [(0, .aload_n 0, 1, 0, 0, 0, 0, 0),
  (1, .iconst 0, 1, 0, 0, 0, 0, 0),
  (2, .putfield 87, 3, 12, 0, 0, 0, 0),
  (5, .iload_n 1, 1, 1, 0, 0, 0, 0),
  (6, .iload_n 2, 1, 2, 0, 0, 0, 0),
  (7, .invokestatic 292, 3, 154, 2, 0, 0, 0),
  (10, .ifCond .eq 17, 3, 27, 0, 0, 0, 0),
  (13, .aload_n 0, 1, 0, 0, 0, 0, 0),
  (14, .sipush 1024, 3, 0, 0, 0, 1024, 0),
  (17, .iload_n 1, 1, 1, 0, 0, 0, 0),
  (18, .imul, 1, 0, 0, 0, 0, 0),
  (19, .iload_n 2, 1, 2, 0, 0, 0, 0),
  (20, .iadd, 1, 0, 0, 0, 0, 0),
  (21, .invokevirtual 295, 3, 152, 1, 0, 0, 0),
  (24, .goto 5, 3, 29, 0, 0, 0, 0),
  (27, .ldc 107, 2, 0, 0, 0, (-1000001), 0),
  (29, .ireturn, 1, 0, 0, 0, 0, 0)]
def hbk156 : List (Nat × hbR) := [(0, .aload_n 0, 1, 0, 0, 0, 0, 0),
  (1, .iconst 0, 1, 0, 0, 0, 0, 0),
  (2, .putfield 87, 3, 12, 0, 0, 0, 0),
  (5, .iload_n 1, 1, 1, 0, 0, 0, 0),
  (6, .iload_n 2, 1, 2, 0, 0, 0, 0),
  (7, .invokestatic 292, 3, 154, 2, 0, 0, 0),
  (10, .ifCond .eq 25, 3, 35, 0, 0, 0, 0),
  (13, .iload_n 3, 1, 3, 0, 0, 0, 0),
  (14, .invokestatic 250, 3, 137, 1, 0, 0, 0),
  (17, .ifCond .eq 18, 3, 35, 0, 0, 0, 0),
  (20, .aload_n 0, 1, 0, 0, 0, 0, 0),
  (21, .sipush 1024, 3, 0, 0, 0, 1024, 0),
  (24, .iload_n 1, 1, 1, 0, 0, 0, 0),
  (25, .imul, 1, 0, 0, 0, 0, 0),
  (26, .iload_n 2, 1, 2, 0, 0, 0, 0),
  (27, .iadd, 1, 0, 0, 0, 0, 0),
  (28, .iload_n 3, 1, 3, 0, 0, 0, 0),
  (29, .invokevirtual 298, 3, 153, 2, 0, 0, 0),
  (32, .goto 5, 3, 37, 0, 0, 0, 0),
  (35, .ldc 107, 2, 0, 0, 0, (-1000001), 0),
  (37, .ireturn, 1, 0, 0, 0, 0, 0)]
def hbk157 : List (Nat × hbR) := [(0, .iload_n 1, 1, 1, 0, 0, 0, 0),
  (1, .sipush 1024, 3, 0, 0, 0, 1024, 0),
  (4, .idiv, 1, 0, 0, 0, 0, 0),
  (5, .istore_n 2, 1, 2, 0, 0, 0, 0),
  (6, .aload_n 0, 1, 0, 0, 0, 0, 0),
  (7, .getfield 40, 3, 12, 20, 0, 0, 0),
  (10, .iload_n 2, 1, 2, 0, 0, 0, 0),
  (11, .iaload, 1, 0, 0, 0, 0, 0),
  (12, .iconst 2, 1, 0, 0, 0, 2, 0),
  (13, .if_icmp .lt 29, 3, 42, 0, 0, 0, 0),
  (16, .aload_n 0, 1, 0, 0, 0, 0, 0),
  (17, .getfield 40, 3, 12, 20, 0, 0, 0),
  (20, .iload_n 2, 1, 2, 0, 0, 0, 0),
  (21, .iaload, 1, 0, 0, 0, 0, 0),
  (22, .iconst 4, 1, 0, 0, 0, 4, 0),
  (23, .if_icmp .ne 23, 3, 46, 0, 0, 0, 0),
  (26, .aload_n 0, 1, 0, 0, 0, 0, 0),
  (27, .bipush 24, 2, 0, 0, 0, 24, 0),
  (29, .iload_n 2, 1, 2, 0, 0, 0, 0),
  (30, .iadd, 1, 0, 0, 0, 0, 0),
  (31, .iload_n 1, 1, 1, 0, 0, 0, 0),
  (32, .sipush 1024, 3, 0, 0, 0, 1024, 0),
  (35, .irem, 1, 0, 0, 0, 0, 0),
  (36, .invokevirtual 268, 3, 144, 2, 0, 0, 0),
  (39, .ifCond .ne 7, 3, 46, 0, 0, 0, 0),
  (42, .iconst 1, 1, 0, 0, 0, 1, 0),
  (43, .goto 4, 3, 47, 0, 0, 0, 0),
  (46, .iconst 0, 1, 0, 0, 0, 0, 0),
  (47, .ireturn, 1, 0, 0, 1, 0, 0)]
def hbk158 : List (Nat × hbR) := [(0, .aload_n 0, 1, 0, 0, 0, 0, 0),
  (1, .iconst 0, 1, 0, 0, 0, 0, 0),
  (2, .putfield 87, 3, 12, 0, 0, 0, 0),
  (5, .iload_n 1, 1, 1, 0, 0, 0, 0),
  (6, .invokestatic 262, 3, 136, 1, 0, 0, 0),
  (9, .ifCond .eq 15, 3, 24, 0, 0, 0, 0),
  (12, .iload_n 2, 1, 2, 0, 0, 0, 0),
  (13, .i2l, 1, 0, 0, 0, 0, 0),
  (14, .lconst 0, 1, 0, 0, 0, 0, 0),
  (15, .ldc2_w 105, 3, 0, 0, 0, 0, 2),
  (18, .invokestatic 97, 3, 112, 3, 0, 0, 0),
  (21, .ifCond .ne 6, 3, 27, 0, 0, 0, 0),
  (24, .ldc 107, 2, 0, 0, 0, (-1000001), 0),
  (26, .ireturn, 1, 0, 0, 0, 0, 0),
  (27, .iload_n 1, 1, 1, 0, 0, 0, 0),
  (28, .istore_n 3, 1, 3, 0, 0, 0, 0),
  (29, .iconst 0, 1, 0, 0, 0, 0, 0),
  (30, .istore 4, 2, 4, 0, 0, 0, 0),
  (32, .iconst 0, 1, 0, 0, 0, 0, 0),
  (33, .istore 5, 2, 5, 0, 0, 0, 0),
  (35, .iconst 0, 1, 0, 0, 0, 0, 0),
  (36, .istore 6, 2, 6, 0, 0, 0, 0),
  (38, .iload 6, 2, 6, 0, 0, 0, 0),
  (40, .sipush 17408, 3, 0, 0, 0, 17408, 0),
  (43, .if_icmp .ge 102, 3, 145, 0, 0, 0, 0),
  (46, .iload 5, 2, 5, 0, 0, 0, 0),
  (48, .ifCond .ne 15, 3, 63, 0, 0, 0, 0),
  (51, .aload_n 0, 1, 0, 0, 0, 0, 0),
  (52, .iload_n 3, 1, 3, 0, 0, 0, 0),
  (53, .sipush 1024, 3, 0, 0, 0, 1024, 0),
  (56, .irem, 1, 0, 0, 0, 0, 0),
  (57, .invokevirtual 275, 3, 146, 1, 0, 0, 0),
  (60, .ifCond .eq 7, 3, 67, 0, 0, 0, 0),
  (63, .iconst 1, 1, 0, 0, 0, 1, 0),
  (64, .goto 4, 3, 68, 0, 0, 0, 0),
  (67, .iconst 0, 1, 0, 0, 0, 0, 0),
  (68, .istore 5, 2, 5, 0, 0, 0, 0),
  (70, .aload_n 0, 1, 0, 0, 0, 0, 0),
  (71, .iload_n 3, 1, 3, 0, 0, 0, 0),
  (72, .sipush 1024, 3, 0, 0, 0, 1024, 0),
  (75, .idiv, 1, 0, 0, 0, 0, 0),
  (76, .invokevirtual 283, 3, 151, 1, 0, 0, 0),
  (79, .ifCond .eq 36, 3, 115, 0, 0, 0, 0),
  (82, .iload_n 2, 1, 2, 0, 0, 0, 0),
  (83, .ifCond .ne 11, 3, 94, 0, 0, 0, 0),
  (86, .iload_n 3, 1, 3, 0, 0, 0, 0),
  (87, .sipush 1024, 3, 0, 0, 0, 1024, 0),
  (90, .irem, 1, 0, 0, 0, 0, 0),
  (91, .goto 23, 3, 114, 0, 0, 0, 0),
  (94, .iload_n 2, 1, 2, 0, 0, 0, 0),
  (95, .iconst 1, 1, 0, 0, 0, 1, 0),
  (96, .if_icmp .ne 8, 3, 104, 0, 0, 0, 0),
  (99, .iload 4, 2, 4, 0, 0, 0, 0),
  (101, .goto 13, 3, 114, 0, 0, 0, 0),
  (104, .iload 5, 2, 5, 0, 0, 0, 0),
  (106, .ifCond .eq 7, 3, 113, 0, 0, 0, 0),
  (109, .iconst 1, 1, 0, 0, 0, 1, 0),
  (110, .goto 4, 3, 114, 0, 0, 0, 0),
  (113, .iconst 0, 1, 0, 0, 0, 0, 0),
  (114, .ireturn, 1, 0, 0, 0, 0, 0),
  (115, .iload 4, 2, 4, 0, 0, 0, 0),
  (117, .aload_n 0, 1, 0, 0, 0, 0, 0),
  (118, .iload_n 3, 1, 3, 0, 0, 0, 0),
  (119, .invokevirtual 301, 3, 157, 1, 0, 0, 0),
  (122, .ifCond .eq 7, 3, 129, 0, 0, 0, 0),
  (125, .iconst 1, 1, 0, 0, 0, 1, 0),
  (126, .goto 4, 3, 130, 0, 0, 0, 0),
  (129, .iconst 0, 1, 0, 0, 0, 0, 0),
  (130, .iadd, 1, 0, 0, 0, 0, 0),
  (131, .istore 4, 2, 4, 0, 0, 0, 0),
  (133, .aload_n 0, 1, 0, 0, 0, 0, 0),
  (134, .iload_n 3, 1, 3, 0, 0, 0, 0),
  (135, .invokevirtual 295, 3, 152, 1, 0, 0, 0),
  (138, .istore_n 3, 1, 3, 0, 0, 0, 0),
  (139, .iinc 6 1, 3, 6, 0, 0, 1, 0),
  (142, .goto (-104), 3, 38, 0, 0, 0, 0),
  (145, .iload_n 2, 1, 2, 0, 0, 0, 0),
  (146, .iconst 2, 1, 0, 0, 0, 2, 0),
  (147, .if_icmp .ge 8, 3, 155, 0, 0, 0, 0),
  (150, .ldc 123, 2, 0, 0, 0, (-1000000), 0),
  (152, .goto 13, 3, 165, 0, 0, 0, 0),
  (155, .iload 5, 2, 5, 0, 0, 0, 0),
  (157, .ifCond .eq 7, 3, 164, 0, 0, 0, 0),
  (160, .iconst 1, 1, 0, 0, 0, 1, 0),
  (161, .goto 4, 3, 165, 0, 0, 0, 0),
  (164, .iconst 0, 1, 0, 0, 0, 0, 0),
  (165, .ireturn, 1, 0, 0, 0, 0, 0)]
def hbk159 : List (Nat × hbR) := [(0, .aload_n 0, 1, 0, 0, 0, 0, 0),
  (1, .getfield 56, 3, 12, 35, 0, 0, 0),
  (4, .iload_n 1, 1, 1, 0, 0, 0, 0),
  (5, .baload, 1, 0, 0, 0, 0, 0),
  (6, .ifCond .ne 30, 3, 36, 0, 0, 0, 0),
  (9, .aload_n 0, 1, 0, 0, 0, 0, 0),
  (10, .getfield 56, 3, 12, 35, 0, 0, 0),
  (13, .iload_n 1, 1, 1, 0, 0, 0, 0),
  (14, .iconst 1, 1, 0, 0, 0, 1, 0),
  (15, .bastore, 1, 0, 0, 0, 0, 0),
  (16, .aload_n 0, 1, 0, 0, 0, 0, 0),
  (17, .getfield 60, 3, 12, 36, 0, 0, 0),
  (20, .aload_n 0, 1, 0, 0, 0, 0, 0),
  (21, .getfield 304, 3, 12, 37, 0, 0, 0),
  (24, .iload_n 1, 1, 1, 0, 0, 0, 0),
  (25, .iastore, 1, 0, 0, 0, 0, 0),
  (26, .aload_n 0, 1, 0, 0, 0, 0, 0),
  (27, .dup, 1, 0, 0, 0, 0, 0),
  (28, .getfield 304, 3, 12, 37, 0, 0, 0),
  (31, .iconst 1, 1, 0, 0, 0, 1, 0),
  (32, .iadd, 1, 0, 0, 0, 0, 0),
  (33, .putfield 304, 3, 12, 37, 0, 0, 0),
  (36, .return_, 1, 0, 0, 0, 0, 0)]
def hbk160 : List (Nat × hbR) := [(0, .iconst 0, 1, 0, 0, 0, 0, 0),
  (1, .istore_n 3, 1, 3, 0, 0, 0, 0),
  (2, .iload_n 3, 1, 3, 0, 0, 0, 0),
  (3, .ldc 55, 2, 0, 0, 0, 52224, 0),
  (5, .if_icmp .ge 16, 3, 21, 0, 0, 0, 0),
  (8, .aload_n 0, 1, 0, 0, 0, 0, 0),
  (9, .getfield 56, 3, 12, 35, 0, 0, 0),
  (12, .iload_n 3, 1, 3, 0, 0, 0, 0),
  (13, .iconst 0, 1, 0, 0, 0, 0, 0),
  (14, .bastore, 1, 0, 0, 0, 0, 0),
  (15, .iinc 3 1, 3, 3, 0, 0, 1, 0),
  (18, .goto (-16), 3, 2, 0, 0, 0, 0),
  (21, .aload_n 0, 1, 0, 0, 0, 0, 0),
  (22, .iconst 0, 1, 0, 0, 0, 0, 0),
  (23, .putfield 304, 3, 12, 37, 0, 0, 0),
  (26, .aload_n 0, 1, 0, 0, 0, 0, 0),
  (27, .iload_n 1, 1, 1, 0, 0, 0, 0),
  (28, .invokevirtual 307, 3, 159, 1, 0, 0, 0),
  (31, .iconst 0, 1, 0, 0, 0, 0, 0),
  (32, .istore_n 3, 1, 3, 0, 0, 0, 0),
  (33, .iload_n 3, 1, 3, 0, 0, 0, 0),
  (34, .aload_n 0, 1, 0, 0, 0, 0, 0),
  (35, .getfield 304, 3, 12, 37, 0, 0, 0),
  (38, .if_icmp .ge 114, 3, 152, 0, 0, 0, 0),
  (41, .aload_n 0, 1, 0, 0, 0, 0, 0),
  (42, .getfield 60, 3, 12, 36, 0, 0, 0),
  (45, .iload_n 3, 1, 3, 0, 0, 0, 0),
  (46, .iaload, 1, 0, 0, 0, 0, 0),
  (47, .sipush 17408, 3, 0, 0, 0, 17408, 0),
  (50, .irem, 1, 0, 0, 0, 0, 0),
  (51, .istore 4, 2, 4, 0, 0, 0, 0),
  (53, .aload_n 0, 1, 0, 0, 0, 0, 0),
  (54, .getfield 60, 3, 12, 36, 0, 0, 0),
  (57, .iload_n 3, 1, 3, 0, 0, 0, 0),
  (58, .iaload, 1, 0, 0, 0, 0, 0),
  (59, .sipush 17408, 3, 0, 0, 0, 17408, 0),
  (62, .idiv, 1, 0, 0, 0, 0, 0),
  (63, .istore 5, 2, 5, 0, 0, 0, 0),
  (65, .aload_n 0, 1, 0, 0, 0, 0, 0),
  (66, .iload 4, 2, 4, 0, 0, 0, 0),
  (68, .invokevirtual 295, 3, 152, 1, 0, 0, 0),
  (71, .istore 6, 2, 6, 0, 0, 0, 0),
  (73, .iload 6, 2, 6, 0, 0, 0, 0),
  (75, .ldc 123, 2, 0, 0, 0, (-1000000), 0),
  (77, .if_icmp .eq 16, 3, 93, 0, 0, 0, 0),
  (80, .aload_n 0, 1, 0, 0, 0, 0, 0),
  (81, .sipush 17408, 3, 0, 0, 0, 17408, 0),
  (84, .iload 5, 2, 5, 0, 0, 0, 0),
  (86, .imul, 1, 0, 0, 0, 0, 0),
  (87, .iload 6, 2, 6, 0, 0, 0, 0),
  (89, .iadd, 1, 0, 0, 0, 0, 0),
  (90, .invokevirtual 307, 3, 159, 1, 0, 0, 0),
  (93, .iconst 0, 1, 0, 0, 0, 0, 0),
  (94, .istore 7, 2, 7, 0, 0, 0, 0),
  (96, .iload 7, 2, 7, 0, 0, 0, 0),
  (98, .iconst 4, 1, 0, 0, 0, 4, 0),
  (99, .if_icmp .ge 47, 3, 146, 0, 0, 0, 0),
  (102, .iload 5, 2, 5, 0, 0, 0, 0),
  (104, .iload_n 2, 1, 2, 0, 0, 0, 0),
  (105, .if_icmp .ge 41, 3, 146, 0, 0, 0, 0),
  (108, .aload_n 0, 1, 0, 0, 0, 0, 0),
  (109, .iload 4, 2, 4, 0, 0, 0, 0),
  (111, .iload 7, 2, 7, 0, 0, 0, 0),
  (113, .invokevirtual 298, 3, 153, 2, 0, 0, 0),
  (116, .istore 8, 2, 8, 0, 0, 0, 0),
  (118, .iload 8, 2, 8, 0, 0, 0, 0),
  (120, .ldc 123, 2, 0, 0, 0, (-1000000), 0),
  (122, .if_icmp .eq 18, 3, 140, 0, 0, 0, 0),
  (125, .aload_n 0, 1, 0, 0, 0, 0, 0),
  (126, .sipush 17408, 3, 0, 0, 0, 17408, 0),
  (129, .iload 5, 2, 5, 0, 0, 0, 0),
  (131, .iconst 1, 1, 0, 0, 0, 1, 0),
  (132, .iadd, 1, 0, 0, 0, 0, 0),
  (133, .imul, 1, 0, 0, 0, 0, 0),
  (134, .iload 8, 2, 8, 0, 0, 0, 0),
  (136, .iadd, 1, 0, 0, 0, 0, 0),
  (137, .invokevirtual 307, 3, 159, 1, 0, 0, 0),
  (140, .iinc 7 1, 3, 7, 0, 0, 1, 0),
  (143, .goto (-47), 3, 96, 0, 0, 0, 0),
  (146, .iinc 3 1, 3, 3, 0, 0, 1, 0),
  (149, .goto (-116), 3, 33, 0, 0, 0, 0),
  (152, .return_, 1, 0, 0, 0, 0, 0)]
def hbk161 : List (Nat × hbR) := [(0, .iconst 0, 1, 0, 0, 0, 0, 0),
  (1, .istore_n 1, 1, 1, 0, 0, 0, 0),
  (2, .iconst 0, 1, 0, 0, 0, 0, 0),
  (3, .istore_n 2, 1, 2, 0, 0, 0, 0),
  (4, .iload_n 2, 1, 2, 0, 0, 0, 0),
  (5, .aload_n 0, 1, 0, 0, 0, 0, 0),
  (6, .getfield 304, 3, 12, 37, 0, 0, 0),
  (9, .if_icmp .ge 28, 3, 37, 0, 0, 0, 0),
  (12, .iload_n 1, 1, 1, 0, 0, 0, 0),
  (13, .ifCond .ne 24, 3, 37, 0, 0, 0, 0),
  (16, .aload_n 0, 1, 0, 0, 0, 0, 0),
  (17, .aload_n 0, 1, 0, 0, 0, 0, 0),
  (18, .getfield 60, 3, 12, 36, 0, 0, 0),
  (21, .iload_n 2, 1, 2, 0, 0, 0, 0),
  (22, .iaload, 1, 0, 0, 0, 0, 0),
  (23, .sipush 1024, 3, 0, 0, 0, 1024, 0),
  (26, .irem, 1, 0, 0, 0, 0, 0),
  (27, .invokevirtual 275, 3, 146, 1, 0, 0, 0),
  (30, .istore_n 1, 1, 1, 0, 0, 0, 0),
  (31, .iinc 2 1, 3, 2, 0, 0, 1, 0),
  (34, .goto (-30), 3, 4, 0, 0, 0, 0),
  (37, .iload_n 1, 1, 1, 0, 0, 0, 0),
  (38, .ireturn, 1, 0, 0, 1, 0, 0)]
def hbk162 : List (Nat × hbR) := [(0, .iload_n 1, 1, 1, 0, 0, 0, 0),
  (1, .istore_n 2, 1, 2, 0, 0, 0, 0),
  (2, .iconst 0, 1, 0, 0, 0, 0, 0),
  (3, .istore_n 3, 1, 3, 0, 0, 0, 0),
  (4, .aload_n 0, 1, 0, 0, 0, 0, 0),
  (5, .getfield 63, 3, 12, 38, 0, 0, 0),
  (8, .iload_n 2, 1, 2, 0, 0, 0, 0),
  (9, .iaload, 1, 0, 0, 0, 0, 0),
  (10, .ifCond .ne 34, 3, 44, 0, 0, 0, 0),
  (13, .aload_n 0, 1, 0, 0, 0, 0, 0),
  (14, .iload_n 2, 1, 2, 0, 0, 0, 0),
  (15, .sipush 1024, 3, 0, 0, 0, 1024, 0),
  (18, .idiv, 1, 0, 0, 0, 0, 0),
  (19, .invokevirtual 283, 3, 151, 1, 0, 0, 0),
  (22, .ifCond .ne 22, 3, 44, 0, 0, 0, 0),
  (25, .iload_n 3, 1, 3, 0, 0, 0, 0),
  (26, .sipush 17408, 3, 0, 0, 0, 17408, 0),
  (29, .if_icmp .gt 15, 3, 44, 0, 0, 0, 0),
  (32, .aload_n 0, 1, 0, 0, 0, 0, 0),
  (33, .iload_n 2, 1, 2, 0, 0, 0, 0),
  (34, .invokevirtual 295, 3, 152, 1, 0, 0, 0),
  (37, .istore_n 2, 1, 2, 0, 0, 0, 0),
  (38, .iinc 3 1, 3, 3, 0, 0, 1, 0),
  (41, .goto (-37), 3, 4, 0, 0, 0, 0),
  (44, .aload_n 0, 1, 0, 0, 0, 0, 0),
  (45, .getfield 63, 3, 12, 38, 0, 0, 0),
  (48, .iload_n 2, 1, 2, 0, 0, 0, 0),
  (49, .iaload, 1, 0, 0, 0, 0, 0),
  (50, .ifCond .le 12, 3, 62, 0, 0, 0, 0),
  (53, .aload_n 0, 1, 0, 0, 0, 0, 0),
  (54, .getfield 63, 3, 12, 38, 0, 0, 0),
  (57, .iload_n 2, 1, 2, 0, 0, 0, 0),
  (58, .iaload, 1, 0, 0, 0, 0, 0),
  (59, .goto 20, 3, 79, 0, 0, 0, 0),
  (62, .aload_n 0, 1, 0, 0, 0, 0, 0),
  (63, .iload_n 2, 1, 2, 0, 0, 0, 0),
  (64, .sipush 1024, 3, 0, 0, 0, 1024, 0),
  (67, .idiv, 1, 0, 0, 0, 0, 0),
  (68, .invokevirtual 283, 3, 151, 1, 0, 0, 0),
  (71, .ifCond .eq 7, 3, 78, 0, 0, 0, 0),
  (74, .iconst 1, 1, 0, 0, 0, 1, 0),
  (75, .goto 4, 3, 79, 0, 0, 0, 0),
  (78, .iconst 2, 1, 0, 0, 0, 2, 0),
  (79, .istore 4, 2, 4, 0, 0, 0, 0),
  (81, .iload_n 1, 1, 1, 0, 0, 0, 0),
  (82, .istore_n 2, 1, 2, 0, 0, 0, 0),
  (83, .aload_n 0, 1, 0, 0, 0, 0, 0),
  (84, .getfield 63, 3, 12, 38, 0, 0, 0),
  (87, .iload_n 2, 1, 2, 0, 0, 0, 0),
  (88, .iaload, 1, 0, 0, 0, 0, 0),
  (89, .ifCond .ne 36, 3, 125, 0, 0, 0, 0),
  (92, .aload_n 0, 1, 0, 0, 0, 0, 0),
  (93, .getfield 63, 3, 12, 38, 0, 0, 0),
  (96, .iload_n 2, 1, 2, 0, 0, 0, 0),
  (97, .iload 4, 2, 4, 0, 0, 0, 0),
  (99, .iastore, 1, 0, 0, 0, 0, 0),
  (100, .aload_n 0, 1, 0, 0, 0, 0, 0),
  (101, .iload_n 2, 1, 2, 0, 0, 0, 0),
  (102, .sipush 1024, 3, 0, 0, 0, 1024, 0),
  (105, .idiv, 1, 0, 0, 0, 0, 0),
  (106, .invokevirtual 283, 3, 151, 1, 0, 0, 0),
  (109, .ifCond .eq 7, 3, 116, 0, 0, 0, 0),
  (112, .iload_n 2, 1, 2, 0, 0, 0, 0),
  (113, .goto 8, 3, 121, 0, 0, 0, 0),
  (116, .aload_n 0, 1, 0, 0, 0, 0, 0),
  (117, .iload_n 2, 1, 2, 0, 0, 0, 0),
  (118, .invokevirtual 295, 3, 152, 1, 0, 0, 0),
  (121, .istore_n 2, 1, 2, 0, 0, 0, 0),
  (122, .goto (-39), 3, 83, 0, 0, 0, 0),
  (125, .iload 4, 2, 4, 0, 0, 0, 0),
  (127, .iconst 2, 1, 0, 0, 0, 2, 0),
  (128, .if_icmp .ne 7, 3, 135, 0, 0, 0, 0),
  (131, .iconst 1, 1, 0, 0, 0, 1, 0),
  (132, .goto 4, 3, 136, 0, 0, 0, 0),
  (135, .iconst 0, 1, 0, 0, 0, 0, 0),
  (136, .ireturn, 1, 0, 0, 1, 0, 0)]
def hbk163 : List (Nat × hbR) := [(0, .aload_n 0, 1, 0, 0, 0, 0, 0),
  (1, .iconst 0, 1, 0, 0, 0, 0, 0),
  (2, .putfield 87, 3, 12, 0, 0, 0, 0),
  (5, .iload_n 1, 1, 1, 0, 0, 0, 0),
  (6, .invokestatic 262, 3, 136, 1, 0, 0, 0),
  (9, .ifCond .eq 27, 3, 36, 0, 0, 0, 0),
  (12, .iload_n 2, 1, 2, 0, 0, 0, 0),
  (13, .i2l, 1, 0, 0, 0, 0, 0),
  (14, .lconst 0, 1, 0, 0, 0, 0, 0),
  (15, .ldc2_w 105, 3, 0, 0, 0, 0, 2),
  (18, .invokestatic 97, 3, 112, 3, 0, 0, 0),
  (21, .ifCond .eq 15, 3, 36, 0, 0, 0, 0),
  (24, .iload_n 3, 1, 3, 0, 0, 0, 0),
  (25, .i2l, 1, 0, 0, 0, 0, 0),
  (26, .lconst 0, 1, 0, 0, 0, 0, 0),
  (27, .ldc2_w 310, 3, 0, 0, 0, 0, 4),
  (30, .invokestatic 97, 3, 112, 3, 0, 0, 0),
  (33, .ifCond .ne 6, 3, 39, 0, 0, 0, 0),
  (36, .ldc 107, 2, 0, 0, 0, (-1000001), 0),
  (38, .ireturn, 1, 0, 0, 0, 0, 0),
  (39, .aload_n 0, 1, 0, 0, 0, 0, 0),
  (40, .iload_n 1, 1, 1, 0, 0, 0, 0),
  (41, .iload_n 2, 1, 2, 0, 0, 0, 0),
  (42, .invokevirtual 312, 3, 160, 2, 0, 0, 0),
  (45, .iload_n 3, 1, 3, 0, 0, 0, 0),
  (46, .iconst 2, 1, 0, 0, 0, 2, 0),
  (47, .if_icmp .ge 27, 3, 74, 0, 0, 0, 0),
  (50, .iload_n 3, 1, 3, 0, 0, 0, 0),
  (51, .ifCond .ne 10, 3, 61, 0, 0, 0, 0),
  (54, .aload_n 0, 1, 0, 0, 0, 0, 0),
  (55, .getfield 304, 3, 12, 37, 0, 0, 0),
  (58, .goto 15, 3, 73, 0, 0, 0, 0),
  (61, .aload_n 0, 1, 0, 0, 0, 0, 0),
  (62, .invokevirtual 316, 3, 161, 0, 0, 0, 0),
  (65, .ifCond .eq 7, 3, 72, 0, 0, 0, 0),
  (68, .iconst 1, 1, 0, 0, 0, 1, 0),
  (69, .goto 4, 3, 73, 0, 0, 0, 0),
  (72, .iconst 0, 1, 0, 0, 0, 0, 0),
  (73, .ireturn, 1, 0, 0, 0, 0, 0),
  (74, .iconst 0, 1, 0, 0, 0, 0, 0),
  (75, .istore 4, 2, 4, 0, 0, 0, 0),
  (77, .iload_n 3, 1, 3, 0, 0, 0, 0),
  (78, .iconst 4, 1, 0, 0, 0, 4, 0),
  (79, .if_icmp .ne 77, 3, 156, 0, 0, 0, 0),
  (82, .iconst 0, 1, 0, 0, 0, 0, 0),
  (83, .istore 5, 2, 5, 0, 0, 0, 0),
  (85, .iload 5, 2, 5, 0, 0, 0, 0),
  (87, .sipush 17408, 3, 0, 0, 0, 17408, 0),
  (90, .if_icmp .ge 17, 3, 107, 0, 0, 0, 0),
  (93, .aload_n 0, 1, 0, 0, 0, 0, 0),
  (94, .getfield 63, 3, 12, 38, 0, 0, 0),
  (97, .iload 5, 2, 5, 0, 0, 0, 0),
  (99, .iconst 0, 1, 0, 0, 0, 0, 0),
  (100, .iastore, 1, 0, 0, 0, 0, 0),
  (101, .iinc 5 1, 3, 5, 0, 0, 1, 0),
  (104, .goto (-19), 3, 85, 0, 0, 0, 0),
  (107, .iconst 0, 1, 0, 0, 0, 0, 0),
  (108, .istore 5, 2, 5, 0, 0, 0, 0),
  (110, .iload 5, 2, 5, 0, 0, 0, 0),
  (112, .aload_n 0, 1, 0, 0, 0, 0, 0),
  (113, .getfield 304, 3, 12, 37, 0, 0, 0),
  (116, .if_icmp .ge 37, 3, 153, 0, 0, 0, 0),
  (119, .iload 4, 2, 4, 0, 0, 0, 0),
  (121, .aload_n 0, 1, 0, 0, 0, 0, 0),
  (122, .aload_n 0, 1, 0, 0, 0, 0, 0),
  (123, .getfield 60, 3, 12, 36, 0, 0, 0),
  (126, .iload 5, 2, 5, 0, 0, 0, 0),
  (128, .iaload, 1, 0, 0, 0, 0, 0),
  (129, .sipush 17408, 3, 0, 0, 0, 17408, 0),
  (132, .irem, 1, 0, 0, 0, 0, 0),
  (133, .invokevirtual 320, 3, 162, 1, 0, 0, 0),
  (136, .ifCond .eq 7, 3, 143, 0, 0, 0, 0),
  (139, .iconst 1, 1, 0, 0, 0, 1, 0),
  (140, .goto 4, 3, 144, 0, 0, 0, 0),
  (143, .iconst 0, 1, 0, 0, 0, 0, 0),
  (144, .iadd, 1, 0, 0, 0, 0, 0),
  (145, .istore 4, 2, 4, 0, 0, 0, 0),
  (147, .iinc 5 1, 3, 5, 0, 0, 1, 0),
  (150, .goto (-40), 3, 110, 0, 0, 0, 0),
  (153, .iload 4, 2, 4, 0, 0, 0, 0),
  (155, .ireturn, 1, 0, 0, 0, 0, 0),
  (156, .iconst 0, 1, 0, 0, 0, 0, 0),
  (157, .istore 5, 2, 5, 0, 0, 0, 0),
  (159, .iload 5, 2, 5, 0, 0, 0, 0),
  (161, .sipush 1024, 3, 0, 0, 0, 1024, 0),
  (164, .if_icmp .ge 17, 3, 181, 0, 0, 0, 0),
  (167, .aload_n 0, 1, 0, 0, 0, 0, 0),
  (168, .getfield 66, 3, 12, 39, 0, 0, 0),
  (171, .iload 5, 2, 5, 0, 0, 0, 0),
  (173, .iconst 0, 1, 0, 0, 0, 0, 0),
  (174, .bastore, 1, 0, 0, 0, 0, 0),
  (175, .iinc 5 1, 3, 5, 0, 0, 1, 0),
  (178, .goto (-19), 3, 159, 0, 0, 0, 0),
  (181, .iconst 0, 1, 0, 0, 0, 0, 0),
  (182, .istore 5, 2, 5, 0, 0, 0, 0),
  (184, .iload 5, 2, 5, 0, 0, 0, 0),
  (186, .aload_n 0, 1, 0, 0, 0, 0, 0),
  (187, .getfield 304, 3, 12, 37, 0, 0, 0),
  (190, .if_icmp .ge 85, 3, 275, 0, 0, 0, 0),
  (193, .aload_n 0, 1, 0, 0, 0, 0, 0),
  (194, .getfield 60, 3, 12, 36, 0, 0, 0),
  (197, .iload 5, 2, 5, 0, 0, 0, 0),
  (199, .iaload, 1, 0, 0, 0, 0, 0),
  (200, .sipush 17408, 3, 0, 0, 0, 17408, 0),
  (203, .irem, 1, 0, 0, 0, 0, 0),
  (204, .istore 6, 2, 6, 0, 0, 0, 0),
  (206, .iload 6, 2, 6, 0, 0, 0, 0),
  (208, .sipush 1024, 3, 0, 0, 0, 1024, 0),
  (211, .irem, 1, 0, 0, 0, 0, 0),
  (212, .istore 7, 2, 7, 0, 0, 0, 0),
  (214, .aload_n 0, 1, 0, 0, 0, 0, 0),
  (215, .iload 6, 2, 6, 0, 0, 0, 0),
  (217, .sipush 1024, 3, 0, 0, 0, 1024, 0),
  (220, .idiv, 1, 0, 0, 0, 0, 0),
  (221, .invokevirtual 283, 3, 151, 1, 0, 0, 0),
  (224, .ifCond .eq 45, 3, 269, 0, 0, 0, 0),
  (227, .aload_n 0, 1, 0, 0, 0, 0, 0),
  (228, .getfield 66, 3, 12, 39, 0, 0, 0),
  (231, .iload 7, 2, 7, 0, 0, 0, 0),
  (233, .baload, 1, 0, 0, 0, 0, 0),
  (234, .ifCond .ne 35, 3, 269, 0, 0, 0, 0),
  (237, .aload_n 0, 1, 0, 0, 0, 0, 0),
  (238, .getfield 66, 3, 12, 39, 0, 0, 0),
  (241, .iload 7, 2, 7, 0, 0, 0, 0),
  (243, .iconst 1, 1, 0, 0, 0, 1, 0),
  (244, .bastore, 1, 0, 0, 0, 0, 0),
  (245, .iload 4, 2, 4, 0, 0, 0, 0),
  (247, .iload_n 3, 1, 3, 0, 0, 0, 0),
  (248, .iconst 2, 1, 0, 0, 0, 2, 0),
  (249, .if_icmp .eq 12, 3, 261, 0, 0, 0, 0),
  (252, .aload_n 0, 1, 0, 0, 0, 0, 0),
  (253, .iload 7, 2, 7, 0, 0, 0, 0),
  (255, .invokevirtual 278, 3, 147, 1, 0, 0, 0),
  (258, .ifCond .eq 7, 3, 265, 0, 0, 0, 0),
  (261, .iconst 1, 1, 0, 0, 0, 1, 0),
  (262, .goto 4, 3, 266, 0, 0, 0, 0),
  (265, .iconst 0, 1, 0, 0, 0, 0, 0),
  (266, .iadd, 1, 0, 0, 0, 0, 0),
  (267, .istore 4, 2, 4, 0, 0, 0, 0),
  (269, .iinc 5 1, 3, 5, 0, 0, 1, 0),
  (272, .goto (-88), 3, 184, 0, 0, 0, 0),
  (275, .iload 4, 2, 4, 0, 0, 0, 0),
  (277, .ireturn, 1, 0, 0, 0, 0, 0)]
def hbk164 : List (Nat × hbR) := [(0, .aload_n 0, 1, 0, 0, 0, 0, 0),
  (1, .getfield 69, 3, 12, 40, 0, 0, 0),
  (4, .iload_n 1, 1, 1, 0, 0, 0, 0),
  (5, .iaload, 1, 0, 0, 0, 0, 0),
  (6, .ifCond .lt 13, 3, 19, 0, 0, 0, 0),
  (9, .iload_n 2, 1, 2, 0, 0, 0, 0),
  (10, .aload_n 0, 1, 0, 0, 0, 0, 0),
  (11, .getfield 69, 3, 12, 40, 0, 0, 0),
  (14, .iload_n 1, 1, 1, 0, 0, 0, 0),
  (15, .iaload, 1, 0, 0, 0, 0, 0),
  (16, .if_icmp .ge 54, 3, 70, 0, 0, 0, 0),
  (19, .aload_n 0, 1, 0, 0, 0, 0, 0),
  (20, .getfield 69, 3, 12, 40, 0, 0, 0),
  (23, .iload_n 1, 1, 1, 0, 0, 0, 0),
  (24, .iload_n 2, 1, 2, 0, 0, 0, 0),
  (25, .iastore, 1, 0, 0, 0, 0, 0),
  (26, .aload_n 0, 1, 0, 0, 0, 0, 0),
  (27, .getfield 72, 3, 12, 41, 0, 0, 0),
  (30, .iload_n 1, 1, 1, 0, 0, 0, 0),
  (31, .baload, 1, 0, 0, 0, 0, 0),
  (32, .ifCond .ne 38, 3, 70, 0, 0, 0, 0),
  (35, .aload_n 0, 1, 0, 0, 0, 0, 0),
  (36, .getfield 72, 3, 12, 41, 0, 0, 0),
  (39, .iload_n 1, 1, 1, 0, 0, 0, 0),
  (40, .iconst 1, 1, 0, 0, 0, 1, 0),
  (41, .bastore, 1, 0, 0, 0, 0, 0),
  (42, .aload_n 0, 1, 0, 0, 0, 0, 0),
  (43, .getfield 60, 3, 12, 36, 0, 0, 0),
  (46, .aload_n 0, 1, 0, 0, 0, 0, 0),
  (47, .getfield 323, 3, 12, 43, 0, 0, 0),
  (50, .aload_n 0, 1, 0, 0, 0, 0, 0),
  (51, .getfield 326, 3, 12, 42, 0, 0, 0),
  (54, .iadd, 1, 0, 0, 0, 0, 0),
  (55, .ldc 55, 2, 0, 0, 0, 52224, 0),
  (57, .irem, 1, 0, 0, 0, 0, 0),
  (58, .iload_n 1, 1, 1, 0, 0, 0, 0),
  (59, .iastore, 1, 0, 0, 0, 0, 0),
  (60, .aload_n 0, 1, 0, 0, 0, 0, 0),
  (61, .dup, 1, 0, 0, 0, 0, 0),
  (62, .getfield 326, 3, 12, 42, 0, 0, 0),
  (65, .iconst 1, 1, 0, 0, 0, 1, 0),
  (66, .iadd, 1, 0, 0, 0, 0, 0),
  (67, .putfield 326, 3, 12, 42, 0, 0, 0),
  (70, .return_, 1, 0, 0, 0, 0, 0)]
def hbk165 : List (Nat × hbR) := [(0, .aload_n 0, 1, 0, 0, 0, 0, 0),
  (1, .iconst 0, 1, 0, 0, 0, 0, 0),
  (2, .putfield 87, 3, 12, 0, 0, 0, 0),
  (5, .iload_n 1, 1, 1, 0, 0, 0, 0),
  (6, .invokestatic 262, 3, 136, 1, 0, 0, 0),
  (9, .ifCond .eq 13, 3, 22, 0, 0, 0, 0),
  (12, .iload_n 2, 1, 2, 0, 0, 0, 0),
  (13, .i2l, 1, 0, 0, 0, 0, 0),
  (14, .lconst 0, 1, 0, 0, 0, 0, 0),
  (15, .lconst 1, 1, 0, 0, 0, 0, 1),
  (16, .invokestatic 97, 3, 112, 3, 0, 0, 0),
  (19, .ifCond .ne 6, 3, 25, 0, 0, 0, 0),
  (22, .ldc 107, 2, 0, 0, 0, (-1000001), 0),
  (24, .ireturn, 1, 0, 0, 0, 0, 0),
  (25, .iconst 0, 1, 0, 0, 0, 0, 0),
  (26, .istore_n 3, 1, 3, 0, 0, 0, 0),
  (27, .iload_n 3, 1, 3, 0, 0, 0, 0),
  (28, .sipush 17408, 3, 0, 0, 0, 17408, 0),
  (31, .if_icmp .ge 23, 3, 54, 0, 0, 0, 0),
  (34, .aload_n 0, 1, 0, 0, 0, 0, 0),
  (35, .getfield 69, 3, 12, 40, 0, 0, 0),
  (38, .iload_n 3, 1, 3, 0, 0, 0, 0),
  (39, .iconst (-1), 1, 0, 0, 0, (-1), 0),
  (40, .iastore, 1, 0, 0, 0, 0, 0),
  (41, .aload_n 0, 1, 0, 0, 0, 0, 0),
  (42, .getfield 72, 3, 12, 41, 0, 0, 0),
  (45, .iload_n 3, 1, 3, 0, 0, 0, 0),
  (46, .iconst 0, 1, 0, 0, 0, 0, 0),
  (47, .bastore, 1, 0, 0, 0, 0, 0),
  (48, .iinc 3 1, 3, 3, 0, 0, 1, 0),
  (51, .goto (-24), 3, 27, 0, 0, 0, 0),
  (54, .aload_n 0, 1, 0, 0, 0, 0, 0),
  (55, .iconst 0, 1, 0, 0, 0, 0, 0),
  (56, .putfield 323, 3, 12, 43, 0, 0, 0),
  (59, .aload_n 0, 1, 0, 0, 0, 0, 0),
  (60, .iconst 0, 1, 0, 0, 0, 0, 0),
  (61, .putfield 326, 3, 12, 42, 0, 0, 0),
  (64, .aload_n 0, 1, 0, 0, 0, 0, 0),
  (65, .iload_n 1, 1, 1, 0, 0, 0, 0),
  (66, .iconst 0, 1, 0, 0, 0, 0, 0),
  (67, .invokevirtual 329, 3, 164, 2, 0, 0, 0),
  (70, .ldc 123, 2, 0, 0, 0, (-1000000), 0),
  (72, .istore_n 3, 1, 3, 0, 0, 0, 0),
  (73, .aload_n 0, 1, 0, 0, 0, 0, 0),
  (74, .getfield 326, 3, 12, 42, 0, 0, 0),
  (77, .ifCond .le 187, 3, 264, 0, 0, 0, 0),
  (80, .aload_n 0, 1, 0, 0, 0, 0, 0),
  (81, .getfield 60, 3, 12, 36, 0, 0, 0),
  (84, .aload_n 0, 1, 0, 0, 0, 0, 0),
  (85, .getfield 323, 3, 12, 43, 0, 0, 0),
  (88, .iaload, 1, 0, 0, 0, 0, 0),
  (89, .istore 4, 2, 4, 0, 0, 0, 0),
  (91, .aload_n 0, 1, 0, 0, 0, 0, 0),
  (92, .aload_n 0, 1, 0, 0, 0, 0, 0),
  (93, .getfield 323, 3, 12, 43, 0, 0, 0),
  (96, .iconst 1, 1, 0, 0, 0, 1, 0),
  (97, .iadd, 1, 0, 0, 0, 0, 0),
  (98, .ldc 55, 2, 0, 0, 0, 52224, 0),
  (100, .irem, 1, 0, 0, 0, 0, 0),
  (101, .putfield 323, 3, 12, 43, 0, 0, 0),
  (104, .aload_n 0, 1, 0, 0, 0, 0, 0),
  (105, .dup, 1, 0, 0, 0, 0, 0),
  (106, .getfield 326, 3, 12, 42, 0, 0, 0),
  (109, .iconst 1, 1, 0, 0, 0, 1, 0),
  (110, .isub, 1, 0, 0, 0, 0, 0),
  (111, .putfield 326, 3, 12, 42, 0, 0, 0),
  (114, .aload_n 0, 1, 0, 0, 0, 0, 0),
  (115, .getfield 72, 3, 12, 41, 0, 0, 0),
  (118, .iload 4, 2, 4, 0, 0, 0, 0),
  (120, .iconst 0, 1, 0, 0, 0, 0, 0),
  (121, .bastore, 1, 0, 0, 0, 0, 0),
  (122, .aload_n 0, 1, 0, 0, 0, 0, 0),
  (123, .getfield 69, 3, 12, 40, 0, 0, 0),
  (126, .iload 4, 2, 4, 0, 0, 0, 0),
  (128, .iaload, 1, 0, 0, 0, 0, 0),
  (129, .istore 5, 2, 5, 0, 0, 0, 0),
  (131, .aload_n 0, 1, 0, 0, 0, 0, 0),
  (132, .iload 4, 2, 4, 0, 0, 0, 0),
  (134, .sipush 1024, 3, 0, 0, 0, 1024, 0),
  (137, .irem, 1, 0, 0, 0, 0, 0),
  (138, .invokevirtual 275, 3, 146, 1, 0, 0, 0),
  (141, .ifCond .eq 25, 3, 166, 0, 0, 0, 0),
  (144, .iload_n 3, 1, 3, 0, 0, 0, 0),
  (145, .ldc 123, 2, 0, 0, 0, (-1000000), 0),
  (147, .if_icmp .eq 9, 3, 156, 0, 0, 0, 0),
  (150, .iload 5, 2, 5, 0, 0, 0, 0),
  (152, .iload_n 3, 1, 3, 0, 0, 0, 0),
  (153, .if_icmp .ge 8, 3, 161, 0, 0, 0, 0),
  (156, .iload 5, 2, 5, 0, 0, 0, 0),
  (158, .goto 4, 3, 162, 0, 0, 0, 0),
  (161, .iload_n 3, 1, 3, 0, 0, 0, 0),
  (162, .istore_n 3, 1, 3, 0, 0, 0, 0),
  (163, .goto 98, 3, 261, 0, 0, 0, 0),
  (166, .aload_n 0, 1, 0, 0, 0, 0, 0),
  (167, .iload 4, 2, 4, 0, 0, 0, 0),
  (169, .invokevirtual 295, 3, 152, 1, 0, 0, 0),
  (172, .istore 6, 2, 6, 0, 0, 0, 0),
  (174, .iload 6, 2, 6, 0, 0, 0, 0),
  (176, .ldc 123, 2, 0, 0, 0, (-1000000), 0),
  (178, .if_icmp .eq 11, 3, 189, 0, 0, 0, 0),
  (181, .aload_n 0, 1, 0, 0, 0, 0, 0),
  (182, .iload 6, 2, 6, 0, 0, 0, 0),
  (184, .iload 5, 2, 5, 0, 0, 0, 0),
  (186, .invokevirtual 329, 3, 164, 2, 0, 0, 0),
  (189, .iconst 0, 1, 0, 0, 0, 0, 0),
  (190, .istore 7, 2, 7, 0, 0, 0, 0),
  (192, .iload 7, 2, 7, 0, 0, 0, 0),
  (194, .iconst 4, 1, 0, 0, 0, 4, 0),
  (195, .if_icmp .ge 66, 3, 261, 0, 0, 0, 0),
  (198, .aload_n 0, 1, 0, 0, 0, 0, 0),
  (199, .iload 4, 2, 4, 0, 0, 0, 0),
  (201, .iload 7, 2, 7, 0, 0, 0, 0),
  (203, .invokevirtual 298, 3, 153, 2, 0, 0, 0),
  (206, .istore 8, 2, 8, 0, 0, 0, 0),
  (208, .iload 8, 2, 8, 0, 0, 0, 0),
  (210, .ldc 123, 2, 0, 0, 0, (-1000000), 0),
  (212, .if_icmp .eq 43, 3, 255, 0, 0, 0, 0),
  (215, .aload_n 0, 1, 0, 0, 0, 0, 0),
  (216, .iload 8, 2, 8, 0, 0, 0, 0),
  (218, .iload 5, 2, 5, 0, 0, 0, 0),
  (220, .bipush 64, 2, 0, 0, 0, 64, 0),
  (222, .aload_n 0, 1, 0, 0, 0, 0, 0),
  (223, .getfield 52, 3, 12, 33, 0, 0, 0),
  (226, .iload 7, 2, 7, 0, 0, 0, 0),
  (228, .iaload, 1, 0, 0, 0, 0, 0),
  (229, .imul, 1, 0, 0, 0, 0, 0),
  (230, .iadd, 1, 0, 0, 0, 0, 0),
  (231, .iload 5, 2, 5, 0, 0, 0, 0),
  (233, .ifCond .ne 17, 3, 250, 0, 0, 0, 0),
  (236, .iconst 4, 1, 0, 0, 0, 4, 0),
  (237, .iload 4, 2, 4, 0, 0, 0, 0),
  (239, .sipush 1024, 3, 0, 0, 0, 1024, 0),
  (242, .idiv, 1, 0, 0, 0, 0, 0),
  (243, .imul, 1, 0, 0, 0, 0, 0),
  (244, .iload 7, 2, 7, 0, 0, 0, 0),
  (246, .iadd, 1, 0, 0, 0, 0, 0),
  (247, .goto 4, 3, 251, 0, 0, 0, 0),
  (250, .iconst 0, 1, 0, 0, 0, 0, 0),
  (251, .iadd, 1, 0, 0, 0, 0, 0),
  (252, .invokevirtual 329, 3, 164, 2, 0, 0, 0),
  (255, .iinc 7 1, 3, 7, 0, 0, 1, 0),
  (258, .goto (-66), 3, 192, 0, 0, 0, 0),
  (261, .goto (-188), 3, 73, 0, 0, 0, 0),
  (264, .iload_n 3, 1, 3, 0, 0, 0, 0),
  (265, .ldc 123, 2, 0, 0, 0, (-1000000), 0),
  (267, .if_icmp .ne 6, 3, 273, 0, 0, 0, 0),
  (270, .ldc 123, 2, 0, 0, 0, (-1000000), 0),
  (272, .ireturn, 1, 0, 0, 0, 0, 0),
  (273, .iload_n 2, 1, 2, 0, 0, 0, 0),
  (274, .ifCond .ne 10, 3, 284, 0, 0, 0, 0),
  (277, .iload_n 3, 1, 3, 0, 0, 0, 0),
  (278, .bipush 64, 2, 0, 0, 0, 64, 0),
  (280, .idiv, 1, 0, 0, 0, 0, 0),
  (281, .goto 16, 3, 297, 0, 0, 0, 0),
  (284, .iload_n 3, 1, 3, 0, 0, 0, 0),
  (285, .ifCond .ne 8, 3, 293, 0, 0, 0, 0),
  (288, .ldc 123, 2, 0, 0, 0, (-1000000), 0),
  (290, .goto 7, 3, 297, 0, 0, 0, 0),
  (293, .iload_n 3, 1, 3, 0, 0, 0, 0),
  (294, .bipush 64, 2, 0, 0, 0, 64, 0),
  (296, .irem, 1, 0, 0, 0, 0, 0),
  (297, .ireturn, 1, 0, 0, 0, 0, 0)]
def hbk166 : List (Nat × hbR) := [(0, .iload_n 2, 1, 2, 0, 0, 0, 0),
  (1, .ifCond .ne 11, 3, 12, 0, 0, 0, 0),
  (4, .aload_n 0, 1, 0, 0, 0, 0, 0),
  (5, .iload_n 1, 1, 1, 0, 0, 0, 0),
  (6, .invokevirtual 265, 3, 142, 1, 0, 0, 0),
  (9, .goto 26, 3, 35, 0, 0, 0, 0),
  (12, .aload_n 0, 1, 0, 0, 0, 0, 0),
  (13, .iload_n 1, 1, 1, 0, 0, 0, 0),
  (14, .iload_n 2, 1, 2, 0, 0, 0, 0),
  (15, .iconst 1, 1, 0, 0, 0, 1, 0),
  (16, .isub, 1, 0, 0, 0, 0, 0),
  (17, .iload_n 1, 1, 1, 0, 0, 0, 0),
  (18, .iload_n 2, 1, 2, 0, 0, 0, 0),
  (19, .iconst 1, 1, 0, 0, 0, 1, 0),
  (20, .isub, 1, 0, 0, 0, 0, 0),
  (21, .ishr, 1, 0, 0, 0, 0, 0),
  (22, .iconst 1, 1, 0, 0, 0, 1, 0),
  (23, .iand, 1, 0, 0, 0, 0, 0),
  (24, .ifCond .ne 7, 3, 31, 0, 0, 0, 0),
  (27, .iconst 1, 1, 0, 0, 0, 1, 0),
  (28, .goto 4, 3, 32, 0, 0, 0, 0),
  (31, .iconst 0, 1, 0, 0, 0, 0, 0),
  (32, .invokevirtual 286, 3, 150, 3, 0, 0, 0),
  (35, .ireturn, 1, 0, 0, 0, 0, 0)]
def hbk167 : List (Nat × hbR) := [(0, .aload_n 0, 1, 0, 0, 0, 0, 0),
  (1, .iconst 0, 1, 0, 0, 0, 0, 0),
  (2, .putfield 87, 3, 12, 0, 0, 0, 0),
  (5, .iload_n 1, 1, 1, 0, 0, 0, 0),
  (6, .invokestatic 262, 3, 136, 1, 0, 0, 0),
  (9, .ifCond .eq 13, 3, 22, 0, 0, 0, 0),
  (12, .iload_n 2, 1, 2, 0, 0, 0, 0),
  (13, .i2l, 1, 0, 0, 0, 0, 0),
  (14, .lconst 0, 1, 0, 0, 0, 0, 0),
  (15, .lconst 1, 1, 0, 0, 0, 0, 1),
  (16, .invokestatic 97, 3, 112, 3, 0, 0, 0),
  (19, .ifCond .ne 6, 3, 25, 0, 0, 0, 0),
  (22, .ldc 107, 2, 0, 0, 0, (-1000001), 0),
  (24, .ireturn, 1, 0, 0, 0, 0, 0),
  (25, .iconst 0, 1, 0, 0, 0, 0, 0),
  (26, .istore_n 3, 1, 3, 0, 0, 0, 0),
  (27, .iload_n 3, 1, 3, 0, 0, 0, 0),
  (28, .sipush 1024, 3, 0, 0, 0, 1024, 0),
  (31, .if_icmp .ge 29, 3, 60, 0, 0, 0, 0),
  (34, .aload_n 0, 1, 0, 0, 0, 0, 0),
  (35, .getfield 75, 3, 12, 44, 0, 0, 0),
  (38, .iload_n 3, 1, 3, 0, 0, 0, 0),
  (39, .aload_n 0, 1, 0, 0, 0, 0, 0),
  (40, .iload_n 3, 1, 3, 0, 0, 0, 0),
  (41, .invokevirtual 278, 3, 147, 1, 0, 0, 0),
  (44, .ifCond .eq 7, 3, 51, 0, 0, 0, 0),
  (47, .iconst 0, 1, 0, 0, 0, 0, 0),
  (48, .goto 5, 3, 53, 0, 0, 0, 0),
  (51, .ldc 123, 2, 0, 0, 0, (-1000000), 0),
  (53, .iastore, 1, 0, 0, 0, 0, 0),
  (54, .iinc 3 1, 3, 3, 0, 0, 1, 0),
  (57, .goto (-30), 3, 27, 0, 0, 0, 0),
  (60, .iconst 1, 1, 0, 0, 0, 1, 0),
  (61, .istore_n 3, 1, 3, 0, 0, 0, 0),
  (62, .iconst 1, 1, 0, 0, 0, 1, 0),
  (63, .istore 4, 2, 4, 0, 0, 0, 0),
  (65, .iload_n 3, 1, 3, 0, 0, 0, 0),
  (66, .ifCond .eq 95, 3, 161, 0, 0, 0, 0),
  (69, .iconst 0, 1, 0, 0, 0, 0, 0),
  (70, .istore_n 3, 1, 3, 0, 0, 0, 0),
  (71, .iconst 0, 1, 0, 0, 0, 0, 0),
  (72, .istore 5, 2, 5, 0, 0, 0, 0),
  (74, .iload 5, 2, 5, 0, 0, 0, 0),
  (76, .sipush 1024, 3, 0, 0, 0, 1024, 0),
  (79, .if_icmp .ge 76, 3, 155, 0, 0, 0, 0),
  (82, .iconst 0, 1, 0, 0, 0, 0, 0),
  (83, .istore 6, 2, 6, 0, 0, 0, 0),
  (85, .iload 6, 2, 6, 0, 0, 0, 0),
  (87, .iconst 5, 1, 0, 0, 0, 5, 0),
  (88, .if_icmp .ge 61, 3, 149, 0, 0, 0, 0),
  (91, .aload_n 0, 1, 0, 0, 0, 0, 0),
  (92, .getfield 75, 3, 12, 44, 0, 0, 0),
  (95, .iload 5, 2, 5, 0, 0, 0, 0),
  (97, .iaload, 1, 0, 0, 0, 0, 0),
  (98, .ldc 123, 2, 0, 0, 0, (-1000000), 0),
  (100, .if_icmp .ne 49, 3, 149, 0, 0, 0, 0),
  (103, .aload_n 0, 1, 0, 0, 0, 0, 0),
  (104, .iload 5, 2, 5, 0, 0, 0, 0),
  (106, .invokevirtual 275, 3, 146, 1, 0, 0, 0),
  (109, .ifCond .ne 40, 3, 149, 0, 0, 0, 0),
  (112, .aload_n 0, 1, 0, 0, 0, 0, 0),
  (113, .getfield 75, 3, 12, 44, 0, 0, 0),
  (116, .aload_n 0, 1, 0, 0, 0, 0, 0),
  (117, .iload 5, 2, 5, 0, 0, 0, 0),
  (119, .iload 6, 2, 6, 0, 0, 0, 0),
  (121, .invokevirtual 332, 3, 166, 2, 0, 0, 0),
  (124, .iaload, 1, 0, 0, 0, 0, 0),
  (125, .iload 4, 2, 4, 0, 0, 0, 0),
  (127, .iconst 1, 1, 0, 0, 0, 1, 0),
  (128, .isub, 1, 0, 0, 0, 0, 0),
  (129, .if_icmp .ne 14, 3, 143, 0, 0, 0, 0),
  (132, .aload_n 0, 1, 0, 0, 0, 0, 0),
  (133, .getfield 75, 3, 12, 44, 0, 0, 0),
  (136, .iload 5, 2, 5, 0, 0, 0, 0),
  (138, .iload 4, 2, 4, 0, 0, 0, 0),
  (140, .iastore, 1, 0, 0, 0, 0, 0),
  (141, .iconst 1, 1, 0, 0, 0, 1, 0),
  (142, .istore_n 3, 1, 3, 0, 0, 0, 0),
  (143, .iinc 6 1, 3, 6, 0, 0, 1, 0),
  (146, .goto (-61), 3, 85, 0, 0, 0, 0),
  (149, .iinc 5 1, 3, 5, 0, 0, 1, 0),
  (152, .goto (-78), 3, 74, 0, 0, 0, 0),
  (155, .iinc 4 1, 3, 4, 0, 0, 1, 0),
  (158, .goto (-93), 3, 65, 0, 0, 0, 0),
  (161, .iload_n 2, 1, 2, 0, 0, 0, 0),
  (162, .ifCond .eq 23, 3, 185, 0, 0, 0, 0),
  (165, .aload_n 0, 1, 0, 0, 0, 0, 0),
  (166, .getfield 75, 3, 12, 44, 0, 0, 0),
  (169, .iload_n 1, 1, 1, 0, 0, 0, 0),
  (170, .iaload, 1, 0, 0, 0, 0, 0),
  (171, .ldc 123, 2, 0, 0, 0, (-1000000), 0),
  (173, .if_icmp .eq 12, 3, 185, 0, 0, 0, 0),
  (176, .aload_n 0, 1, 0, 0, 0, 0, 0),
  (177, .getfield 75, 3, 12, 44, 0, 0, 0),
  (180, .iload_n 1, 1, 1, 0, 0, 0, 0),
  (181, .iaload, 1, 0, 0, 0, 0, 0),
  (182, .ifCond .ne 19, 3, 201, 0, 0, 0, 0),
  (185, .iload_n 2, 1, 2, 0, 0, 0, 0),
  (186, .ifCond .ne 12, 3, 198, 0, 0, 0, 0),
  (189, .aload_n 0, 1, 0, 0, 0, 0, 0),
  (190, .getfield 75, 3, 12, 44, 0, 0, 0),
  (193, .iload_n 1, 1, 1, 0, 0, 0, 0),
  (194, .iaload, 1, 0, 0, 0, 0, 0),
  (195, .goto 5, 3, 200, 0, 0, 0, 0),
  (198, .ldc 123, 2, 0, 0, 0, (-1000000), 0),
  (200, .ireturn, 1, 0, 0, 0, 0, 0),
  (201, .iconst 0, 1, 0, 0, 0, 0, 0),
  (202, .istore 4, 2, 4, 0, 0, 0, 0),
  (204, .aload_n 0, 1, 0, 0, 0, 0, 0),
  (205, .getfield 75, 3, 12, 44, 0, 0, 0),
  (208, .aload_n 0, 1, 0, 0, 0, 0, 0),
  (209, .iload_n 1, 1, 1, 0, 0, 0, 0),
  (210, .iload 4, 2, 4, 0, 0, 0, 0),
  (212, .invokevirtual 332, 3, 166, 2, 0, 0, 0),
  (215, .iaload, 1, 0, 0, 0, 0, 0),
  (216, .aload_n 0, 1, 0, 0, 0, 0, 0),
  (217, .getfield 75, 3, 12, 44, 0, 0, 0),
  (220, .iload_n 1, 1, 1, 0, 0, 0, 0),
  (221, .iaload, 1, 0, 0, 0, 0, 0),
  (222, .iconst 1, 1, 0, 0, 0, 1, 0),
  (223, .isub, 1, 0, 0, 0, 0, 0),
  (224, .if_icmp .eq 9, 3, 233, 0, 0, 0, 0),
  (227, .iinc 4 1, 3, 4, 0, 0, 1, 0),
  (230, .goto (-26), 3, 204, 0, 0, 0, 0),
  (233, .iload 4, 2, 4, 0, 0, 0, 0),
  (235, .ireturn, 1, 0, 0, 0, 0, 0)]
def hbk168 : List (Nat × hbR) := [(0, .iload_n 1, 1, 1, 0, 0, 0, 0),
  (1, .istore 5, 2, 5, 0, 0, 0, 0),
  (3, .iconst 0, 1, 0, 0, 0, 0, 0),
  (4, .istore 6, 2, 6, 0, 0, 0, 0),
  (6, .iconst 0, 1, 0, 0, 0, 0, 0),
  (7, .istore 7, 2, 7, 0, 0, 0, 0),
  (9, .iload_n 2, 1, 2, 0, 0, 0, 0),
  (10, .ifCond .ge 7, 3, 17, 0, 0, 0, 0),
  (13, .iconst 1, 1, 0, 0, 0, 1, 0),
  (14, .goto 4, 3, 18, 0, 0, 0, 0),
  (17, .iconst 0, 1, 0, 0, 0, 0, 0),
  (18, .istore 8, 2, 8, 0, 0, 0, 0),
  (20, .aload 4, 2, 4, 0, 0, 0, 0),
  (22, .iconst 0, 1, 0, 0, 0, 0, 0),
  (23, .iload_n 1, 1, 1, 0, 0, 0, 0),
  (24, .iconst 4, 1, 0, 0, 0, 4, 0),
  (25, .ishr, 1, 0, 0, 0, 0, 0),
  (26, .iastore, 1, 0, 0, 0, 0, 0),
  (27, .iload 6, 2, 6, 0, 0, 0, 0),
  (29, .bipush 50, 2, 0, 0, 0, 50, 0),
  (31, .if_icmp .ge 170, 3, 201, 0, 0, 0, 0),
  (34, .iload 7, 2, 7, 0, 0, 0, 0),
  (36, .bipush 40, 2, 0, 0, 0, 40, 0),
  (38, .if_icmp .ge 163, 3, 201, 0, 0, 0, 0),
  (41, .aload_n 0, 1, 0, 0, 0, 0, 0),
  (42, .iload 5, 2, 5, 0, 0, 0, 0),
  (44, .sipush 1024, 3, 0, 0, 0, 1024, 0),
  (47, .idiv, 1, 0, 0, 0, 0, 0),
  (48, .invokevirtual 283, 3, 151, 1, 0, 0, 0),
  (51, .ifCond .ne 150, 3, 201, 0, 0, 0, 0),
  (54, .iload 8, 2, 8, 0, 0, 0, 0),
  (56, .ifCond .ne 23, 3, 79, 0, 0, 0, 0),
  (59, .iload 5, 2, 5, 0, 0, 0, 0),
  (61, .sipush 1024, 3, 0, 0, 0, 1024, 0),
  (64, .idiv, 1, 0, 0, 0, 0, 0),
  (65, .iload_n 2, 1, 2, 0, 0, 0, 0),
  (66, .if_icmp .ne 13, 3, 79, 0, 0, 0, 0),
  (69, .aload_n 0, 1, 0, 0, 0, 0, 0),
  (70, .iload 5, 2, 5, 0, 0, 0, 0),
  (72, .iload_n 3, 1, 3, 0, 0, 0, 0),
  (73, .invokevirtual 298, 3, 153, 2, 0, 0, 0),
  (76, .goto 5, 3, 81, 0, 0, 0, 0),
  (79, .ldc 123, 2, 0, 0, 0, (-1000000), 0),
  (81, .istore 9, 2, 9, 0, 0, 0, 0),
  (83, .iload 9, 2, 9, 0, 0, 0, 0),
  (85, .ldc 123, 2, 0, 0, 0, (-1000000), 0),
  (87, .if_icmp .ne 12, 3, 99, 0, 0, 0, 0),
  (90, .aload_n 0, 1, 0, 0, 0, 0, 0),
  (91, .iload 5, 2, 5, 0, 0, 0, 0),
  (93, .invokevirtual 301, 3, 157, 1, 0, 0, 0),
  (96, .goto 18, 3, 114, 0, 0, 0, 0),
  (99, .iload_n 3, 1, 3, 0, 0, 0, 0),
  (100, .iconst 1, 1, 0, 0, 0, 1, 0),
  (101, .if_icmp .eq 8, 3, 109, 0, 0, 0, 0),
  (104, .iload_n 3, 1, 3, 0, 0, 0, 0),
  (105, .iconst 2, 1, 0, 0, 0, 2, 0),
  (106, .if_icmp .ne 7, 3, 113, 0, 0, 0, 0),
  (109, .iconst 1, 1, 0, 0, 0, 1, 0),
  (110, .goto 4, 3, 114, 0, 0, 0, 0),
  (113, .iconst 0, 1, 0, 0, 0, 0, 0),
  (114, .istore 10, 2, 10, 0, 0, 0, 0),
  (116, .iload 8, 2, 8, 0, 0, 0, 0),
  (118, .ifCond .ne 10, 3, 128, 0, 0, 0, 0),
  (121, .iload 9, 2, 9, 0, 0, 0, 0),
  (123, .ldc 123, 2, 0, 0, 0, (-1000000), 0),
  (125, .if_icmp .eq 7, 3, 132, 0, 0, 0, 0),
  (128, .iconst 1, 1, 0, 0, 0, 1, 0),
  (129, .goto 4, 3, 133, 0, 0, 0, 0),
  (132, .iconst 0, 1, 0, 0, 0, 0, 0),
  (133, .istore 8, 2, 8, 0, 0, 0, 0),
  (135, .iload 9, 2, 9, 0, 0, 0, 0),
  (137, .ldc 123, 2, 0, 0, 0, (-1000000), 0),
  (139, .if_icmp .ne 12, 3, 151, 0, 0, 0, 0),
  (142, .aload_n 0, 1, 0, 0, 0, 0, 0),
  (143, .iload 5, 2, 5, 0, 0, 0, 0),
  (145, .invokevirtual 295, 3, 152, 1, 0, 0, 0),
  (148, .goto 5, 3, 153, 0, 0, 0, 0),
  (151, .iload 9, 2, 9, 0, 0, 0, 0),
  (153, .istore 5, 2, 5, 0, 0, 0, 0),
  (155, .iload 10, 2, 10, 0, 0, 0, 0),
  (157, .ifCond .eq 7, 3, 164, 0, 0, 0, 0),
  (160, .iconst 0, 1, 0, 0, 0, 0, 0),
  (161, .goto 7, 3, 168, 0, 0, 0, 0),
  (164, .iload 7, 2, 7, 0, 0, 0, 0),
  (166, .iconst 1, 1, 0, 0, 0, 1, 0),
  (167, .iadd, 1, 0, 0, 0, 0, 0),
  (168, .istore 7, 2, 7, 0, 0, 0, 0),
  (170, .iload 6, 2, 6, 0, 0, 0, 0),
  (172, .iload 10, 2, 10, 0, 0, 0, 0),
  (174, .ifCond .eq 7, 3, 181, 0, 0, 0, 0),
  (177, .iconst 1, 1, 0, 0, 0, 1, 0),
  (178, .goto 4, 3, 182, 0, 0, 0, 0),
  (181, .iconst 0, 1, 0, 0, 0, 0, 0),
  (182, .iadd, 1, 0, 0, 0, 0, 0),
  (183, .istore 6, 2, 6, 0, 0, 0, 0),
  (185, .aload 4, 2, 4, 0, 0, 0, 0),
  (187, .iload 6, 2, 6, 0, 0, 0, 0),
  (189, .iload 5, 2, 5, 0, 0, 0, 0),
  (191, .sipush 1024, 3, 0, 0, 0, 1024, 0),
  (194, .irem, 1, 0, 0, 0, 0, 0),
  (195, .iconst 4, 1, 0, 0, 0, 4, 0),
  (196, .ishr, 1, 0, 0, 0, 0, 0),
  (197, .iastore, 1, 0, 0, 0, 0, 0),
  (198, .goto (-171), 3, 27, 0, 0, 0, 0),
  (201, .iload 6, 2, 6, 0, 0, 0, 0),
  (203, .iconst 1, 1, 0, 0, 0, 1, 0),
  (204, .iadd, 1, 0, 0, 0, 0, 0),
  (205, .istore 9, 2, 9, 0, 0, 0, 0),
  (207, .iload 9, 2, 9, 0, 0, 0, 0),
  (209, .bipush 50, 2, 0, 0, 0, 50, 0),
  (211, .if_icmp .gt 19, 3, 230, 0, 0, 0, 0),
  (214, .aload 4, 2, 4, 0, 0, 0, 0),
  (216, .iload 9, 2, 9, 0, 0, 0, 0),
  (218, .aload 4, 2, 4, 0, 0, 0, 0),
  (220, .iload 6, 2, 6, 0, 0, 0, 0),
  (222, .iaload, 1, 0, 0, 0, 0, 0),
  (223, .iastore, 1, 0, 0, 0, 0, 0),
  (224, .iinc 9 1, 3, 9, 0, 0, 1, 0),
  (227, .goto (-20), 3, 207, 0, 0, 0, 0),
  (230, .return_, 1, 0, 0, 0, 0, 0)]
def hbk169 : List (Nat × hbR) := [(0, .aload_n 0, 1, 0, 0, 0, 0, 0),
  (1, .iconst 0, 1, 0, 0, 0, 0, 0),
  (2, .putfield 87, 3, 12, 0, 0, 0, 0),
  (5, .iload_n 1, 1, 1, 0, 0, 0, 0),
  (6, .invokestatic 262, 3, 136, 1, 0, 0, 0),
  (9, .ifCond .eq 26, 3, 35, 0, 0, 0, 0),
  (12, .iload_n 2, 1, 2, 0, 0, 0, 0),
  (13, .i2l, 1, 0, 0, 0, 0, 0),
  (14, .lconst 0, 1, 0, 0, 0, 0, 0),
  (15, .aload_n 0, 1, 0, 0, 0, 0, 0),
  (16, .getfield 235, 3, 12, 11, 0, 0, 0),
  (19, .iconst 1, 1, 0, 0, 0, 1, 0),
  (20, .isub, 1, 0, 0, 0, 0, 0),
  (21, .i2l, 1, 0, 0, 0, 0, 0),
  (22, .invokestatic 97, 3, 112, 3, 0, 0, 0),
  (25, .ifCond .eq 10, 3, 35, 0, 0, 0, 0),
  (28, .iload_n 3, 1, 3, 0, 0, 0, 0),
  (29, .invokestatic 250, 3, 137, 1, 0, 0, 0),
  (32, .ifCond .ne 6, 3, 38, 0, 0, 0, 0),
  (35, .ldc 107, 2, 0, 0, 0, (-1000001), 0),
  (37, .ireturn, 1, 0, 0, 0, 0, 0),
  (38, .aload_n 0, 1, 0, 0, 0, 0, 0),
  (39, .iload_n 1, 1, 1, 0, 0, 0, 0),
  (40, .ldc 123, 2, 0, 0, 0, (-1000000), 0),
  (42, .iconst 0, 1, 0, 0, 0, 0, 0),
  (43, .aload_n 0, 1, 0, 0, 0, 0, 0),
  (44, .getfield 78, 3, 12, 45, 0, 0, 0),
  (47, .invokevirtual 335, 3, 168, 4, 0, 0, 0),
  (50, .aload_n 0, 1, 0, 0, 0, 0, 0),
  (51, .iload_n 1, 1, 1, 0, 0, 0, 0),
  (52, .iload_n 2, 1, 2, 0, 0, 0, 0),
  (53, .iload_n 3, 1, 3, 0, 0, 0, 0),
  (54, .aload_n 0, 1, 0, 0, 0, 0, 0),
  (55, .getfield 81, 3, 12, 46, 0, 0, 0),
  (58, .invokevirtual 335, 3, 168, 4, 0, 0, 0),
  (61, .iconst 1, 1, 0, 0, 0, 1, 0),
  (62, .istore 4, 2, 4, 0, 0, 0, 0),
  (64, .iload 4, 2, 4, 0, 0, 0, 0),
  (66, .bipush 50, 2, 0, 0, 0, 50, 0),
  (68, .if_icmp .gt 29, 3, 97, 0, 0, 0, 0),
  (71, .aload_n 0, 1, 0, 0, 0, 0, 0),
  (72, .getfield 78, 3, 12, 45, 0, 0, 0),
  (75, .iload 4, 2, 4, 0, 0, 0, 0),
  (77, .iaload, 1, 0, 0, 0, 0, 0),
  (78, .aload_n 0, 1, 0, 0, 0, 0, 0),
  (79, .getfield 81, 3, 12, 46, 0, 0, 0),
  (82, .iload 4, 2, 4, 0, 0, 0, 0),
  (84, .iaload, 1, 0, 0, 0, 0, 0),
  (85, .if_icmp .eq 6, 3, 91, 0, 0, 0, 0),
  (88, .iload 4, 2, 4, 0, 0, 0, 0),
  (90, .ireturn, 1, 0, 0, 0, 0, 0),
  (91, .iinc 4 1, 3, 4, 0, 0, 1, 0),
  (94, .goto (-30), 3, 64, 0, 0, 0, 0),
  (97, .ldc 123, 2, 0, 0, 0, (-1000000), 0),
  (99, .ireturn, 1, 0, 0, 0, 0, 0)]
def hbk170 : List (Nat × hbR) := [(0, .aload_n 0, 1, 0, 0, 0, 0, 0),
  (1, .getfield 255, 3, 12, 34, 0, 0, 0),
  (4, .istore_n 3, 1, 3, 0, 0, 0, 0),
  (5, .aload_n 0, 1, 0, 0, 0, 0, 0),
  (6, .dup, 1, 0, 0, 0, 0, 0),
  (7, .getfield 255, 3, 12, 34, 0, 0, 0),
  (10, .iload_n 2, 1, 2, 0, 0, 0, 0),
  (11, .ior, 1, 0, 0, 0, 0, 0),
  (12, .putfield 255, 3, 12, 34, 0, 0, 0),
  (15, .aload_n 0, 1, 0, 0, 0, 0, 0),
  (16, .iload_n 1, 1, 1, 0, 0, 0, 0),
  (17, .iconst 1, 1, 0, 0, 0, 1, 0),
  (18, .invokevirtual 312, 3, 160, 2, 0, 0, 0),
  (21, .aload_n 0, 1, 0, 0, 0, 0, 0),
  (22, .invokevirtual 316, 3, 161, 0, 0, 0, 0),
  (25, .ifCond .ne 7, 3, 32, 0, 0, 0, 0),
  (28, .iconst 1, 1, 0, 0, 0, 1, 0),
  (29, .goto 4, 3, 33, 0, 0, 0, 0),
  (32, .iconst 0, 1, 0, 0, 0, 0, 0),
  (33, .istore 4, 2, 4, 0, 0, 0, 0),
  (35, .aload_n 0, 1, 0, 0, 0, 0, 0),
  (36, .iload_n 3, 1, 3, 0, 0, 0, 0),
  (37, .putfield 255, 3, 12, 34, 0, 0, 0),
  (40, .iload 4, 2, 4, 0, 0, 0, 0),
  (42, .ireturn, 1, 0, 0, 1, 0, 0)]
def hbk171 : List (Nat × hbR) := [(0, .iconst 1, 1, 0, 0, 0, 1, 0),
  (1, .iload_n 0, 1, 0, 0, 0, 0, 0),
  (2, .ishl, 1, 0, 0, 0, 0, 0),
  (3, .ireturn, 1, 0, 0, 0, 0, 0)]
def hbk172 : List (Nat × hbR) := [(0, .iload_n 1, 1, 1, 0, 0, 0, 0),
  (1, .iconst 4, 1, 0, 0, 0, 4, 0),
  (2, .idiv, 1, 0, 0, 0, 0, 0),
  (3, .iload_n 1, 1, 1, 0, 0, 0, 0),
  (4, .iconst 4, 1, 0, 0, 0, 4, 0),
  (5, .irem, 1, 0, 0, 0, 0, 0),
  (6, .if_icmp .eq 18, 3, 24, 0, 0, 0, 0),
  (9, .aload_n 0, 1, 0, 0, 0, 0, 0),
  (10, .getfield 255, 3, 12, 34, 0, 0, 0),
  (13, .iload_n 1, 1, 1, 0, 0, 0, 0),
  (14, .ishr, 1, 0, 0, 0, 0, 0),
  (15, .iconst 1, 1, 0, 0, 0, 1, 0),
  (16, .iand, 1, 0, 0, 0, 0, 0),
  (17, .ifCond .ne 7, 3, 24, 0, 0, 0, 0),
  (20, .iconst 1, 1, 0, 0, 0, 1, 0),
  (21, .goto 4, 3, 25, 0, 0, 0, 0),
  (24, .iconst 0, 1, 0, 0, 0, 0, 0),
  (25, .ireturn, 1, 0, 0, 1, 0, 0)]
def hbk173 : List (Nat × hbR) := [(0, .aload_n 0, 1, 0, 0, 0, 0, 0),
  (1, .iconst 0, 1, 0, 0, 0, 0, 0),
  (2, .putfield 87, 3, 12, 0, 0, 0, 0),
  (5, .iload_n 1, 1, 1, 0, 0, 0, 0),
  (6, .invokestatic 262, 3, 136, 1, 0, 0, 0),
  (9, .ifCond .eq 13, 3, 22, 0, 0, 0, 0),
  (12, .iload_n 2, 1, 2, 0, 0, 0, 0),
  (13, .i2l, 1, 0, 0, 0, 0, 0),
  (14, .lconst 0, 1, 0, 0, 0, 0, 0),
  (15, .lconst 1, 1, 0, 0, 0, 0, 1),
  (16, .invokestatic 97, 3, 112, 3, 0, 0, 0),
  (19, .ifCond .ne 6, 3, 25, 0, 0, 0, 0),
  (22, .ldc 107, 2, 0, 0, 0, (-1000001), 0),
  (24, .ireturn, 1, 0, 0, 0, 0, 0),
  (25, .aload_n 0, 1, 0, 0, 0, 0, 0),
  (26, .iload_n 1, 1, 1, 0, 0, 0, 0),
  (27, .iconst 0, 1, 0, 0, 0, 0, 0),
  (28, .invokevirtual 339, 3, 170, 2, 0, 0, 0),
  (31, .ifCond .eq 5, 3, 36, 0, 0, 0, 0),
  (34, .iconst 0, 1, 0, 0, 0, 0, 0),
  (35, .ireturn, 1, 0, 0, 0, 0, 0),
  (36, .iconst 0, 1, 0, 0, 0, 0, 0),
  (37, .istore_n 3, 1, 3, 0, 0, 0, 0),
  (38, .iload_n 3, 1, 3, 0, 0, 0, 0),
  (39, .bipush 16, 2, 0, 0, 0, 16, 0),
  (41, .if_icmp .ge 42, 3, 83, 0, 0, 0, 0),
  (44, .aload_n 0, 1, 0, 0, 0, 0, 0),
  (45, .iload_n 3, 1, 3, 0, 0, 0, 0),
  (46, .invokevirtual 342, 3, 172, 1, 0, 0, 0),
  (49, .ifCond .eq 28, 3, 77, 0, 0, 0, 0),
  (52, .aload_n 0, 1, 0, 0, 0, 0, 0),
  (53, .iload_n 1, 1, 1, 0, 0, 0, 0),
  (54, .iload_n 3, 1, 3, 0, 0, 0, 0),
  (55, .invokestatic 345, 3, 171, 1, 0, 0, 0),
  (58, .invokevirtual 339, 3, 170, 2, 0, 0, 0),
  (61, .ifCond .eq 16, 3, 77, 0, 0, 0, 0),
  (64, .iload_n 2, 1, 2, 0, 0, 0, 0),
  (65, .ifCond .ne 7, 3, 72, 0, 0, 0, 0),
  (68, .iconst 1, 1, 0, 0, 0, 1, 0),
  (69, .goto 7, 3, 76, 0, 0, 0, 0),
  (72, .iload_n 3, 1, 3, 0, 0, 0, 0),
  (73, .invokestatic 345, 3, 171, 1, 0, 0, 0),
  (76, .ireturn, 1, 0, 0, 0, 0, 0),
  (77, .iinc 3 1, 3, 3, 0, 0, 1, 0),
  (80, .goto (-42), 3, 38, 0, 0, 0, 0),
  (83, .iconst 0, 1, 0, 0, 0, 0, 0),
  (84, .istore_n 3, 1, 3, 0, 0, 0, 0),
  (85, .iload_n 3, 1, 3, 0, 0, 0, 0),
  (86, .bipush 16, 2, 0, 0, 0, 16, 0),
  (88, .if_icmp .ge 78, 3, 166, 0, 0, 0, 0),
  (91, .iconst 0, 1, 0, 0, 0, 0, 0),
  (92, .istore 4, 2, 4, 0, 0, 0, 0),
  (94, .iload 4, 2, 4, 0, 0, 0, 0),
  (96, .iload_n 3, 1, 3, 0, 0, 0, 0),
  (97, .if_icmp .ge 63, 3, 160, 0, 0, 0, 0),
  (100, .aload_n 0, 1, 0, 0, 0, 0, 0),
  (101, .iload_n 3, 1, 3, 0, 0, 0, 0),
  (102, .invokevirtual 342, 3, 172, 1, 0, 0, 0),
  (105, .ifCond .eq 49, 3, 154, 0, 0, 0, 0),
  (108, .aload_n 0, 1, 0, 0, 0, 0, 0),
  (109, .iload 4, 2, 4, 0, 0, 0, 0),
  (111, .invokevirtual 342, 3, 172, 1, 0, 0, 0),
  (114, .ifCond .eq 40, 3, 154, 0, 0, 0, 0),
  (117, .aload_n 0, 1, 0, 0, 0, 0, 0),
  (118, .iload_n 1, 1, 1, 0, 0, 0, 0),
  (119, .iload_n 3, 1, 3, 0, 0, 0, 0),
  (120, .invokestatic 345, 3, 171, 1, 0, 0, 0),
  (123, .iload 4, 2, 4, 0, 0, 0, 0),
  (125, .invokestatic 345, 3, 171, 1, 0, 0, 0),
  (128, .ior, 1, 0, 0, 0, 0, 0),
  (129, .invokevirtual 339, 3, 170, 2, 0, 0, 0),
  (132, .ifCond .eq 22, 3, 154, 0, 0, 0, 0),
  (135, .iload_n 2, 1, 2, 0, 0, 0, 0),
  (136, .ifCond .ne 7, 3, 143, 0, 0, 0, 0),
  (139, .iconst 2, 1, 0, 0, 0, 2, 0),
  (140, .goto 13, 3, 153, 0, 0, 0, 0),
  (143, .iload_n 3, 1, 3, 0, 0, 0, 0),
  (144, .invokestatic 345, 3, 171, 1, 0, 0, 0),
  (147, .iload 4, 2, 4, 0, 0, 0, 0),
  (149, .invokestatic 345, 3, 171, 1, 0, 0, 0),
  (152, .ior, 1, 0, 0, 0, 0, 0),
  (153, .ireturn, 1, 0, 0, 0, 0, 0),
  (154, .iinc 4 1, 3, 4, 0, 0, 1, 0),
  (157, .goto (-63), 3, 94, 0, 0, 0, 0),
  (160, .iinc 3 1, 3, 3, 0, 0, 1, 0),
  (163, .goto (-78), 3, 85, 0, 0, 0, 0),
  (166, .ldc 123, 2, 0, 0, 0, (-1000000), 0),
  (168, .ireturn, 1, 0, 0, 0, 0, 0)]
def hbk174 : List (Nat × hbR) := [(0, .iload_n 1, 1, 1, 0, 0, 0, 0),
  (1, .i2l, 1, 0, 0, 0, 0, 0),
  (2, .lconst 0, 1, 0, 0, 0, 0, 0),
  (3, .aload_n 0, 1, 0, 0, 0, 0, 0),
  (4, .getfield 235, 3, 12, 11, 0, 0, 0),
  (7, .iconst 1, 1, 0, 0, 0, 1, 0),
  (8, .isub, 1, 0, 0, 0, 0, 0),
  (9, .i2l, 1, 0, 0, 0, 0, 0),
  (10, .invokestatic 97, 3, 112, 3, 0, 0, 0),
  (13, .ireturn, 1, 0, 0, 1, 0, 0)]
def hbk175 : List (Nat × hbR) := [(0, .aload_n 0, 1, 0, 0, 0, 0, 0),
  (1, .getfield 40, 3, 12, 20, 0, 0, 0),
  (4, .iload_n 1, 1, 1, 0, 0, 0, 0),
  (5, .iaload, 1, 0, 0, 0, 0, 0),
  (6, .ifCond .ne 7, 3, 13, 0, 0, 0, 0),
  (9, .iconst 2, 1, 0, 0, 0, 2, 0),
  (10, .goto 47, 3, 57, 0, 0, 0, 0),
  (13, .aload_n 0, 1, 0, 0, 0, 0, 0),
  (14, .getfield 40, 3, 12, 20, 0, 0, 0),
  (17, .iload_n 1, 1, 1, 0, 0, 0, 0),
  (18, .iaload, 1, 0, 0, 0, 0, 0),
  (19, .iconst 1, 1, 0, 0, 0, 1, 0),
  (20, .if_icmp .ne 7, 3, 27, 0, 0, 0, 0),
  (23, .iconst 1, 1, 0, 0, 0, 1, 0),
  (24, .goto 33, 3, 57, 0, 0, 0, 0),
  (27, .aload_n 0, 1, 0, 0, 0, 0, 0),
  (28, .getfield 40, 3, 12, 20, 0, 0, 0),
  (31, .iload_n 1, 1, 1, 0, 0, 0, 0),
  (32, .iaload, 1, 0, 0, 0, 0, 0),
  (33, .iconst 4, 1, 0, 0, 0, 4, 0),
  (34, .if_icmp .ne 7, 3, 41, 0, 0, 0, 0),
  (37, .iconst 3, 1, 0, 0, 0, 3, 0),
  (38, .goto 19, 3, 57, 0, 0, 0, 0),
  (41, .aload_n 0, 1, 0, 0, 0, 0, 0),
  (42, .getfield 40, 3, 12, 20, 0, 0, 0),
  (45, .iload_n 1, 1, 1, 0, 0, 0, 0),
  (46, .iaload, 1, 0, 0, 0, 0, 0),
  (47, .bipush 7, 2, 0, 0, 0, 7, 0),
  (49, .if_icmp .ne 7, 3, 56, 0, 0, 0, 0),
  (52, .iconst 5, 1, 0, 0, 0, 5, 0),
  (53, .goto 4, 3, 57, 0, 0, 0, 0),
  (56, .iconst 4, 1, 0, 0, 0, 4, 0),
  (57, .ireturn, 1, 0, 0, 0, 0, 0)]
def hbk176 : List (Nat × hbR) := [(0, .iload_n 1, 1, 1, 0, 0, 0, 0),
  (1, .ifCond .eq 28, 3, 29, 0, 0, 0, 0),
  (4, .iload_n 0, 1, 0, 0, 0, 0, 0),
  (5, .iload_n 1, 1, 1, 0, 0, 0, 0),
  (6, .if_icmp .eq 23, 3, 29, 0, 0, 0, 0),
  (9, .iload_n 1, 1, 1, 0, 0, 0, 0),
  (10, .iconst 1, 1, 0, 0, 0, 1, 0),
  (11, .if_icmp .ne 8, 3, 19, 0, 0, 0, 0),
  (14, .iload_n 0, 1, 0, 0, 0, 0, 0),
  (15, .iconst 2, 1, 0, 0, 0, 2, 0),
  (16, .if_icmp .eq 13, 3, 29, 0, 0, 0, 0),
  (19, .iload_n 1, 1, 1, 0, 0, 0, 0),
  (20, .iconst 4, 1, 0, 0, 0, 4, 0),
  (21, .if_icmp .ne 12, 3, 33, 0, 0, 0, 0),
  (24, .iload_n 0, 1, 0, 0, 0, 0, 0),
  (25, .iconst 5, 1, 0, 0, 0, 5, 0),
  (26, .if_icmp .ne 7, 3, 33, 0, 0, 0, 0),
  (29, .iconst 1, 1, 0, 0, 0, 1, 0),
  (30, .goto 4, 3, 34, 0, 0, 0, 0),
  (33, .iconst 0, 1, 0, 0, 0, 0, 0),
  (34, .ireturn, 1, 0, 0, 1, 0, 0)]
def hbk177 : List (Nat × hbR) := [(0, .aload_n 0, 1, 0, 0, 0, 0, 0),
  (1, .iconst 0, 1, 0, 0, 0, 0, 0),
  (2, .putfield 87, 3, 12, 0, 0, 0, 0),
  (5, .aload_n 0, 1, 0, 0, 0, 0, 0),
  (6, .iload_n 1, 1, 1, 0, 0, 0, 0),
  (7, .invokevirtual 348, 3, 174, 1, 0, 0, 0),
  (10, .ifCond .eq 11, 3, 21, 0, 0, 0, 0),
  (13, .aload_n 0, 1, 0, 0, 0, 0, 0),
  (14, .iload_n 1, 1, 1, 0, 0, 0, 0),
  (15, .invokevirtual 351, 3, 175, 1, 0, 0, 0),
  (18, .goto 5, 3, 23, 0, 0, 0, 0),
  (21, .ldc 107, 2, 0, 0, 0, (-1000001), 0),
  (23, .ireturn, 1, 0, 0, 0, 0, 0)]
def hbk178 : List (Nat × hbR) := [(0, .aload_n 0, 1, 0, 0, 0, 0, 0),
  (1, .iconst 0, 1, 0, 0, 0, 0, 0),
  (2, .putfield 87, 3, 12, 0, 0, 0, 0),
  (5, .aload_n 0, 1, 0, 0, 0, 0, 0),
  (6, .iload_n 1, 1, 1, 0, 0, 0, 0),
  (7, .invokevirtual 348, 3, 174, 1, 0, 0, 0),
  (10, .ifCond .eq 15, 3, 25, 0, 0, 0, 0),
  (13, .iload_n 2, 1, 2, 0, 0, 0, 0),
  (14, .i2l, 1, 0, 0, 0, 0, 0),
  (15, .lconst 0, 1, 0, 0, 0, 0, 0),
  (16, .ldc2_w 354, 3, 0, 0, 0, 0, 5),
  (19, .invokestatic 97, 3, 112, 3, 0, 0, 0),
  (22, .ifCond .ne 6, 3, 28, 0, 0, 0, 0),
  (25, .ldc 107, 2, 0, 0, 0, (-1000001), 0),
  (27, .ireturn, 1, 0, 0, 0, 0, 0),
  (28, .aload_n 0, 1, 0, 0, 0, 0, 0),
  (29, .iconst 0, 1, 0, 0, 0, 0, 0),
  (30, .putfield 91, 3, 12, 1, 0, 0, 0),
  (33, .aload_n 0, 1, 0, 0, 0, 0, 0),
  (34, .iload_n 1, 1, 1, 0, 0, 0, 0),
  (35, .invokevirtual 351, 3, 175, 1, 0, 0, 0),
  (38, .iload_n 2, 1, 2, 0, 0, 0, 0),
  (39, .invokestatic 356, 3, 176, 2, 0, 0, 0),
  (42, .ifCond .eq 7, 3, 49, 0, 0, 0, 0),
  (45, .iload_n 1, 1, 1, 0, 0, 0, 0),
  (46, .goto 8, 3, 54, 0, 0, 0, 0),
  (49, .aload_n 0, 1, 0, 0, 0, 0, 0),
  (50, .iconst 3, 1, 0, 0, 0, 3, 0),
  (51, .invokevirtual 108, 3, 113, 1, 0, 0, 0),
  (54, .ireturn, 1, 0, 0, 0, 0, 0)]
def hbk179 : List (Nat × hbR) := [(0, .aload_n 0, 1, 0, 0, 0, 0, 0),
  (1, .getfield 359, 3, 12, 48, 0, 0, 0),
  (4, .bipush 16, 2, 0, 0, 0, 16, 0),
  (6, .if_icmp .ge 23, 3, 29, 0, 0, 0, 0),
  (9, .aload_n 0, 1, 0, 0, 0, 0, 0),
  (10, .getfield 84, 3, 12, 47, 0, 0, 0),
  (13, .aload_n 0, 1, 0, 0, 0, 0, 0),
  (14, .getfield 359, 3, 12, 48, 0, 0, 0),
  (17, .iload_n 1, 1, 1, 0, 0, 0, 0),
  (18, .iastore, 1, 0, 0, 0, 0, 0),
  (19, .aload_n 0, 1, 0, 0, 0, 0, 0),
  (20, .dup, 1, 0, 0, 0, 0, 0),
  (21, .getfield 359, 3, 12, 48, 0, 0, 0),
  (24, .iconst 1, 1, 0, 0, 0, 1, 0),
  (25, .iadd, 1, 0, 0, 0, 0, 0),
  (26, .putfield 359, 3, 12, 48, 0, 0, 0),
  (29, .return_, 1, 0, 0, 0, 0, 0)]
def hbk180 : List (Nat × hbR) := [(0, .aload_n 0, 1, 0, 0, 0, 0, 0),
  (1, .bipush 10, 2, 0, 0, 0, 10, 0),
  (3, .invokevirtual 362, 3, 179, 1, 0, 0, 0),
  (6, .iconst 0, 1, 0, 0, 0, 0, 0),
  (7, .istore_n 2, 1, 2, 0, 0, 0, 0),
  (8, .iconst 0, 1, 0, 0, 0, 0, 0),
  (9, .istore_n 3, 1, 3, 0, 0, 0, 0),
  (10, .iload_n 3, 1, 3, 0, 0, 0, 0),
  (11, .aload_n 0, 1, 0, 0, 0, 0, 0),
  (12, .getfield 235, 3, 12, 11, 0, 0, 0),
  (15, .if_icmp .ge 48, 3, 63, 0, 0, 0, 0),
  (18, .iload_n 2, 1, 2, 0, 0, 0, 0),
  (19, .aload_n 0, 1, 0, 0, 0, 0, 0),
  (20, .getfield 40, 3, 12, 20, 0, 0, 0),
  (23, .iload_n 3, 1, 3, 0, 0, 0, 0),
  (24, .iaload, 1, 0, 0, 0, 0, 0),
  (25, .iconst 5, 1, 0, 0, 0, 5, 0),
  (26, .if_icmp .eq 14, 3, 40, 0, 0, 0, 0),
  (29, .aload_n 0, 1, 0, 0, 0, 0, 0),
  (30, .getfield 40, 3, 12, 20, 0, 0, 0),
  (33, .iload_n 3, 1, 3, 0, 0, 0, 0),
  (34, .iaload, 1, 0, 0, 0, 0, 0),
  (35, .bipush 6, 2, 0, 0, 0, 6, 0),
  (37, .if_icmp .ne 17, 3, 54, 0, 0, 0, 0),
  (40, .aload_n 0, 1, 0, 0, 0, 0, 0),
  (41, .getfield 43, 3, 12, 21, 0, 0, 0),
  (44, .iload_n 3, 1, 3, 0, 0, 0, 0),
  (45, .iaload, 1, 0, 0, 0, 0, 0),
  (46, .iload_n 1, 1, 1, 0, 0, 0, 0),
  (47, .if_icmp .ne 7, 3, 54, 0, 0, 0, 0),
  (50, .iconst 1, 1, 0, 0, 0, 1, 0),
  (51, .goto 4, 3, 55, 0, 0, 0, 0),
  (54, .iconst 0, 1, 0, 0, 0, 0, 0),
  (55, .iadd, 1, 0, 0, 0, 0, 0),
  (56, .istore_n 2, 1, 2, 0, 0, 0, 0),
  (57, .iinc 3 1, 3, 3, 0, 0, 1, 0),
  (60, .goto (-50), 3, 10, 0, 0, 0, 0),
  (63, .iload_n 2, 1, 2, 0, 0, 0, 0),
  (64, .ireturn, 1, 0, 0, 0, 0, 0)]
def hbk181 : List (Nat × hbR) := [(0, .aload_n 0, 1, 0, 0, 0, 0, 0),
  (1, .bipush 13, 2, 0, 0, 0, 13, 0),
  (3, .invokevirtual 362, 3, 179, 1, 0, 0, 0),
  (6, .aload_n 0, 1, 0, 0, 0, 0, 0),
  (7, .iload_n 1, 1, 1, 0, 0, 0, 0),
  (8, .invokevirtual 365, 3, 180, 1, 0, 0, 0),
  (11, .bipush 50, 2, 0, 0, 0, 50, 0),
  (13, .iadd, 1, 0, 0, 0, 0, 0),
  (14, .ireturn, 1, 0, 0, 0, 0, 0)]
def hbk182 : List (Nat × hbR) := [(0, .iload_n 2, 1, 2, 0, 0, 0, 0),
  (1, .iconst 3, 1, 0, 0, 0, 3, 0),
  (2, .if_icmp .eq 16, 3, 18, 0, 0, 0, 0),
  (5, .iload_n 2, 1, 2, 0, 0, 0, 0),
  (6, .iconst 5, 1, 0, 0, 0, 5, 0),
  (7, .if_icmp .eq 11, 3, 18, 0, 0, 0, 0),
  (10, .iload_n 2, 1, 2, 0, 0, 0, 0),
  (11, .iconst 1, 1, 0, 0, 0, 1, 0),
  (12, .invokestatic 356, 3, 176, 2, 0, 0, 0),
  (15, .ifCond .eq 29, 3, 44, 0, 0, 0, 0),
  (18, .aload_n 0, 1, 0, 0, 0, 0, 0),
  (19, .iload_n 2, 1, 2, 0, 0, 0, 0),
  (20, .iconst 3, 1, 0, 0, 0, 3, 0),
  (21, .if_icmp .ne 8, 3, 29, 0, 0, 0, 0),
  (24, .bipush 22, 2, 0, 0, 0, 22, 0),
  (26, .goto 15, 3, 41, 0, 0, 0, 0),
  (29, .iload_n 2, 1, 2, 0, 0, 0, 0),
  (30, .iconst 5, 1, 0, 0, 0, 5, 0),
  (31, .if_icmp .ne 8, 3, 39, 0, 0, 0, 0),
  (34, .bipush 23, 2, 0, 0, 0, 23, 0),
  (36, .goto 5, 3, 41, 0, 0, 0, 0),
  (39, .bipush 21, 2, 0, 0, 0, 21, 0),
  (41, .invokevirtual 362, 3, 179, 1, 0, 0, 0),
  (44, .aload_n 0, 1, 0, 0, 0, 0, 0),
  (45, .bipush 20, 2, 0, 0, 0, 20, 0),
  (47, .invokevirtual 362, 3, 179, 1, 0, 0, 0),
  (50, .iload_n 1, 1, 1, 0, 0, 0, 0),
  (51, .iload_n 2, 1, 2, 0, 0, 0, 0),
  (52, .iconst 1, 1, 0, 0, 0, 1, 0),
  (53, .invokestatic 356, 3, 176, 2, 0, 0, 0),
  (56, .ifCond .eq 15, 3, 71, 0, 0, 0, 0),
  (59, .bipush 100, 2, 0, 0, 0, 100, 0),
  (61, .aload_n 0, 1, 0, 0, 0, 0, 0),
  (62, .getfield 43, 3, 12, 21, 0, 0, 0),
  (65, .iload_n 1, 1, 1, 0, 0, 0, 0),
  (66, .iaload, 1, 0, 0, 0, 0, 0),
  (67, .imul, 1, 0, 0, 0, 0, 0),
  (68, .goto 29, 3, 97, 0, 0, 0, 0),
  (71, .iload_n 2, 1, 2, 0, 0, 0, 0),
  (72, .iconst 5, 1, 0, 0, 0, 5, 0),
  (73, .if_icmp .ne 10, 3, 83, 0, 0, 0, 0),
  (76, .aload_n 0, 1, 0, 0, 0, 0, 0),
  (77, .getfield 235, 3, 12, 11, 0, 0, 0),
  (80, .goto 17, 3, 97, 0, 0, 0, 0),
  (83, .iload_n 2, 1, 2, 0, 0, 0, 0),
  (84, .iconst 3, 1, 0, 0, 0, 3, 0),
  (85, .if_icmp .ne 11, 3, 96, 0, 0, 0, 0),
  (88, .aload_n 0, 1, 0, 0, 0, 0, 0),
  (89, .iload_n 1, 1, 1, 0, 0, 0, 0),
  (90, .invokevirtual 368, 3, 181, 1, 0, 0, 0),
  (93, .goto 4, 3, 97, 0, 0, 0, 0),
  (96, .iconst 0, 1, 0, 0, 0, 0, 0),
  (97, .iadd, 1, 0, 0, 0, 0, 0),
  (98, .ireturn, 1, 0, 0, 0, 0, 0)]
def hbk183 : List (Nat × hbR) := [(0, .iload_n 2, 1, 2, 0, 0, 0, 0),
  (1, .iconst 3, 1, 0, 0, 0, 3, 0),
  (2, .if_icmp .ne 9, 3, 11, 0, 0, 0, 0),
  (5, .aload_n 0, 1, 0, 0, 0, 0, 0),
  (6, .iload_n 1, 1, 1, 0, 0, 0, 0),
  (7, .invokevirtual 368, 3, 181, 1, 0, 0, 0),
  (10, .ireturn, 1, 0, 0, 0, 0, 0),
  (11, .iload_n 2, 1, 2, 0, 0, 0, 0),
  (12, .iconst 2, 1, 0, 0, 0, 2, 0),
  (13, .if_icmp .eq 8, 3, 21, 0, 0, 0, 0),
  (16, .iload_n 2, 1, 2, 0, 0, 0, 0),
  (17, .iconst 5, 1, 0, 0, 0, 5, 0),
  (18, .if_icmp .ne 19, 3, 37, 0, 0, 0, 0),
  (21, .aload_n 0, 1, 0, 0, 0, 0, 0),
  (22, .iload_n 2, 1, 2, 0, 0, 0, 0),
  (23, .iconst 2, 1, 0, 0, 0, 2, 0),
  (24, .if_icmp .ne 8, 3, 32, 0, 0, 0, 0),
  (27, .bipush 12, 2, 0, 0, 0, 12, 0),
  (29, .goto 5, 3, 34, 0, 0, 0, 0),
  (32, .bipush 15, 2, 0, 0, 0, 15, 0),
  (34, .invokevirtual 362, 3, 179, 1, 0, 0, 0),
  (37, .iload_n 2, 1, 2, 0, 0, 0, 0),
  (38, .iconst 1, 1, 0, 0, 0, 1, 0),
  (39, .invokestatic 356, 3, 176, 2, 0, 0, 0),
  (42, .istore_n 3, 1, 3, 0, 0, 0, 0),
  (43, .aload_n 0, 1, 0, 0, 0, 0, 0),
  (44, .iload_n 3, 1, 3, 0, 0, 0, 0),
  (45, .ifCond .eq 8, 3, 53, 0, 0, 0, 0),
  (48, .bipush 11, 2, 0, 0, 0, 11, 0),
  (50, .goto 5, 3, 55, 0, 0, 0, 0),
  (53, .bipush 14, 2, 0, 0, 0, 14, 0),
  (55, .invokevirtual 362, 3, 179, 1, 0, 0, 0),
  (58, .aload_n 0, 1, 0, 0, 0, 0, 0),
  (59, .iload_n 1, 1, 1, 0, 0, 0, 0),
  (60, .invokevirtual 365, 3, 180, 1, 0, 0, 0),
  (63, .istore 4, 2, 4, 0, 0, 0, 0),
  (65, .iload 4, 2, 4, 0, 0, 0, 0),
  (67, .iload_n 3, 1, 3, 0, 0, 0, 0),
  (68, .ifCond .eq 12, 3, 80, 0, 0, 0, 0),
  (71, .aload_n 0, 1, 0, 0, 0, 0, 0),
  (72, .iload_n 1, 1, 1, 0, 0, 0, 0),
  (73, .iload_n 2, 1, 2, 0, 0, 0, 0),
  (74, .invokevirtual 371, 3, 182, 2, 0, 0, 0),
  (77, .goto 10, 3, 87, 0, 0, 0, 0),
  (80, .aload_n 0, 1, 0, 0, 0, 0, 0),
  (81, .iload_n 1, 1, 1, 0, 0, 0, 0),
  (82, .iload_n 2, 1, 2, 0, 0, 0, 0),
  (83, .invokevirtual 371, 3, 182, 2, 0, 0, 0),
  (86, .ineg, 1, 0, 0, 0, 0, 0),
  (87, .iadd, 1, 0, 0, 0, 0, 0),
  (88, .istore 4, 2, 4, 0, 0, 0, 0),
  (90, .iload_n 2, 1, 2, 0, 0, 0, 0),
  (91, .iconst 2, 1, 0, 0, 0, 2, 0),
  (92, .if_icmp .eq 8, 3, 100, 0, 0, 0, 0),
  (95, .iload_n 2, 1, 2, 0, 0, 0, 0),
  (96, .iconst 5, 1, 0, 0, 0, 5, 0),
  (97, .if_icmp .ne 10, 3, 107, 0, 0, 0, 0),
  (100, .iconst 2, 1, 0, 0, 0, 2, 0),
  (101, .iload 4, 2, 4, 0, 0, 0, 0),
  (103, .imul, 1, 0, 0, 0, 0, 0),
  (104, .goto 5, 3, 109, 0, 0, 0, 0),
  (107, .iload 4, 2, 4, 0, 0, 0, 0),
  (109, .ireturn, 1, 0, 0, 0, 0, 0)]
def hbk184 : List (Nat × hbR) := [(0, .aload_n 0, 1, 0, 0, 0, 0, 0),
  (1, .iconst 0, 1, 0, 0, 0, 0, 0),
  (2, .putfield 87, 3, 12, 0, 0, 0, 0),
  (5, .aload_n 0, 1, 0, 0, 0, 0, 0),
  (6, .iload_n 1, 1, 1, 0, 0, 0, 0),
  (7, .invokevirtual 348, 3, 174, 1, 0, 0, 0),
  (10, .ifCond .eq 13, 3, 23, 0, 0, 0, 0),
  (13, .iload_n 2, 1, 2, 0, 0, 0, 0),
  (14, .i2l, 1, 0, 0, 0, 0, 0),
  (15, .lconst 0, 1, 0, 0, 0, 0, 0),
  (16, .lconst 1, 1, 0, 0, 0, 0, 1),
  (17, .invokestatic 97, 3, 112, 3, 0, 0, 0),
  (20, .ifCond .ne 6, 3, 26, 0, 0, 0, 0),
  (23, .ldc 107, 2, 0, 0, 0, (-1000001), 0),
  (25, .ireturn, 1, 0, 0, 0, 0, 0),
  (26, .aload_n 0, 1, 0, 0, 0, 0, 0),
  (27, .iconst 0, 1, 0, 0, 0, 0, 0),
  (28, .putfield 359, 3, 12, 48, 0, 0, 0),
  (31, .iload_n 2, 1, 2, 0, 0, 0, 0),
  (32, .ifCond .ne 16, 3, 48, 0, 0, 0, 0),
  (35, .aload_n 0, 1, 0, 0, 0, 0, 0),
  (36, .iload_n 1, 1, 1, 0, 0, 0, 0),
  (37, .aload_n 0, 1, 0, 0, 0, 0, 0),
  (38, .iload_n 1, 1, 1, 0, 0, 0, 0),
  (39, .invokevirtual 351, 3, 175, 1, 0, 0, 0),
  (42, .invokevirtual 374, 3, 183, 2, 0, 0, 0),
  (45, .goto 13, 3, 58, 0, 0, 0, 0),
  (48, .aload_n 0, 1, 0, 0, 0, 0, 0),
  (49, .iload_n 1, 1, 1, 0, 0, 0, 0),
  (50, .aload_n 0, 1, 0, 0, 0, 0, 0),
  (51, .iload_n 1, 1, 1, 0, 0, 0, 0),
  (52, .invokevirtual 351, 3, 175, 1, 0, 0, 0),
  (55, .invokevirtual 371, 3, 182, 2, 0, 0, 0),
  (58, .ireturn, 1, 0, 0, 0, 0, 0)]
def hbk185 : List (Nat × hbR) := [(0, .aload_n 0, 1, 0, 0, 0, 0, 0),
  (1, .iconst 0, 1, 0, 0, 0, 0, 0),
  (2, .putfield 87, 3, 12, 0, 0, 0, 0),
  (5, .iload_n 1, 1, 1, 0, 0, 0, 0),
  (6, .i2l, 1, 0, 0, 0, 0, 0),
  (7, .lconst 0, 1, 0, 0, 0, 0, 0),
  (8, .aload_n 0, 1, 0, 0, 0, 0, 0),
  (9, .getfield 359, 3, 12, 48, 0, 0, 0),
  (12, .iconst 1, 1, 0, 0, 0, 1, 0),
  (13, .isub, 1, 0, 0, 0, 0, 0),
  (14, .i2l, 1, 0, 0, 0, 0, 0),
  (15, .invokestatic 97, 3, 112, 3, 0, 0, 0),
  (18, .ifCond .eq 12, 3, 30, 0, 0, 0, 0),
  (21, .aload_n 0, 1, 0, 0, 0, 0, 0),
  (22, .getfield 84, 3, 12, 47, 0, 0, 0),
  (25, .iload_n 1, 1, 1, 0, 0, 0, 0),
  (26, .iaload, 1, 0, 0, 0, 0, 0),
  (27, .goto 5, 3, 32, 0, 0, 0, 0),
  (30, .ldc 123, 2, 0, 0, 0, (-1000000), 0),
  (32, .ireturn, 1, 0, 0, 0, 0, 0)]
def hbk186 : List (Nat × hbR) := [(0, .aload_n 0, 1, 0, 0, 0, 0, 0),
  (1, .iconst 0, 1, 0, 0, 0, 0, 0),
  (2, .putfield 87, 3, 12, 0, 0, 0, 0),
  (5, .iconst 0, 1, 0, 0, 0, 0, 0),
  (6, .istore_n 2, 1, 2, 0, 0, 0, 0),
  (7, .iload_n 1, 1, 1, 0, 0, 0, 0),
  (8, .tableswitch 129 0 6 #[44, 77, 82, 87, 92, 97, 124], 44, 0, 0, 0, 0, 0),
  (52, .iconst 0, 1, 0, 0, 0, 0, 0),
  (53, .istore_n 3, 1, 3, 0, 0, 0, 0),
  (54, .iload_n 3, 1, 3, 0, 0, 0, 0),
  (55, .bipush 8, 2, 0, 0, 0, 8, 0),
  (57, .if_icmp .ge 26, 3, 83, 0, 0, 0, 0),
  (60, .iload_n 2, 1, 2, 0, 0, 0, 0),
  (61, .aload_n 0, 1, 0, 0, 0, 0, 0),
  (62, .getfield 7, 3, 12, 2, 0, 0, 0),
  (65, .iload_n 3, 1, 3, 0, 0, 0, 0),
  (66, .iaload, 1, 0, 0, 0, 0, 0),
  (67, .ifCond .lt 7, 3, 74, 0, 0, 0, 0),
  (70, .iconst 1, 1, 0, 0, 0, 1, 0),
  (71, .goto 4, 3, 75, 0, 0, 0, 0),
  (74, .iconst 0, 1, 0, 0, 0, 0, 0),
  (75, .iadd, 1, 0, 0, 0, 0, 0),
  (76, .istore_n 2, 1, 2, 0, 0, 0, 0),
  (77, .iinc 3 1, 3, 3, 0, 0, 1, 0),
  (80, .goto (-26), 3, 54, 0, 0, 0, 0),
  (83, .iload_n 2, 1, 2, 0, 0, 0, 0),
  (84, .ireturn, 1, 0, 0, 0, 0, 0),
  (85, .aload_n 0, 1, 0, 0, 0, 0, 0),
  (86, .getfield 235, 3, 12, 11, 0, 0, 0),
  (89, .ireturn, 1, 0, 0, 0, 0, 0),
  (90, .aload_n 0, 1, 0, 0, 0, 0, 0),
  (91, .getfield 226, 3, 12, 5, 0, 0, 0),
  (94, .ireturn, 1, 0, 0, 0, 0, 0),
  (95, .aload_n 0, 1, 0, 0, 0, 0, 0),
  (96, .getfield 229, 3, 12, 9, 0, 0, 0),
  (99, .ireturn, 1, 0, 0, 0, 0, 0),
  (100, .aload_n 0, 1, 0, 0, 0, 0, 0),
  (101, .getfield 232, 3, 12, 10, 0, 0, 0),
  (104, .ireturn, 1, 0, 0, 0, 0, 0),
  (105, .iconst 0, 1, 0, 0, 0, 0, 0),
  (106, .istore_n 3, 1, 3, 0, 0, 0, 0),
  (107, .iload_n 3, 1, 3, 0, 0, 0, 0),
  (108, .bipush 16, 2, 0, 0, 0, 16, 0),
  (110, .if_icmp .ge 20, 3, 130, 0, 0, 0, 0),
  (113, .iload_n 2, 1, 2, 0, 0, 0, 0),
  (114, .aload_n 0, 1, 0, 0, 0, 0, 0),
  (115, .getfield 255, 3, 12, 34, 0, 0, 0),
  (118, .iload_n 3, 1, 3, 0, 0, 0, 0),
  (119, .ishr, 1, 0, 0, 0, 0, 0),
  (120, .iconst 1, 1, 0, 0, 0, 1, 0),
  (121, .iand, 1, 0, 0, 0, 0, 0),
  (122, .iadd, 1, 0, 0, 0, 0, 0),
  (123, .istore_n 2, 1, 2, 0, 0, 0, 0),
  (124, .iinc 3 1, 3, 3, 0, 0, 1, 0),
  (127, .goto (-20), 3, 107, 0, 0, 0, 0),
  (130, .iload_n 2, 1, 2, 0, 0, 0, 0),
  (131, .ireturn, 1, 0, 0, 0, 0, 0),
  (132, .aload_n 0, 1, 0, 0, 0, 0, 0),
  (133, .getfield 114, 3, 12, 23, 0, 0, 0),
  (136, .ireturn, 1, 0, 0, 0, 0, 0),
  (137, .ldc 107, 2, 0, 0, 0, (-1000001), 0),
  (139, .ireturn, 1, 0, 0, 0, 0, 0)]
def hbk187 : List (Nat × hbR) := [(0, .aload_n 0, 1, 0, 0, 0, 0, 0),
  (1, .iconst 0, 1, 0, 0, 0, 0, 0),
  (2, .putfield 87, 3, 12, 0, 0, 0, 0),
  (5, .aload_n 0, 1, 0, 0, 0, 0, 0),
  (6, .getfield 91, 3, 12, 1, 0, 0, 0),
  (9, .ireturn, 1, 0, 0, 0, 0, 0)]
def hbk188 : List (Nat × hbR) := [(0, .iload_n 0, 1, 0, 0, 0, 0, 0),
  (1, .iload_n 0, 1, 0, 0, 0, 0, 0),
  (2, .iconst 1, 1, 0, 0, 0, 1, 0),
  (3, .iushr, 1, 0, 0, 0, 0, 0),
  (4, .ldc_w 265, 3, 0, 0, 0, 1431655765, 0),
  (7, .iand, 1, 0, 0, 0, 0, 0),
  (8, .isub, 1, 0, 0, 0, 0, 0),
  (9, .istore_n 0, 1, 0, 0, 0, 0, 0),
  (10, .iload_n 0, 1, 0, 0, 0, 0, 0),
  (11, .ldc_w 266, 3, 0, 0, 0, 858993459, 0),
  (14, .iand, 1, 0, 0, 0, 0, 0),
  (15, .iload_n 0, 1, 0, 0, 0, 0, 0),
  (16, .iconst 2, 1, 0, 0, 0, 2, 0),
  (17, .iushr, 1, 0, 0, 0, 0, 0),
  (18, .ldc_w 266, 3, 0, 0, 0, 858993459, 0),
  (21, .iand, 1, 0, 0, 0, 0, 0),
  (22, .iadd, 1, 0, 0, 0, 0, 0),
  (23, .istore_n 0, 1, 0, 0, 0, 0, 0),
  (24, .iload_n 0, 1, 0, 0, 0, 0, 0),
  (25, .iload_n 0, 1, 0, 0, 0, 0, 0),
  (26, .iconst 4, 1, 0, 0, 0, 4, 0),
  (27, .iushr, 1, 0, 0, 0, 0, 0),
  (28, .iadd, 1, 0, 0, 0, 0, 0),
  (29, .ldc_w 267, 3, 0, 0, 0, 252645135, 0),
  (32, .iand, 1, 0, 0, 0, 0, 0),
  (33, .istore_n 0, 1, 0, 0, 0, 0, 0),
  (34, .iload_n 0, 1, 0, 0, 0, 0, 0),
  (35, .iload_n 0, 1, 0, 0, 0, 0, 0),
  (36, .bipush 8, 2, 0, 0, 0, 8, 0),
  (38, .iushr, 1, 0, 0, 0, 0, 0),
  (39, .iadd, 1, 0, 0, 0, 0, 0),
  (40, .istore_n 0, 1, 0, 0, 0, 0, 0),
  (41, .iload_n 0, 1, 0, 0, 0, 0, 0),
  (42, .iload_n 0, 1, 0, 0, 0, 0, 0),
  (43, .bipush 16, 2, 0, 0, 0, 16, 0),
  (45, .iushr, 1, 0, 0, 0, 0, 0),
  (46, .iadd, 1, 0, 0, 0, 0, 0),
  (47, .istore_n 0, 1, 0, 0, 0, 0, 0),
  (48, .iload_n 0, 1, 0, 0, 0, 0, 0),
  (49, .bipush 63, 2, 0, 0, 0, 63, 0),
  (51, .iand, 1, 0, 0, 0, 0, 0),
  (52, .ireturn, 1, 0, 0, 0, 0, 0)]
def hbk189 : List (Nat × hbR) := [(0, .iload_n 0, 1, 0, 0, 0, 0, 0),
  (1, .iload_n 1, 1, 1, 0, 0, 0, 0),
  (2, .if_icmp .lt 7, 3, 9, 0, 0, 0, 0),
  (5, .iload_n 0, 1, 0, 0, 0, 0, 0),
  (6, .goto 4, 3, 10, 0, 0, 0, 0),
  (9, .iload_n 1, 1, 1, 0, 0, 0, 0),
  (10, .ireturn, 1, 0, 0, 0, 0, 0)]
def hbk190 : List (Nat × hbR) := [(0, .iload_n 0, 1, 0, 0, 0, 0, 0),
  (1, .iload_n 1, 1, 1, 0, 0, 0, 0),
  (2, .if_icmp .gt 7, 3, 9, 0, 0, 0, 0),
  (5, .iload_n 0, 1, 0, 0, 0, 0, 0),
  (6, .goto 4, 3, 10, 0, 0, 0, 0),
  (9, .iload_n 1, 1, 1, 0, 0, 0, 0),
  (10, .ireturn, 1, 0, 0, 0, 0, 0)]
def hbk191 : List (Nat × hbR) := [(0, .aload_n 0, 1, 0, 0, 0, 0, 0),
  (1, .getfield 9, 3, 0, 0, 2, 0, 0),
  (4, .arraylength, 1, 0, 0, 2, 0, 0),
  (5, .aload_n 0, 1, 0, 0, 0, 0, 0),
  (6, .invokevirtual 335, 3, 193, 0, 2, 0, 0),
  (9, .ishr, 1, 0, 0, 0, 0, 0),
  (10, .ireturn, 1, 0, 0, 0, 0, 0)]
def hbk192 : List (Nat × hbR) := [(0, .aload_n 0, 1, 0, 0, 0, 0, 0),
  (1, .invokevirtual 492, 3, 194, 0, 2, 0, 0),
  (4, .ifCond .eq 12, 3, 16, 0, 0, 0, 0),
  (7, .aload_n 0, 1, 0, 0, 0, 0, 0),
  (8, .getfield 9, 3, 0, 0, 2, 0, 0),
  (11, .iload_n 1, 1, 1, 0, 0, 0, 0),
  (12, .invokestatic 495, 3, 196, 2, 0, 0, 0),
  (15, .ireturn, 1, 0, 0, 2, 0, 0),
  (16, .aload_n 0, 1, 0, 0, 0, 0, 0),
  (17, .getfield 9, 3, 0, 0, 2, 0, 0),
  (20, .iload_n 1, 1, 1, 0, 0, 0, 0),
  (24, .ireturn, 1, 0, 0, 2, 0, 0)]
def hbk193 : List (Nat × hbR) := [(0, .getstatic 38, 3, 0, 0, 0, 0, 0),
  (3, .ifCond .eq 10, 3, 13, 0, 0, 0, 0),
  (6, .aload_n 0, 1, 0, 0, 0, 0, 0),
  (7, .getfield 15, 3, 0, 1, 2, 0, 0),
  (10, .goto 4, 3, 14, 0, 0, 0, 0),
  (13, .iconst 1, 1, 0, 0, 0, 1, 0),
  (14, .ireturn, 1, 0, 0, 2, 0, 0)]
def hbk194 : List (Nat × hbR) := [(0, .getstatic 38, 3, 0, 0, 0, 0, 0),
  (3, .ifCond .eq 14, 3, 17, 0, 0, 0, 0),
  (6, .aload_n 0, 1, 0, 0, 0, 0, 0),
  (7, .getfield 15, 3, 0, 1, 2, 0, 0),
  (10, .ifCond .ne 7, 3, 17, 0, 0, 0, 0),
  (13, .iconst 1, 1, 0, 0, 0, 1, 0),
  (14, .goto 4, 3, 18, 0, 0, 0, 0),
  (17, .iconst 0, 1, 0, 0, 0, 0, 0),
  (18, .ireturn, 1, 0, 0, 1, 0, 0)]
def hbk195 : List (Nat × hbR) := [(0, .iload_n 0, 1, 0, 0, 0, 0, 0),
  (1, .iload_n 1, 1, 1, 0, 0, 0, 0),
  (2, .getstatic 1053, 3, 0, 1, 0, 0, 0),
  (5, .invokestatic 1059, 3, 198, 3, 0, 0, 0),
  (8, .pop, 1, 0, 0, 0, 0, 0),
  (9, .return_, 1, 0, 0, 0, 0, 0)]
def hbk196 : List (Nat × hbR) := [(0, .iload_n 1, 1, 1, 0, 0, 0, 0),
  (1, .aload_n 0, 1, 0, 0, 0, 0, 0),
  (2, .arraylength, 1, 0, 0, 2, 0, 0),
  (3, .invokestatic 9, 3, 195, 2, 0, 0, 0),
  (6, .aload_n 0, 1, 0, 0, 0, 0, 0),
  (7, .iload_n 1, 1, 1, 0, 0, 0, 0),
  (8, .baload, 1, 0, 0, 2, 0, 0),
  (9, .sipush 255, 3, 0, 0, 0, 255, 0),
  (12, .iand, 1, 0, 0, 0, 0, 0),
  (13, .i2c, 1, 0, 0, 0, 0, 0),
  (14, .ireturn, 1, 0, 0, 2, 0, 0)]
def hbk197 : List (Nat × hbR) := [(0, .iconst 0, 1, 0, 0, 0, 0, 0),
  (1, .istore_n 2, 1, 2, 0, 0, 0, 0),
  (2, .aload_n 0, 1, 0, 0, 0, 0, 0),
  (3, .arraylength, 1, 0, 0, 0, 0, 0),
  (4, .istore_n 3, 1, 3, 0, 0, 0, 0),
  (5, .iload_n 2, 1, 2, 0, 0, 0, 0),
  (6, .iload_n 3, 1, 3, 0, 0, 0, 0),
  (7, .if_icmp .ge 13, 3, 20, 0, 0, 0, 0),
  (10, .aload_n 0, 1, 0, 0, 0, 0, 0),
  (11, .iload_n 2, 1, 2, 0, 0, 0, 0),
  (12, .iload_n 1, 1, 1, 0, 0, 0, 0),
  (13, .iastore, 1, 0, 0, 0, 0, 0),
  (14, .iinc 2 1, 3, 2, 0, 0, 1, 0),
  (17, .goto (-12), 3, 5, 0, 0, 0, 0),
  (20, .return_, 1, 0, 0, 0, 0, 0)]
def hbk198 : List (Nat × hbR) := [(0, .iload_n 0, 1, 0, 0, 0, 0, 0),
  (1, .ifCond .lt 8, 3, 9, 0, 0, 0, 0),
  (4, .iload_n 0, 1, 0, 0, 0, 0, 0),
  (5, .iload_n 1, 1, 1, 0, 0, 0, 0),
  (6, .if_icmp .lt 10, 3, 16, 0, 0, 0, 0),
  (9, .aload_n 2, 1, 2, 0, 0, 0, 0),
  (10, .iload_n 0, 1, 0, 0, 0, 0, 0),
  (11, .iload_n 1, 1, 1, 0, 0, 0, 0),
  (16, .iload_n 0, 1, 0, 0, 0, 0, 0),
  (17, .ireturn, 1, 0, 0, 0, 0, 0)]
def hbk199 : List (Nat × hbR) := [(0, .iload_n 3, 1, 3, 0, 0, 0, 0),
  (1, .bipush 8, 2, 0, 0, 0, 8, 0),
  (3, .if_icmp .lt 5, 3, 8, 0, 0, 0, 0),
  (6, .iconst 0, 1, 0, 0, 0, 0, 0),
  (7, .ireturn, 1, 0, 0, 0, 0, 0),
  (8, .aload_n 0, 1, 0, 0, 0, 0, 0),
  (9, .iload_n 1, 1, 1, 0, 0, 0, 0),
  (10, .invokevirtual 48, 3, 42, 1, 0, 0, 0),
  (13, .iload_n 3, 1, 3, 0, 0, 0, 0),
  (14, .iconst 1, 1, 0, 0, 0, 1, 0),
  (15, .iadd, 1, 0, 0, 0, 0, 0),
  (16, .istore 4, 2, 4, 0, 0, 0, 0),
  (18, .iload_n 1, 1, 1, 0, 0, 0, 0),
  (19, .tableswitch 216 10 23 #[69, 75, 98, 110, 123, 146, 216, 216, 216, 216, 216, 158, 178, 201], 69, 0, 0, 0, 0, 0),
  (88, .aload_n 0, 1, 0, 0, 0, 0, 0),
  (89, .iload_n 2, 1, 2, 0, 0, 0, 0),
  (90, .invokevirtual 52, 3, 37, 1, 0, 0, 0),
  (93, .ireturn, 1, 0, 0, 0, 0, 0),
  (94, .aload_n 0, 1, 0, 0, 0, 0, 0),
  (95, .bipush 10, 2, 0, 0, 0, 10, 0),
  (97, .iload_n 2, 1, 2, 0, 0, 0, 0),
  (98, .iload 4, 2, 4, 0, 0, 0, 0),
  (100, .invokevirtual 44, 3, 200, 3, 0, 0, 0),
  (103, .aload_n 0, 1, 0, 0, 0, 0, 0),
  (104, .aload_n 0, 1, 0, 0, 0, 0, 0),
  (105, .iload_n 2, 1, 2, 0, 0, 0, 0),
  (106, .invokevirtual 41, 3, 40, 1, 0, 0, 0),
  (109, .iload_n 2, 1, 2, 0, 0, 0, 0),
  (110, .iload 4, 2, 4, 0, 0, 0, 0),
  (112, .invokevirtual 44, 3, 200, 3, 0, 0, 0),
  (115, .iadd, 1, 0, 0, 0, 0, 0),
  (116, .ireturn, 1, 0, 0, 0, 0, 0),
  (117, .iconst 2, 1, 0, 0, 0, 2, 0),
  (118, .aload_n 0, 1, 0, 0, 0, 0, 0),
  (119, .bipush 11, 2, 0, 0, 0, 11, 0),
  (121, .iload_n 2, 1, 2, 0, 0, 0, 0),
  (122, .iload 4, 2, 4, 0, 0, 0, 0),
  (124, .invokevirtual 44, 3, 200, 3, 0, 0, 0),
  (127, .imul, 1, 0, 0, 0, 0, 0),
  (128, .ireturn, 1, 0, 0, 0, 0, 0),
  (129, .aload_n 0, 1, 0, 0, 0, 0, 0),
  (130, .bipush 10, 2, 0, 0, 0, 10, 0),
  (132, .iload_n 2, 1, 2, 0, 0, 0, 0),
  (133, .iload 4, 2, 4, 0, 0, 0, 0),
  (135, .invokevirtual 44, 3, 200, 3, 0, 0, 0),
  (138, .bipush 50, 2, 0, 0, 0, 50, 0),
  (140, .iadd, 1, 0, 0, 0, 0, 0),
  (141, .ireturn, 1, 0, 0, 0, 0, 0),
  (142, .aload_n 0, 1, 0, 0, 0, 0, 0),
  (143, .bipush 10, 2, 0, 0, 0, 10, 0),
  (145, .iload_n 2, 1, 2, 0, 0, 0, 0),
  (146, .iload 4, 2, 4, 0, 0, 0, 0),
  (148, .invokevirtual 44, 3, 200, 3, 0, 0, 0),
  (151, .aload_n 0, 1, 0, 0, 0, 0, 0),
  (152, .aload_n 0, 1, 0, 0, 0, 0, 0),
  (153, .iload_n 2, 1, 2, 0, 0, 0, 0),
  (154, .invokevirtual 41, 3, 40, 1, 0, 0, 0),
  (157, .iload_n 2, 1, 2, 0, 0, 0, 0),
  (158, .iload 4, 2, 4, 0, 0, 0, 0),
  (160, .invokevirtual 44, 3, 200, 3, 0, 0, 0),
  (163, .isub, 1, 0, 0, 0, 0, 0),
  (164, .ireturn, 1, 0, 0, 0, 0, 0),
  (165, .iconst 2, 1, 0, 0, 0, 2, 0),
  (166, .aload_n 0, 1, 0, 0, 0, 0, 0),
  (167, .bipush 14, 2, 0, 0, 0, 14, 0),
  (169, .iload_n 2, 1, 2, 0, 0, 0, 0),
  (170, .iload 4, 2, 4, 0, 0, 0, 0),
  (172, .invokevirtual 44, 3, 200, 3, 0, 0, 0),
  (175, .imul, 1, 0, 0, 0, 0, 0),
  (176, .ireturn, 1, 0, 0, 0, 0, 0),
  (177, .aload_n 0, 1, 0, 0, 0, 0, 0),
  (178, .bipush 20, 2, 0, 0, 0, 20, 0),
  (180, .iload_n 2, 1, 2, 0, 0, 0, 0),
  (181, .iload 4, 2, 4, 0, 0, 0, 0),
  (183, .invokevirtual 44, 3, 200, 3, 0, 0, 0),
  (186, .bipush 100, 2, 0, 0, 0, 100, 0),
  (188, .aload_n 0, 1, 0, 0, 0, 0, 0),
  (189, .getfield 15, 3, 6, 1, 0, 0, 0),
  (192, .iload_n 2, 1, 2, 0, 0, 0, 0),
  (193, .iaload, 1, 0, 0, 0, 0, 0),
  (194, .imul, 1, 0, 0, 0, 0, 0),
  (195, .iadd, 1, 0, 0, 0, 0, 0),
  (196, .ireturn, 1, 0, 0, 0, 0, 0),
  (197, .aload_n 0, 1, 0, 0, 0, 0, 0),
  (198, .bipush 20, 2, 0, 0, 0, 20, 0),
  (200, .iload_n 2, 1, 2, 0, 0, 0, 0),
  (201, .iload 4, 2, 4, 0, 0, 0, 0),
  (203, .invokevirtual 44, 3, 200, 3, 0, 0, 0),
  (206, .aload_n 0, 1, 0, 0, 0, 0, 0),
  (207, .aload_n 0, 1, 0, 0, 0, 0, 0),
  (208, .iload_n 2, 1, 2, 0, 0, 0, 0),
  (209, .invokevirtual 38, 3, 39, 1, 0, 0, 0),
  (212, .iload_n 2, 1, 2, 0, 0, 0, 0),
  (213, .iload 4, 2, 4, 0, 0, 0, 0),
  (215, .invokevirtual 44, 3, 200, 3, 0, 0, 0),
  (218, .iadd, 1, 0, 0, 0, 0, 0),
  (219, .ireturn, 1, 0, 0, 0, 0, 0),
  (220, .aload_n 0, 1, 0, 0, 0, 0, 0),
  (221, .bipush 20, 2, 0, 0, 0, 20, 0),
  (223, .iload_n 2, 1, 2, 0, 0, 0, 0),
  (224, .iload 4, 2, 4, 0, 0, 0, 0),
  (226, .invokevirtual 44, 3, 200, 3, 0, 0, 0),
  (229, .aload_n 0, 1, 0, 0, 0, 0, 0),
  (230, .getfield 24, 3, 6, 4, 0, 0, 0),
  (233, .iadd, 1, 0, 0, 0, 0, 0),
  (234, .ireturn, 1, 0, 0, 0, 0, 0),
  (235, .iload_n 2, 1, 2, 0, 0, 0, 0),
  (236, .ireturn, 1, 0, 0, 0, 0, 0)]
def hbk200 : List (Nat × hbR) := [(0, .iload_n 3, 1, 3, 0, 0, 0, 0),
  (1, .bipush 8, 2, 0, 0, 0, 8, 0),
  (3, .if_icmp .lt 5, 3, 8, 0, 0, 0, 0),
  (6, .iconst 0, 1, 0, 0, 0, 0, 0),
  (7, .ireturn, 1, 0, 0, 0, 0, 0),
  (8, .aload_n 0, 1, 0, 0, 0, 0, 0),
  (9, .iload_n 1, 1, 1, 0, 0, 0, 0),
  (10, .invokevirtual 48, 3, 42, 1, 0, 0, 0),
  (13, .iload_n 3, 1, 3, 0, 0, 0, 0),
  (14, .iconst 1, 1, 0, 0, 0, 1, 0),
  (15, .iadd, 1, 0, 0, 0, 0, 0),
  (16, .istore 4, 2, 4, 0, 0, 0, 0),
  (18, .iload_n 1, 1, 1, 0, 0, 0, 0),
  (19, .tableswitch 216 10 23 #[69, 75, 98, 110, 123, 146, 216, 216, 216, 216, 216, 158, 178, 201], 69, 0, 0, 0, 0, 0),
  (88, .aload_n 0, 1, 0, 0, 0, 0, 0),
  (89, .iload_n 2, 1, 2, 0, 0, 0, 0),
  (90, .invokevirtual 52, 3, 37, 1, 0, 0, 0),
  (93, .ireturn, 1, 0, 0, 0, 0, 0),
  (94, .aload_n 0, 1, 0, 0, 0, 0, 0),
  (95, .bipush 10, 2, 0, 0, 0, 10, 0),
  (97, .iload_n 2, 1, 2, 0, 0, 0, 0),
  (98, .iload 4, 2, 4, 0, 0, 0, 0),
  (100, .invokevirtual 44, 3, 201, 3, 0, 0, 0),
  (103, .aload_n 0, 1, 0, 0, 0, 0, 0),
  (104, .aload_n 0, 1, 0, 0, 0, 0, 0),
  (105, .iload_n 2, 1, 2, 0, 0, 0, 0),
  (106, .invokevirtual 41, 3, 40, 1, 0, 0, 0),
  (109, .iload_n 2, 1, 2, 0, 0, 0, 0),
  (110, .iload 4, 2, 4, 0, 0, 0, 0),
  (112, .invokevirtual 44, 3, 201, 3, 0, 0, 0),
  (115, .iadd, 1, 0, 0, 0, 0, 0),
  (116, .ireturn, 1, 0, 0, 0, 0, 0),
  (117, .iconst 2, 1, 0, 0, 0, 2, 0),
  (118, .aload_n 0, 1, 0, 0, 0, 0, 0),
  (119, .bipush 11, 2, 0, 0, 0, 11, 0),
  (121, .iload_n 2, 1, 2, 0, 0, 0, 0),
  (122, .iload 4, 2, 4, 0, 0, 0, 0),
  (124, .invokevirtual 44, 3, 201, 3, 0, 0, 0),
  (127, .imul, 1, 0, 0, 0, 0, 0),
  (128, .ireturn, 1, 0, 0, 0, 0, 0),
  (129, .aload_n 0, 1, 0, 0, 0, 0, 0),
  (130, .bipush 10, 2, 0, 0, 0, 10, 0),
  (132, .iload_n 2, 1, 2, 0, 0, 0, 0),
  (133, .iload 4, 2, 4, 0, 0, 0, 0),
  (135, .invokevirtual 44, 3, 201, 3, 0, 0, 0),
  (138, .bipush 50, 2, 0, 0, 0, 50, 0),
  (140, .iadd, 1, 0, 0, 0, 0, 0),
  (141, .ireturn, 1, 0, 0, 0, 0, 0),
  (142, .aload_n 0, 1, 0, 0, 0, 0, 0),
  (143, .bipush 10, 2, 0, 0, 0, 10, 0),
  (145, .iload_n 2, 1, 2, 0, 0, 0, 0),
  (146, .iload 4, 2, 4, 0, 0, 0, 0),
  (148, .invokevirtual 44, 3, 201, 3, 0, 0, 0),
  (151, .aload_n 0, 1, 0, 0, 0, 0, 0),
  (152, .aload_n 0, 1, 0, 0, 0, 0, 0),
  (153, .iload_n 2, 1, 2, 0, 0, 0, 0),
  (154, .invokevirtual 41, 3, 40, 1, 0, 0, 0),
  (157, .iload_n 2, 1, 2, 0, 0, 0, 0),
  (158, .iload 4, 2, 4, 0, 0, 0, 0),
  (160, .invokevirtual 44, 3, 201, 3, 0, 0, 0),
  (163, .isub, 1, 0, 0, 0, 0, 0),
  (164, .ireturn, 1, 0, 0, 0, 0, 0),
  (165, .iconst 2, 1, 0, 0, 0, 2, 0),
  (166, .aload_n 0, 1, 0, 0, 0, 0, 0),
  (167, .bipush 14, 2, 0, 0, 0, 14, 0),
  (169, .iload_n 2, 1, 2, 0, 0, 0, 0),
  (170, .iload 4, 2, 4, 0, 0, 0, 0),
  (172, .invokevirtual 44, 3, 201, 3, 0, 0, 0),
  (175, .imul, 1, 0, 0, 0, 0, 0),
  (176, .ireturn, 1, 0, 0, 0, 0, 0),
  (177, .aload_n 0, 1, 0, 0, 0, 0, 0),
  (178, .bipush 20, 2, 0, 0, 0, 20, 0),
  (180, .iload_n 2, 1, 2, 0, 0, 0, 0),
  (181, .iload 4, 2, 4, 0, 0, 0, 0),
  (183, .invokevirtual 44, 3, 201, 3, 0, 0, 0),
  (186, .bipush 100, 2, 0, 0, 0, 100, 0),
  (188, .aload_n 0, 1, 0, 0, 0, 0, 0),
  (189, .getfield 15, 3, 6, 1, 0, 0, 0),
  (192, .iload_n 2, 1, 2, 0, 0, 0, 0),
  (193, .iaload, 1, 0, 0, 0, 0, 0),
  (194, .imul, 1, 0, 0, 0, 0, 0),
  (195, .iadd, 1, 0, 0, 0, 0, 0),
  (196, .ireturn, 1, 0, 0, 0, 0, 0),
  (197, .aload_n 0, 1, 0, 0, 0, 0, 0),
  (198, .bipush 20, 2, 0, 0, 0, 20, 0),
  (200, .iload_n 2, 1, 2, 0, 0, 0, 0),
  (201, .iload 4, 2, 4, 0, 0, 0, 0),
  (203, .invokevirtual 44, 3, 201, 3, 0, 0, 0),
  (206, .aload_n 0, 1, 0, 0, 0, 0, 0),
  (207, .aload_n 0, 1, 0, 0, 0, 0, 0),
  (208, .iload_n 2, 1, 2, 0, 0, 0, 0),
  (209, .invokevirtual 38, 3, 39, 1, 0, 0, 0),
  (212, .iload_n 2, 1, 2, 0, 0, 0, 0),
  (213, .iload 4, 2, 4, 0, 0, 0, 0),
  (215, .invokevirtual 44, 3, 201, 3, 0, 0, 0),
  (218, .iadd, 1, 0, 0, 0, 0, 0),
  (219, .ireturn, 1, 0, 0, 0, 0, 0),
  (220, .aload_n 0, 1, 0, 0, 0, 0, 0),
  (221, .bipush 20, 2, 0, 0, 0, 20, 0),
  (223, .iload_n 2, 1, 2, 0, 0, 0, 0),
  (224, .iload 4, 2, 4, 0, 0, 0, 0),
  (226, .invokevirtual 44, 3, 201, 3, 0, 0, 0),
  (229, .aload_n 0, 1, 0, 0, 0, 0, 0),
  (230, .getfield 24, 3, 6, 4, 0, 0, 0),
  (233, .iadd, 1, 0, 0, 0, 0, 0),
  (234, .ireturn, 1, 0, 0, 0, 0, 0),
  (235, .iload_n 2, 1, 2, 0, 0, 0, 0),
  (236, .ireturn, 1, 0, 0, 0, 0, 0)]
def hbk201 : List (Nat × hbR) := [(0, .iload_n 3, 1, 3, 0, 0, 0, 0),
  (1, .bipush 8, 2, 0, 0, 0, 8, 0),
  (3, .if_icmp .lt 5, 3, 8, 0, 0, 0, 0),
  (6, .iconst 0, 1, 0, 0, 0, 0, 0),
  (7, .ireturn, 1, 0, 0, 0, 0, 0),
  (8, .aload_n 0, 1, 0, 0, 0, 0, 0),
  (9, .iload_n 1, 1, 1, 0, 0, 0, 0),
  (10, .invokevirtual 48, 3, 42, 1, 0, 0, 0),
  (13, .iload_n 3, 1, 3, 0, 0, 0, 0),
  (14, .iconst 1, 1, 0, 0, 0, 1, 0),
  (15, .iadd, 1, 0, 0, 0, 0, 0),
  (16, .istore 4, 2, 4, 0, 0, 0, 0),
  (18, .iload_n 1, 1, 1, 0, 0, 0, 0),
  (19, .tableswitch 216 10 23 #[69, 75, 98, 110, 123, 146, 216, 216, 216, 216, 216, 158, 178, 201], 69, 0, 0, 0, 0, 0),
  (88, .aload_n 0, 1, 0, 0, 0, 0, 0),
  (89, .iload_n 2, 1, 2, 0, 0, 0, 0),
  (90, .invokevirtual 52, 3, 37, 1, 0, 0, 0),
  (93, .ireturn, 1, 0, 0, 0, 0, 0),
  (94, .aload_n 0, 1, 0, 0, 0, 0, 0),
  (95, .bipush 10, 2, 0, 0, 0, 10, 0),
  (97, .iload_n 2, 1, 2, 0, 0, 0, 0),
  (98, .iload 4, 2, 4, 0, 0, 0, 0),
  (100, .invokevirtual 44, 3, 202, 3, 0, 0, 0),
  (103, .aload_n 0, 1, 0, 0, 0, 0, 0),
  (104, .aload_n 0, 1, 0, 0, 0, 0, 0),
  (105, .iload_n 2, 1, 2, 0, 0, 0, 0),
  (106, .invokevirtual 41, 3, 40, 1, 0, 0, 0),
  (109, .iload_n 2, 1, 2, 0, 0, 0, 0),
  (110, .iload 4, 2, 4, 0, 0, 0, 0),
  (112, .invokevirtual 44, 3, 202, 3, 0, 0, 0),
  (115, .iadd, 1, 0, 0, 0, 0, 0),
  (116, .ireturn, 1, 0, 0, 0, 0, 0),
  (117, .iconst 2, 1, 0, 0, 0, 2, 0),
  (118, .aload_n 0, 1, 0, 0, 0, 0, 0),
  (119, .bipush 11, 2, 0, 0, 0, 11, 0),
  (121, .iload_n 2, 1, 2, 0, 0, 0, 0),
  (122, .iload 4, 2, 4, 0, 0, 0, 0),
  (124, .invokevirtual 44, 3, 202, 3, 0, 0, 0),
  (127, .imul, 1, 0, 0, 0, 0, 0),
  (128, .ireturn, 1, 0, 0, 0, 0, 0),
  (129, .aload_n 0, 1, 0, 0, 0, 0, 0),
  (130, .bipush 10, 2, 0, 0, 0, 10, 0),
  (132, .iload_n 2, 1, 2, 0, 0, 0, 0),
  (133, .iload 4, 2, 4, 0, 0, 0, 0),
  (135, .invokevirtual 44, 3, 202, 3, 0, 0, 0),
  (138, .bipush 50, 2, 0, 0, 0, 50, 0),
  (140, .iadd, 1, 0, 0, 0, 0, 0),
  (141, .ireturn, 1, 0, 0, 0, 0, 0),
  (142, .aload_n 0, 1, 0, 0, 0, 0, 0),
  (143, .bipush 10, 2, 0, 0, 0, 10, 0),
  (145, .iload_n 2, 1, 2, 0, 0, 0, 0),
  (146, .iload 4, 2, 4, 0, 0, 0, 0),
  (148, .invokevirtual 44, 3, 202, 3, 0, 0, 0),
  (151, .aload_n 0, 1, 0, 0, 0, 0, 0),
  (152, .aload_n 0, 1, 0, 0, 0, 0, 0),
  (153, .iload_n 2, 1, 2, 0, 0, 0, 0),
  (154, .invokevirtual 41, 3, 40, 1, 0, 0, 0),
  (157, .iload_n 2, 1, 2, 0, 0, 0, 0),
  (158, .iload 4, 2, 4, 0, 0, 0, 0),
  (160, .invokevirtual 44, 3, 202, 3, 0, 0, 0),
  (163, .isub, 1, 0, 0, 0, 0, 0),
  (164, .ireturn, 1, 0, 0, 0, 0, 0),
  (165, .iconst 2, 1, 0, 0, 0, 2, 0),
  (166, .aload_n 0, 1, 0, 0, 0, 0, 0),
  (167, .bipush 14, 2, 0, 0, 0, 14, 0),
  (169, .iload_n 2, 1, 2, 0, 0, 0, 0),
  (170, .iload 4, 2, 4, 0, 0, 0, 0),
  (172, .invokevirtual 44, 3, 202, 3, 0, 0, 0),
  (175, .imul, 1, 0, 0, 0, 0, 0),
  (176, .ireturn, 1, 0, 0, 0, 0, 0),
  (177, .aload_n 0, 1, 0, 0, 0, 0, 0),
  (178, .bipush 20, 2, 0, 0, 0, 20, 0),
  (180, .iload_n 2, 1, 2, 0, 0, 0, 0),
  (181, .iload 4, 2, 4, 0, 0, 0, 0),
  (183, .invokevirtual 44, 3, 202, 3, 0, 0, 0),
  (186, .bipush 100, 2, 0, 0, 0, 100, 0),
  (188, .aload_n 0, 1, 0, 0, 0, 0, 0),
  (189, .getfield 15, 3, 6, 1, 0, 0, 0),
  (192, .iload_n 2, 1, 2, 0, 0, 0, 0),
  (193, .iaload, 1, 0, 0, 0, 0, 0),
  (194, .imul, 1, 0, 0, 0, 0, 0),
  (195, .iadd, 1, 0, 0, 0, 0, 0),
  (196, .ireturn, 1, 0, 0, 0, 0, 0),
  (197, .aload_n 0, 1, 0, 0, 0, 0, 0),
  (198, .bipush 20, 2, 0, 0, 0, 20, 0),
  (200, .iload_n 2, 1, 2, 0, 0, 0, 0),
  (201, .iload 4, 2, 4, 0, 0, 0, 0),
  (203, .invokevirtual 44, 3, 202, 3, 0, 0, 0),
  (206, .aload_n 0, 1, 0, 0, 0, 0, 0),
  (207, .aload_n 0, 1, 0, 0, 0, 0, 0),
  (208, .iload_n 2, 1, 2, 0, 0, 0, 0),
  (209, .invokevirtual 38, 3, 39, 1, 0, 0, 0),
  (212, .iload_n 2, 1, 2, 0, 0, 0, 0),
  (213, .iload 4, 2, 4, 0, 0, 0, 0),
  (215, .invokevirtual 44, 3, 202, 3, 0, 0, 0),
  (218, .iadd, 1, 0, 0, 0, 0, 0),
  (219, .ireturn, 1, 0, 0, 0, 0, 0),
  (220, .aload_n 0, 1, 0, 0, 0, 0, 0),
  (221, .bipush 20, 2, 0, 0, 0, 20, 0),
  (223, .iload_n 2, 1, 2, 0, 0, 0, 0),
  (224, .iload 4, 2, 4, 0, 0, 0, 0),
  (226, .invokevirtual 44, 3, 202, 3, 0, 0, 0),
  (229, .aload_n 0, 1, 0, 0, 0, 0, 0),
  (230, .getfield 24, 3, 6, 4, 0, 0, 0),
  (233, .iadd, 1, 0, 0, 0, 0, 0),
  (234, .ireturn, 1, 0, 0, 0, 0, 0),
  (235, .iload_n 2, 1, 2, 0, 0, 0, 0),
  (236, .ireturn, 1, 0, 0, 0, 0, 0)]
def hbk202 : List (Nat × hbR) := [(0, .iload_n 3, 1, 3, 0, 0, 0, 0),
  (1, .bipush 8, 2, 0, 0, 0, 8, 0),
  (3, .if_icmp .lt 5, 3, 8, 0, 0, 0, 0),
  (6, .iconst 0, 1, 0, 0, 0, 0, 0),
  (7, .ireturn, 1, 0, 0, 0, 0, 0),
  (8, .aload_n 0, 1, 0, 0, 0, 0, 0),
  (9, .iload_n 1, 1, 1, 0, 0, 0, 0),
  (10, .invokevirtual 48, 3, 42, 1, 0, 0, 0),
  (13, .iload_n 3, 1, 3, 0, 0, 0, 0),
  (14, .iconst 1, 1, 0, 0, 0, 1, 0),
  (15, .iadd, 1, 0, 0, 0, 0, 0),
  (16, .istore 4, 2, 4, 0, 0, 0, 0),
  (18, .iload_n 1, 1, 1, 0, 0, 0, 0),
  (19, .tableswitch 216 10 23 #[69, 75, 98, 110, 123, 146, 216, 216, 216, 216, 216, 158, 178, 201], 69, 0, 0, 0, 0, 0),
  (88, .aload_n 0, 1, 0, 0, 0, 0, 0),
  (89, .iload_n 2, 1, 2, 0, 0, 0, 0),
  (90, .invokevirtual 52, 3, 37, 1, 0, 0, 0),
  (93, .ireturn, 1, 0, 0, 0, 0, 0),
  (94, .aload_n 0, 1, 0, 0, 0, 0, 0),
  (95, .bipush 10, 2, 0, 0, 0, 10, 0),
  (97, .iload_n 2, 1, 2, 0, 0, 0, 0),
  (98, .iload 4, 2, 4, 0, 0, 0, 0),
  (100, .invokevirtual 44, 3, 203, 3, 0, 0, 0),
  (103, .aload_n 0, 1, 0, 0, 0, 0, 0),
  (104, .aload_n 0, 1, 0, 0, 0, 0, 0),
  (105, .iload_n 2, 1, 2, 0, 0, 0, 0),
  (106, .invokevirtual 41, 3, 40, 1, 0, 0, 0),
  (109, .iload_n 2, 1, 2, 0, 0, 0, 0),
  (110, .iload 4, 2, 4, 0, 0, 0, 0),
  (112, .invokevirtual 44, 3, 203, 3, 0, 0, 0),
  (115, .iadd, 1, 0, 0, 0, 0, 0),
  (116, .ireturn, 1, 0, 0, 0, 0, 0),
  (117, .iconst 2, 1, 0, 0, 0, 2, 0),
  (118, .aload_n 0, 1, 0, 0, 0, 0, 0),
  (119, .bipush 11, 2, 0, 0, 0, 11, 0),
  (121, .iload_n 2, 1, 2, 0, 0, 0, 0),
  (122, .iload 4, 2, 4, 0, 0, 0, 0),
  (124, .invokevirtual 44, 3, 203, 3, 0, 0, 0),
  (127, .imul, 1, 0, 0, 0, 0, 0),
  (128, .ireturn, 1, 0, 0, 0, 0, 0),
  (129, .aload_n 0, 1, 0, 0, 0, 0, 0),
  (130, .bipush 10, 2, 0, 0, 0, 10, 0),
  (132, .iload_n 2, 1, 2, 0, 0, 0, 0),
  (133, .iload 4, 2, 4, 0, 0, 0, 0),
  (135, .invokevirtual 44, 3, 203, 3, 0, 0, 0),
  (138, .bipush 50, 2, 0, 0, 0, 50, 0),
  (140, .iadd, 1, 0, 0, 0, 0, 0),
  (141, .ireturn, 1, 0, 0, 0, 0, 0),
  (142, .aload_n 0, 1, 0, 0, 0, 0, 0),
  (143, .bipush 10, 2, 0, 0, 0, 10, 0),
  (145, .iload_n 2, 1, 2, 0, 0, 0, 0),
  (146, .iload 4, 2, 4, 0, 0, 0, 0),
  (148, .invokevirtual 44, 3, 203, 3, 0, 0, 0),
  (151, .aload_n 0, 1, 0, 0, 0, 0, 0),
  (152, .aload_n 0, 1, 0, 0, 0, 0, 0),
  (153, .iload_n 2, 1, 2, 0, 0, 0, 0),
  (154, .invokevirtual 41, 3, 40, 1, 0, 0, 0),
  (157, .iload_n 2, 1, 2, 0, 0, 0, 0),
  (158, .iload 4, 2, 4, 0, 0, 0, 0),
  (160, .invokevirtual 44, 3, 203, 3, 0, 0, 0),
  (163, .isub, 1, 0, 0, 0, 0, 0),
  (164, .ireturn, 1, 0, 0, 0, 0, 0),
  (165, .iconst 2, 1, 0, 0, 0, 2, 0),
  (166, .aload_n 0, 1, 0, 0, 0, 0, 0),
  (167, .bipush 14, 2, 0, 0, 0, 14, 0),
  (169, .iload_n 2, 1, 2, 0, 0, 0, 0),
  (170, .iload 4, 2, 4, 0, 0, 0, 0),
  (172, .invokevirtual 44, 3, 203, 3, 0, 0, 0),
  (175, .imul, 1, 0, 0, 0, 0, 0),
  (176, .ireturn, 1, 0, 0, 0, 0, 0),
  (177, .aload_n 0, 1, 0, 0, 0, 0, 0),
  (178, .bipush 20, 2, 0, 0, 0, 20, 0),
  (180, .iload_n 2, 1, 2, 0, 0, 0, 0),
  (181, .iload 4, 2, 4, 0, 0, 0, 0),
  (183, .invokevirtual 44, 3, 203, 3, 0, 0, 0),
  (186, .bipush 100, 2, 0, 0, 0, 100, 0),
  (188, .aload_n 0, 1, 0, 0, 0, 0, 0),
  (189, .getfield 15, 3, 6, 1, 0, 0, 0),
  (192, .iload_n 2, 1, 2, 0, 0, 0, 0),
  (193, .iaload, 1, 0, 0, 0, 0, 0),
  (194, .imul, 1, 0, 0, 0, 0, 0),
  (195, .iadd, 1, 0, 0, 0, 0, 0),
  (196, .ireturn, 1, 0, 0, 0, 0, 0),
  (197, .aload_n 0, 1, 0, 0, 0, 0, 0),
  (198, .bipush 20, 2, 0, 0, 0, 20, 0),
  (200, .iload_n 2, 1, 2, 0, 0, 0, 0),
  (201, .iload 4, 2, 4, 0, 0, 0, 0),
  (203, .invokevirtual 44, 3, 203, 3, 0, 0, 0),
  (206, .aload_n 0, 1, 0, 0, 0, 0, 0),
  (207, .aload_n 0, 1, 0, 0, 0, 0, 0),
  (208, .iload_n 2, 1, 2, 0, 0, 0, 0),
  (209, .invokevirtual 38, 3, 39, 1, 0, 0, 0),
  (212, .iload_n 2, 1, 2, 0, 0, 0, 0),
  (213, .iload 4, 2, 4, 0, 0, 0, 0),
  (215, .invokevirtual 44, 3, 203, 3, 0, 0, 0),
  (218, .iadd, 1, 0, 0, 0, 0, 0),
  (219, .ireturn, 1, 0, 0, 0, 0, 0),
  (220, .aload_n 0, 1, 0, 0, 0, 0, 0),
  (221, .bipush 20, 2, 0, 0, 0, 20, 0),
  (223, .iload_n 2, 1, 2, 0, 0, 0, 0),
  (224, .iload 4, 2, 4, 0, 0, 0, 0),
  (226, .invokevirtual 44, 3, 203, 3, 0, 0, 0),
  (229, .aload_n 0, 1, 0, 0, 0, 0, 0),
  (230, .getfield 24, 3, 6, 4, 0, 0, 0),
  (233, .iadd, 1, 0, 0, 0, 0, 0),
  (234, .ireturn, 1, 0, 0, 0, 0, 0),
  (235, .iload_n 2, 1, 2, 0, 0, 0, 0),
  (236, .ireturn, 1, 0, 0, 0, 0, 0)]
def hbk203 : List (Nat × hbR) := [(0, .iload_n 3, 1, 3, 0, 0, 0, 0),
  (1, .bipush 8, 2, 0, 0, 0, 8, 0),
  (3, .if_icmp .lt 5, 3, 8, 0, 0, 0, 0),
  (6, .iconst 0, 1, 0, 0, 0, 0, 0),
  (7, .ireturn, 1, 0, 0, 0, 0, 0),
  (8, .aload_n 0, 1, 0, 0, 0, 0, 0),
  (9, .iload_n 1, 1, 1, 0, 0, 0, 0),
  (10, .invokevirtual 48, 3, 42, 1, 0, 0, 0),
  (13, .iload_n 3, 1, 3, 0, 0, 0, 0),
  (14, .iconst 1, 1, 0, 0, 0, 1, 0),
  (15, .iadd, 1, 0, 0, 0, 0, 0),
  (16, .istore 4, 2, 4, 0, 0, 0, 0),
  (18, .iload_n 1, 1, 1, 0, 0, 0, 0),
  (19, .tableswitch 216 10 23 #[69, 75, 98, 110, 123, 146, 216, 216, 216, 216, 216, 158, 178, 201], 69, 0, 0, 0, 0, 0),
  (88, .aload_n 0, 1, 0, 0, 0, 0, 0),
  (89, .iload_n 2, 1, 2, 0, 0, 0, 0),
  (90, .invokevirtual 52, 3, 37, 1, 0, 0, 0),
  (93, .ireturn, 1, 0, 0, 0, 0, 0),
  (94, .aload_n 0, 1, 0, 0, 0, 0, 0),
  (95, .bipush 10, 2, 0, 0, 0, 10, 0),
  (97, .iload_n 2, 1, 2, 0, 0, 0, 0),
  (98, .iload 4, 2, 4, 0, 0, 0, 0),
  (100, .invokevirtual 44, 3, 204, 3, 0, 0, 0),
  (103, .aload_n 0, 1, 0, 0, 0, 0, 0),
  (104, .aload_n 0, 1, 0, 0, 0, 0, 0),
  (105, .iload_n 2, 1, 2, 0, 0, 0, 0),
  (106, .invokevirtual 41, 3, 40, 1, 0, 0, 0),
  (109, .iload_n 2, 1, 2, 0, 0, 0, 0),
  (110, .iload 4, 2, 4, 0, 0, 0, 0),
  (112, .invokevirtual 44, 3, 204, 3, 0, 0, 0),
  (115, .iadd, 1, 0, 0, 0, 0, 0),
  (116, .ireturn, 1, 0, 0, 0, 0, 0),
  (117, .iconst 2, 1, 0, 0, 0, 2, 0),
  (118, .aload_n 0, 1, 0, 0, 0, 0, 0),
  (119, .bipush 11, 2, 0, 0, 0, 11, 0),
  (121, .iload_n 2, 1, 2, 0, 0, 0, 0),
  (122, .iload 4, 2, 4, 0, 0, 0, 0),
  (124, .invokevirtual 44, 3, 204, 3, 0, 0, 0),
  (127, .imul, 1, 0, 0, 0, 0, 0),
  (128, .ireturn, 1, 0, 0, 0, 0, 0),
  (129, .aload_n 0, 1, 0, 0, 0, 0, 0),
  (130, .bipush 10, 2, 0, 0, 0, 10, 0),
  (132, .iload_n 2, 1, 2, 0, 0, 0, 0),
  (133, .iload 4, 2, 4, 0, 0, 0, 0),
  (135, .invokevirtual 44, 3, 204, 3, 0, 0, 0),
  (138, .bipush 50, 2, 0, 0, 0, 50, 0),
  (140, .iadd, 1, 0, 0, 0, 0, 0),
  (141, .ireturn, 1, 0, 0, 0, 0, 0),
  (142, .aload_n 0, 1, 0, 0, 0, 0, 0),
  (143, .bipush 10, 2, 0, 0, 0, 10, 0),
  (145, .iload_n 2, 1, 2, 0, 0, 0, 0),
  (146, .iload 4, 2, 4, 0, 0, 0, 0),
  (148, .invokevirtual 44, 3, 204, 3, 0, 0, 0),
  (151, .aload_n 0, 1, 0, 0, 0, 0, 0),
  (152, .aload_n 0, 1, 0, 0, 0, 0, 0),
  (153, .iload_n 2, 1, 2, 0, 0, 0, 0),
  (154, .invokevirtual 41, 3, 40, 1, 0, 0, 0),
  (157, .iload_n 2, 1, 2, 0, 0, 0, 0),
  (158, .iload 4, 2, 4, 0, 0, 0, 0),
  (160, .invokevirtual 44, 3, 204, 3, 0, 0, 0),
  (163, .isub, 1, 0, 0, 0, 0, 0),
  (164, .ireturn, 1, 0, 0, 0, 0, 0),
  (165, .iconst 2, 1, 0, 0, 0, 2, 0),
  (166, .aload_n 0, 1, 0, 0, 0, 0, 0),
  (167, .bipush 14, 2, 0, 0, 0, 14, 0),
  (169, .iload_n 2, 1, 2, 0, 0, 0, 0),
  (170, .iload 4, 2, 4, 0, 0, 0, 0),
  (172, .invokevirtual 44, 3, 204, 3, 0, 0, 0),
  (175, .imul, 1, 0, 0, 0, 0, 0),
  (176, .ireturn, 1, 0, 0, 0, 0, 0),
  (177, .aload_n 0, 1, 0, 0, 0, 0, 0),
  (178, .bipush 20, 2, 0, 0, 0, 20, 0),
  (180, .iload_n 2, 1, 2, 0, 0, 0, 0),
  (181, .iload 4, 2, 4, 0, 0, 0, 0),
  (183, .invokevirtual 44, 3, 204, 3, 0, 0, 0),
  (186, .bipush 100, 2, 0, 0, 0, 100, 0),
  (188, .aload_n 0, 1, 0, 0, 0, 0, 0),
  (189, .getfield 15, 3, 6, 1, 0, 0, 0),
  (192, .iload_n 2, 1, 2, 0, 0, 0, 0),
  (193, .iaload, 1, 0, 0, 0, 0, 0),
  (194, .imul, 1, 0, 0, 0, 0, 0),
  (195, .iadd, 1, 0, 0, 0, 0, 0),
  (196, .ireturn, 1, 0, 0, 0, 0, 0),
  (197, .aload_n 0, 1, 0, 0, 0, 0, 0),
  (198, .bipush 20, 2, 0, 0, 0, 20, 0),
  (200, .iload_n 2, 1, 2, 0, 0, 0, 0),
  (201, .iload 4, 2, 4, 0, 0, 0, 0),
  (203, .invokevirtual 44, 3, 204, 3, 0, 0, 0),
  (206, .aload_n 0, 1, 0, 0, 0, 0, 0),
  (207, .aload_n 0, 1, 0, 0, 0, 0, 0),
  (208, .iload_n 2, 1, 2, 0, 0, 0, 0),
  (209, .invokevirtual 38, 3, 39, 1, 0, 0, 0),
  (212, .iload_n 2, 1, 2, 0, 0, 0, 0),
  (213, .iload 4, 2, 4, 0, 0, 0, 0),
  (215, .invokevirtual 44, 3, 204, 3, 0, 0, 0),
  (218, .iadd, 1, 0, 0, 0, 0, 0),
  (219, .ireturn, 1, 0, 0, 0, 0, 0),
  (220, .aload_n 0, 1, 0, 0, 0, 0, 0),
  (221, .bipush 20, 2, 0, 0, 0, 20, 0),
  (223, .iload_n 2, 1, 2, 0, 0, 0, 0),
  (224, .iload 4, 2, 4, 0, 0, 0, 0),
  (226, .invokevirtual 44, 3, 204, 3, 0, 0, 0),
  (229, .aload_n 0, 1, 0, 0, 0, 0, 0),
  (230, .getfield 24, 3, 6, 4, 0, 0, 0),
  (233, .iadd, 1, 0, 0, 0, 0, 0),
  (234, .ireturn, 1, 0, 0, 0, 0, 0),
  (235, .iload_n 2, 1, 2, 0, 0, 0, 0),
  (236, .ireturn, 1, 0, 0, 0, 0, 0)]
def hbk204 : List (Nat × hbR) := [(0, .iload_n 3, 1, 3, 0, 0, 0, 0),
  (1, .bipush 8, 2, 0, 0, 0, 8, 0),
  (3, .if_icmp .lt 5, 3, 8, 0, 0, 0, 0),
  (6, .iconst 0, 1, 0, 0, 0, 0, 0),
  (7, .ireturn, 1, 0, 0, 0, 0, 0),
  (8, .aload_n 0, 1, 0, 0, 0, 0, 0),
  (9, .iload_n 1, 1, 1, 0, 0, 0, 0),
  (10, .invokevirtual 48, 3, 42, 1, 0, 0, 0),
  (13, .iload_n 3, 1, 3, 0, 0, 0, 0),
  (14, .iconst 1, 1, 0, 0, 0, 1, 0),
  (15, .iadd, 1, 0, 0, 0, 0, 0),
  (16, .istore 4, 2, 4, 0, 0, 0, 0),
  (18, .iload_n 1, 1, 1, 0, 0, 0, 0),
  (19, .tableswitch 216 10 23 #[69, 75, 98, 110, 123, 146, 216, 216, 216, 216, 216, 158, 178, 201], 69, 0, 0, 0, 0, 0),
  (88, .aload_n 0, 1, 0, 0, 0, 0, 0),
  (89, .iload_n 2, 1, 2, 0, 0, 0, 0),
  (90, .invokevirtual 52, 3, 37, 1, 0, 0, 0),
  (93, .ireturn, 1, 0, 0, 0, 0, 0),
  (94, .aload_n 0, 1, 0, 0, 0, 0, 0),
  (95, .bipush 10, 2, 0, 0, 0, 10, 0),
  (97, .iload_n 2, 1, 2, 0, 0, 0, 0),
  (98, .iload 4, 2, 4, 0, 0, 0, 0),
  (100, .invokevirtual 44, 3, 205, 3, 0, 0, 0),
  (103, .aload_n 0, 1, 0, 0, 0, 0, 0),
  (104, .aload_n 0, 1, 0, 0, 0, 0, 0),
  (105, .iload_n 2, 1, 2, 0, 0, 0, 0),
  (106, .invokevirtual 41, 3, 40, 1, 0, 0, 0),
  (109, .iload_n 2, 1, 2, 0, 0, 0, 0),
  (110, .iload 4, 2, 4, 0, 0, 0, 0),
  (112, .invokevirtual 44, 3, 205, 3, 0, 0, 0),
  (115, .iadd, 1, 0, 0, 0, 0, 0),
  (116, .ireturn, 1, 0, 0, 0, 0, 0),
  (117, .iconst 2, 1, 0, 0, 0, 2, 0),
  (118, .aload_n 0, 1, 0, 0, 0, 0, 0),
  (119, .bipush 11, 2, 0, 0, 0, 11, 0),
  (121, .iload_n 2, 1, 2, 0, 0, 0, 0),
  (122, .iload 4, 2, 4, 0, 0, 0, 0),
  (124, .invokevirtual 44, 3, 205, 3, 0, 0, 0),
  (127, .imul, 1, 0, 0, 0, 0, 0),
  (128, .ireturn, 1, 0, 0, 0, 0, 0),
  (129, .aload_n 0, 1, 0, 0, 0, 0, 0),
  (130, .bipush 10, 2, 0, 0, 0, 10, 0),
  (132, .iload_n 2, 1, 2, 0, 0, 0, 0),
  (133, .iload 4, 2, 4, 0, 0, 0, 0),
  (135, .invokevirtual 44, 3, 205, 3, 0, 0, 0),
  (138, .bipush 50, 2, 0, 0, 0, 50, 0),
  (140, .iadd, 1, 0, 0, 0, 0, 0),
  (141, .ireturn, 1, 0, 0, 0, 0, 0),
  (142, .aload_n 0, 1, 0, 0, 0, 0, 0),
  (143, .bipush 10, 2, 0, 0, 0, 10, 0),
  (145, .iload_n 2, 1, 2, 0, 0, 0, 0),
  (146, .iload 4, 2, 4, 0, 0, 0, 0),
  (148, .invokevirtual 44, 3, 205, 3, 0, 0, 0),
  (151, .aload_n 0, 1, 0, 0, 0, 0, 0),
  (152, .aload_n 0, 1, 0, 0, 0, 0, 0),
  (153, .iload_n 2, 1, 2, 0, 0, 0, 0),
  (154, .invokevirtual 41, 3, 40, 1, 0, 0, 0),
  (157, .iload_n 2, 1, 2, 0, 0, 0, 0),
  (158, .iload 4, 2, 4, 0, 0, 0, 0),
  (160, .invokevirtual 44, 3, 205, 3, 0, 0, 0),
  (163, .isub, 1, 0, 0, 0, 0, 0),
  (164, .ireturn, 1, 0, 0, 0, 0, 0),
  (165, .iconst 2, 1, 0, 0, 0, 2, 0),
  (166, .aload_n 0, 1, 0, 0, 0, 0, 0),
  (167, .bipush 14, 2, 0, 0, 0, 14, 0),
  (169, .iload_n 2, 1, 2, 0, 0, 0, 0),
  (170, .iload 4, 2, 4, 0, 0, 0, 0),
  (172, .invokevirtual 44, 3, 205, 3, 0, 0, 0),
  (175, .imul, 1, 0, 0, 0, 0, 0),
  (176, .ireturn, 1, 0, 0, 0, 0, 0),
  (177, .aload_n 0, 1, 0, 0, 0, 0, 0),
  (178, .bipush 20, 2, 0, 0, 0, 20, 0),
  (180, .iload_n 2, 1, 2, 0, 0, 0, 0),
  (181, .iload 4, 2, 4, 0, 0, 0, 0),
  (183, .invokevirtual 44, 3, 205, 3, 0, 0, 0),
  (186, .bipush 100, 2, 0, 0, 0, 100, 0),
  (188, .aload_n 0, 1, 0, 0, 0, 0, 0),
  (189, .getfield 15, 3, 6, 1, 0, 0, 0),
  (192, .iload_n 2, 1, 2, 0, 0, 0, 0),
  (193, .iaload, 1, 0, 0, 0, 0, 0),
  (194, .imul, 1, 0, 0, 0, 0, 0),
  (195, .iadd, 1, 0, 0, 0, 0, 0),
  (196, .ireturn, 1, 0, 0, 0, 0, 0),
  (197, .aload_n 0, 1, 0, 0, 0, 0, 0),
  (198, .bipush 20, 2, 0, 0, 0, 20, 0),
  (200, .iload_n 2, 1, 2, 0, 0, 0, 0),
  (201, .iload 4, 2, 4, 0, 0, 0, 0),
  (203, .invokevirtual 44, 3, 205, 3, 0, 0, 0),
  (206, .aload_n 0, 1, 0, 0, 0, 0, 0),
  (207, .aload_n 0, 1, 0, 0, 0, 0, 0),
  (208, .iload_n 2, 1, 2, 0, 0, 0, 0),
  (209, .invokevirtual 38, 3, 39, 1, 0, 0, 0),
  (212, .iload_n 2, 1, 2, 0, 0, 0, 0),
  (213, .iload 4, 2, 4, 0, 0, 0, 0),
  (215, .invokevirtual 44, 3, 205, 3, 0, 0, 0),
  (218, .iadd, 1, 0, 0, 0, 0, 0),
  (219, .ireturn, 1, 0, 0, 0, 0, 0),
  (220, .aload_n 0, 1, 0, 0, 0, 0, 0),
  (221, .bipush 20, 2, 0, 0, 0, 20, 0),
  (223, .iload_n 2, 1, 2, 0, 0, 0, 0),
  (224, .iload 4, 2, 4, 0, 0, 0, 0),
  (226, .invokevirtual 44, 3, 205, 3, 0, 0, 0),
  (229, .aload_n 0, 1, 0, 0, 0, 0, 0),
  (230, .getfield 24, 3, 6, 4, 0, 0, 0),
  (233, .iadd, 1, 0, 0, 0, 0, 0),
  (234, .ireturn, 1, 0, 0, 0, 0, 0),
  (235, .iload_n 2, 1, 2, 0, 0, 0, 0),
  (236, .ireturn, 1, 0, 0, 0, 0, 0)]
def hbk205 : List (Nat × hbR) := [(0, .iload_n 3, 1, 3, 0, 0, 0, 0),
  (1, .bipush 8, 2, 0, 0, 0, 8, 0),
  (3, .if_icmp .lt 5, 3, 8, 0, 0, 0, 0),
  (6, .iconst 0, 1, 0, 0, 0, 0, 0),
  (7, .ireturn, 1, 0, 0, 0, 0, 0),
  (8, .aload_n 0, 1, 0, 0, 0, 0, 0),
  (9, .iload_n 1, 1, 1, 0, 0, 0, 0),
  (10, .invokevirtual 48, 3, 42, 1, 0, 0, 0),
  (13, .iload_n 3, 1, 3, 0, 0, 0, 0),
  (14, .iconst 1, 1, 0, 0, 0, 1, 0),
  (15, .iadd, 1, 0, 0, 0, 0, 0),
  (16, .istore 4, 2, 4, 0, 0, 0, 0),
  (18, .iload_n 1, 1, 1, 0, 0, 0, 0),
  (19, .tableswitch 216 10 23 #[69, 75, 98, 110, 123, 146, 216, 216, 216, 216, 216, 158, 178, 201], 69, 0, 0, 0, 0, 0),
  (88, .aload_n 0, 1, 0, 0, 0, 0, 0),
  (89, .iload_n 2, 1, 2, 0, 0, 0, 0),
  (90, .invokevirtual 52, 3, 37, 1, 0, 0, 0),
  (93, .ireturn, 1, 0, 0, 0, 0, 0),
  (94, .aload_n 0, 1, 0, 0, 0, 0, 0),
  (95, .bipush 10, 2, 0, 0, 0, 10, 0),
  (97, .iload_n 2, 1, 2, 0, 0, 0, 0),
  (98, .iload 4, 2, 4, 0, 0, 0, 0),
  (100, .invokevirtual 44, 3, 206, 3, 0, 0, 0),
  (103, .aload_n 0, 1, 0, 0, 0, 0, 0),
  (104, .aload_n 0, 1, 0, 0, 0, 0, 0),
  (105, .iload_n 2, 1, 2, 0, 0, 0, 0),
  (106, .invokevirtual 41, 3, 40, 1, 0, 0, 0),
  (109, .iload_n 2, 1, 2, 0, 0, 0, 0),
  (110, .iload 4, 2, 4, 0, 0, 0, 0),
  (112, .invokevirtual 44, 3, 206, 3, 0, 0, 0),
  (115, .iadd, 1, 0, 0, 0, 0, 0),
  (116, .ireturn, 1, 0, 0, 0, 0, 0),
  (117, .iconst 2, 1, 0, 0, 0, 2, 0),
  (118, .aload_n 0, 1, 0, 0, 0, 0, 0),
  (119, .bipush 11, 2, 0, 0, 0, 11, 0),
  (121, .iload_n 2, 1, 2, 0, 0, 0, 0),
  (122, .iload 4, 2, 4, 0, 0, 0, 0),
  (124, .invokevirtual 44, 3, 206, 3, 0, 0, 0),
  (127, .imul, 1, 0, 0, 0, 0, 0),
  (128, .ireturn, 1, 0, 0, 0, 0, 0),
  (129, .aload_n 0, 1, 0, 0, 0, 0, 0),
  (130, .bipush 10, 2, 0, 0, 0, 10, 0),
  (132, .iload_n 2, 1, 2, 0, 0, 0, 0),
  (133, .iload 4, 2, 4, 0, 0, 0, 0),
  (135, .invokevirtual 44, 3, 206, 3, 0, 0, 0),
  (138, .bipush 50, 2, 0, 0, 0, 50, 0),
  (140, .iadd, 1, 0, 0, 0, 0, 0),
  (141, .ireturn, 1, 0, 0, 0, 0, 0),
  (142, .aload_n 0, 1, 0, 0, 0, 0, 0),
  (143, .bipush 10, 2, 0, 0, 0, 10, 0),
  (145, .iload_n 2, 1, 2, 0, 0, 0, 0),
  (146, .iload 4, 2, 4, 0, 0, 0, 0),
  (148, .invokevirtual 44, 3, 206, 3, 0, 0, 0),
  (151, .aload_n 0, 1, 0, 0, 0, 0, 0),
  (152, .aload_n 0, 1, 0, 0, 0, 0, 0),
  (153, .iload_n 2, 1, 2, 0, 0, 0, 0),
  (154, .invokevirtual 41, 3, 40, 1, 0, 0, 0),
  (157, .iload_n 2, 1, 2, 0, 0, 0, 0),
  (158, .iload 4, 2, 4, 0, 0, 0, 0),
  (160, .invokevirtual 44, 3, 206, 3, 0, 0, 0),
  (163, .isub, 1, 0, 0, 0, 0, 0),
  (164, .ireturn, 1, 0, 0, 0, 0, 0),
  (165, .iconst 2, 1, 0, 0, 0, 2, 0),
  (166, .aload_n 0, 1, 0, 0, 0, 0, 0),
  (167, .bipush 14, 2, 0, 0, 0, 14, 0),
  (169, .iload_n 2, 1, 2, 0, 0, 0, 0),
  (170, .iload 4, 2, 4, 0, 0, 0, 0),
  (172, .invokevirtual 44, 3, 206, 3, 0, 0, 0),
  (175, .imul, 1, 0, 0, 0, 0, 0),
  (176, .ireturn, 1, 0, 0, 0, 0, 0),
  (177, .aload_n 0, 1, 0, 0, 0, 0, 0),
  (178, .bipush 20, 2, 0, 0, 0, 20, 0),
  (180, .iload_n 2, 1, 2, 0, 0, 0, 0),
  (181, .iload 4, 2, 4, 0, 0, 0, 0),
  (183, .invokevirtual 44, 3, 206, 3, 0, 0, 0),
  (186, .bipush 100, 2, 0, 0, 0, 100, 0),
  (188, .aload_n 0, 1, 0, 0, 0, 0, 0),
  (189, .getfield 15, 3, 6, 1, 0, 0, 0),
  (192, .iload_n 2, 1, 2, 0, 0, 0, 0),
  (193, .iaload, 1, 0, 0, 0, 0, 0),
  (194, .imul, 1, 0, 0, 0, 0, 0),
  (195, .iadd, 1, 0, 0, 0, 0, 0),
  (196, .ireturn, 1, 0, 0, 0, 0, 0),
  (197, .aload_n 0, 1, 0, 0, 0, 0, 0),
  (198, .bipush 20, 2, 0, 0, 0, 20, 0),
  (200, .iload_n 2, 1, 2, 0, 0, 0, 0),
  (201, .iload 4, 2, 4, 0, 0, 0, 0),
  (203, .invokevirtual 44, 3, 206, 3, 0, 0, 0),
  (206, .aload_n 0, 1, 0, 0, 0, 0, 0),
  (207, .aload_n 0, 1, 0, 0, 0, 0, 0),
  (208, .iload_n 2, 1, 2, 0, 0, 0, 0),
  (209, .invokevirtual 38, 3, 39, 1, 0, 0, 0),
  (212, .iload_n 2, 1, 2, 0, 0, 0, 0),
  (213, .iload 4, 2, 4, 0, 0, 0, 0),
  (215, .invokevirtual 44, 3, 206, 3, 0, 0, 0),
  (218, .iadd, 1, 0, 0, 0, 0, 0),
  (219, .ireturn, 1, 0, 0, 0, 0, 0),
  (220, .aload_n 0, 1, 0, 0, 0, 0, 0),
  (221, .bipush 20, 2, 0, 0, 0, 20, 0),
  (223, .iload_n 2, 1, 2, 0, 0, 0, 0),
  (224, .iload 4, 2, 4, 0, 0, 0, 0),
  (226, .invokevirtual 44, 3, 206, 3, 0, 0, 0),
  (229, .aload_n 0, 1, 0, 0, 0, 0, 0),
  (230, .getfield 24, 3, 6, 4, 0, 0, 0),
  (233, .iadd, 1, 0, 0, 0, 0, 0),
  (234, .ireturn, 1, 0, 0, 0, 0, 0),
  (235, .iload_n 2, 1, 2, 0, 0, 0, 0),
  (236, .ireturn, 1, 0, 0, 0, 0, 0)]
def hbk206 : List (Nat × hbR) := [(0, .iload_n 3, 1, 3, 0, 0, 0, 0),
  (1, .bipush 8, 2, 0, 0, 0, 8, 0),
  (3, .if_icmp .lt 5, 3, 8, 0, 0, 0, 0),
  (6, .iconst 0, 1, 0, 0, 0, 0, 0),
  (7, .ireturn, 1, 0, 0, 0, 0, 0),
  (8, .aload_n 0, 1, 0, 0, 0, 0, 0),
  (9, .iload_n 1, 1, 1, 0, 0, 0, 0),
  (10, .invokevirtual 48, 3, 42, 1, 0, 0, 0),
  (13, .iload_n 3, 1, 3, 0, 0, 0, 0),
  (14, .iconst 1, 1, 0, 0, 0, 1, 0),
  (15, .iadd, 1, 0, 0, 0, 0, 0),
  (16, .istore 4, 2, 4, 0, 0, 0, 0),
  (18, .iload_n 1, 1, 1, 0, 0, 0, 0),
  (19, .tableswitch 216 10 23 #[69, 75, 98, 110, 123, 146, 216, 216, 216, 216, 216, 158, 178, 201], 69, 0, 0, 0, 0, 0),
  (88, .aload_n 0, 1, 0, 0, 0, 0, 0),
  (89, .iload_n 2, 1, 2, 0, 0, 0, 0),
  (90, .invokevirtual 52, 3, 37, 1, 0, 0, 0),
  (93, .ireturn, 1, 0, 0, 0, 0, 0),
  (94, .aload_n 0, 1, 0, 0, 0, 0, 0),
  (95, .bipush 10, 2, 0, 0, 0, 10, 0),
  (97, .iload_n 2, 1, 2, 0, 0, 0, 0),
  (98, .iload 4, 2, 4, 0, 0, 0, 0),
  (100, .invokevirtual 44, 3, 206, 3, 0, 0, 0),
  (103, .aload_n 0, 1, 0, 0, 0, 0, 0),
  (104, .aload_n 0, 1, 0, 0, 0, 0, 0),
  (105, .iload_n 2, 1, 2, 0, 0, 0, 0),
  (106, .invokevirtual 41, 3, 40, 1, 0, 0, 0),
  (109, .iload_n 2, 1, 2, 0, 0, 0, 0),
  (110, .iload 4, 2, 4, 0, 0, 0, 0),
  (112, .invokevirtual 44, 3, 206, 3, 0, 0, 0),
  (115, .iadd, 1, 0, 0, 0, 0, 0),
  (116, .ireturn, 1, 0, 0, 0, 0, 0),
  (117, .iconst 2, 1, 0, 0, 0, 2, 0),
  (118, .aload_n 0, 1, 0, 0, 0, 0, 0),
  (119, .bipush 11, 2, 0, 0, 0, 11, 0),
  (121, .iload_n 2, 1, 2, 0, 0, 0, 0),
  (122, .iload 4, 2, 4, 0, 0, 0, 0),
  (124, .invokevirtual 44, 3, 206, 3, 0, 0, 0),
  (127, .imul, 1, 0, 0, 0, 0, 0),
  (128, .ireturn, 1, 0, 0, 0, 0, 0),
  (129, .aload_n 0, 1, 0, 0, 0, 0, 0),
  (130, .bipush 10, 2, 0, 0, 0, 10, 0),
  (132, .iload_n 2, 1, 2, 0, 0, 0, 0),
  (133, .iload 4, 2, 4, 0, 0, 0, 0),
  (135, .invokevirtual 44, 3, 206, 3, 0, 0, 0),
  (138, .bipush 50, 2, 0, 0, 0, 50, 0),
  (140, .iadd, 1, 0, 0, 0, 0, 0),
  (141, .ireturn, 1, 0, 0, 0, 0, 0),
  (142, .aload_n 0, 1, 0, 0, 0, 0, 0),
  (143, .bipush 10, 2, 0, 0, 0, 10, 0),
  (145, .iload_n 2, 1, 2, 0, 0, 0, 0),
  (146, .iload 4, 2, 4, 0, 0, 0, 0),
  (148, .invokevirtual 44, 3, 206, 3, 0, 0, 0),
  (151, .aload_n 0, 1, 0, 0, 0, 0, 0),
  (152, .aload_n 0, 1, 0, 0, 0, 0, 0),
  (153, .iload_n 2, 1, 2, 0, 0, 0, 0),
  (154, .invokevirtual 41, 3, 40, 1, 0, 0, 0),
  (157, .iload_n 2, 1, 2, 0, 0, 0, 0),
  (158, .iload 4, 2, 4, 0, 0, 0, 0),
  (160, .invokevirtual 44, 3, 206, 3, 0, 0, 0),
  (163, .isub, 1, 0, 0, 0, 0, 0),
  (164, .ireturn, 1, 0, 0, 0, 0, 0),
  (165, .iconst 2, 1, 0, 0, 0, 2, 0),
  (166, .aload_n 0, 1, 0, 0, 0, 0, 0),
  (167, .bipush 14, 2, 0, 0, 0, 14, 0),
  (169, .iload_n 2, 1, 2, 0, 0, 0, 0),
  (170, .iload 4, 2, 4, 0, 0, 0, 0),
  (172, .invokevirtual 44, 3, 206, 3, 0, 0, 0),
  (175, .imul, 1, 0, 0, 0, 0, 0),
  (176, .ireturn, 1, 0, 0, 0, 0, 0),
  (177, .aload_n 0, 1, 0, 0, 0, 0, 0),
  (178, .bipush 20, 2, 0, 0, 0, 20, 0),
  (180, .iload_n 2, 1, 2, 0, 0, 0, 0),
  (181, .iload 4, 2, 4, 0, 0, 0, 0),
  (183, .invokevirtual 44, 3, 206, 3, 0, 0, 0),
  (186, .bipush 100, 2, 0, 0, 0, 100, 0),
  (188, .aload_n 0, 1, 0, 0, 0, 0, 0),
  (189, .getfield 15, 3, 6, 1, 0, 0, 0),
  (192, .iload_n 2, 1, 2, 0, 0, 0, 0),
  (193, .iaload, 1, 0, 0, 0, 0, 0),
  (194, .imul, 1, 0, 0, 0, 0, 0),
  (195, .iadd, 1, 0, 0, 0, 0, 0),
  (196, .ireturn, 1, 0, 0, 0, 0, 0),
  (197, .aload_n 0, 1, 0, 0, 0, 0, 0),
  (198, .bipush 20, 2, 0, 0, 0, 20, 0),
  (200, .iload_n 2, 1, 2, 0, 0, 0, 0),
  (201, .iload 4, 2, 4, 0, 0, 0, 0),
  (203, .invokevirtual 44, 3, 206, 3, 0, 0, 0),
  (206, .aload_n 0, 1, 0, 0, 0, 0, 0),
  (207, .aload_n 0, 1, 0, 0, 0, 0, 0),
  (208, .iload_n 2, 1, 2, 0, 0, 0, 0),
  (209, .invokevirtual 38, 3, 39, 1, 0, 0, 0),
  (212, .iload_n 2, 1, 2, 0, 0, 0, 0),
  (213, .iload 4, 2, 4, 0, 0, 0, 0),
  (215, .invokevirtual 44, 3, 206, 3, 0, 0, 0),
  (218, .iadd, 1, 0, 0, 0, 0, 0),
  (219, .ireturn, 1, 0, 0, 0, 0, 0),
  (220, .aload_n 0, 1, 0, 0, 0, 0, 0),
  (221, .bipush 20, 2, 0, 0, 0, 20, 0),
  (223, .iload_n 2, 1, 2, 0, 0, 0, 0),
  (224, .iload 4, 2, 4, 0, 0, 0, 0),
  (226, .invokevirtual 44, 3, 206, 3, 0, 0, 0),
  (229, .aload_n 0, 1, 0, 0, 0, 0, 0),
  (230, .getfield 24, 3, 6, 4, 0, 0, 0),
  (233, .iadd, 1, 0, 0, 0, 0, 0),
  (234, .ireturn, 1, 0, 0, 0, 0, 0),
  (235, .iload_n 2, 1, 2, 0, 0, 0, 0),
  (236, .ireturn, 1, 0, 0, 0, 0, 0)]
def hbKs : List (List (Nat × hbR)) := [hbk0, hbk1, hbk2, hbk3, hbk4, hbk5, hbk6, hbk7, hbk8, hbk9, hbk10, hbk11, hbk12, hbk13, hbk14, hbk15, hbk16, hbk17, hbk18, hbk19, hbk20, hbk21, hbk22, hbk23, hbk24, hbk25, hbk26, hbk27, hbk28, hbk29, hbk30, hbk31, hbk32, hbk33, hbk34, hbk35, hbk36, hbk37, hbk38, hbk39, hbk40, hbk41, hbk42, hbk43, hbk44, hbk45, hbk46, hbk47, hbk48, hbk49, hbk50, hbk51, hbk52, hbk53, hbk54, hbk55, hbk56, hbk57, hbk58, hbk59, hbk60, hbk61, hbk62, hbk63, hbk64, hbk65, hbk66, hbk67, hbk68, hbk69, hbk70, hbk71, hbk72, hbk73, hbk74, hbk75, hbk76, hbk77, hbk78, hbk79, hbk80, hbk81, hbk82, hbk83, hbk84, hbk85, hbk86, hbk87, hbk88, hbk89, hbk90, hbk91, hbk92, hbk93, hbk94, hbk95, hbk96, hbk97, hbk98, hbk99, hbk100, hbk101, hbk102, hbk103, hbk104, hbk105, hbk106, hbk107, hbk108, hbk109, hbk110, hbk111, hbk112, hbk113, hbk114, hbk115, hbk116, hbk117, hbk118, hbk119, hbk120, hbk121, hbk122, hbk123, hbk124, hbk125, hbk126, hbk127, hbk128, hbk129, hbk130, hbk131, hbk132, hbk133, hbk134, hbk135, hbk136, hbk137, hbk138, hbk139, hbk140, hbk141, hbk142, hbk143, hbk144, hbk145, hbk146, hbk147, hbk148, hbk149, hbk150, hbk151, hbk152, hbk153, hbk154, hbk155, hbk156, hbk157, hbk158, hbk159, hbk160, hbk161, hbk162, hbk163, hbk164, hbk165, hbk166, hbk167, hbk168, hbk169, hbk170, hbk171, hbk172, hbk173, hbk174, hbk175, hbk176, hbk177, hbk178, hbk179, hbk180, hbk181, hbk182, hbk183, hbk184, hbk185, hbk186, hbk187, hbk188, hbk189, hbk190, hbk191, hbk192, hbk193, hbk194, hbk195, hbk196, hbk197, hbk198, hbk199, hbk200, hbk201, hbk202, hbk203, hbk204, hbk205, hbk206]
-- the links of fields: own type, index, type, field, place among the words
def hbFl : List (Nat × Nat × Nat × Nat × Nat) := [(2, 9, 2, 0, 127), (2, 15, 2, 1, 128), (2, 26, 2, 2, 129), (10, 54, 2, 2, 130), (11, 259, 2, 2, 131), (2, 18, 2, 3, 132), (3, 101, 2, 3, 133), (10, 57, 2, 3, 134), (10, 12, 10, 0, 172), (3, 65, 10, 0, 173), (11, 255, 10, 0, 174), (10, 18, 10, 1, 175), (3, 73, 10, 1, 176), (11, 262, 10, 1, 177), (10, 21, 10, 2, 178), (10, 25, 10, 3, 179), (10, 28, 10, 4, 180), (10, 31, 10, 5, 181), (1, 52, 10, 5, 182), (9, 104, 10, 5, 183), (11, 164, 10, 5, 184), (10, 34, 10, 6, 185), (9, 44, 10, 6, 186), (0, 68, 10, 6, 187), (8, 86, 10, 6, 188), (11, 167, 10, 6, 189), (10, 38, 10, 7, 190), (9, 85, 10, 7, 191), (8, 109, 10, 7, 192), (11, 171, 10, 7, 193), (10, 51, 10, 8, 194), (11, 252, 10, 8, 195), (3, 83, 10, 9, 196), (10, 48, 10, 9, 197), (10, 44, 10, 10, 198), (11, 158, 10, 10, 199), (8, 126, 10, 10, 200), (6, 9, 6, 0, 231), (1, 45, 6, 0, 232), (6, 15, 6, 1, 233), (1, 33, 6, 1, 234), (6, 18, 6, 2, 235), (1, 36, 6, 2, 236), (6, 21, 6, 3, 237), (11, 245, 6, 3, 238), (6, 24, 6, 4, 239), (3, 33, 6, 4, 240), (11, 140, 6, 4, 241), (3, 39, 6, 5, 242), (6, 28, 6, 5, 243), (6, 35, 6, 6, 244), (11, 242, 6, 6, 245), (9, 15, 1, 0, 268), (8, 22, 1, 0, 269), (1, 19, 1, 0, 270), (0, 62, 1, 0, 271), (1, 23, 1, 1, 272), (1, 10, 1, 2, 273), (11, 152, 1, 2, 274), (1, 16, 1, 3, 275), (0, 81, 1, 3, 276), (11, 155, 1, 3, 277), (7, 9, 7, 0, 293), (7, 15, 7, 1, 294), (3, 131, 7, 1, 295), (7, 18, 7, 2, 296), (3, 45, 7, 2, 297), (7, 21, 7, 3, 298), (3, 59, 7, 3, 299), (11, 132, 7, 3, 300), (3, 9, 3, 0, 316), (3, 15, 3, 1, 317), (3, 19, 3, 2, 318), (11, 141, 3, 3, 319), (3, 128, 3, 3, 320), (11, 148, 3, 4, 321), (3, 134, 3, 4, 322), (3, 42, 3, 5, 323), (3, 49, 3, 6, 324), (5, 9, 5, 0, 345), (11, 108, 5, 0, 346), (5, 15, 5, 1, 347), (11, 101, 5, 1, 348), (5, 19, 5, 2, 349), (11, 115, 5, 2, 350), (5, 23, 5, 3, 351), (11, 125, 5, 3, 352), (4, 9, 4, 0, 368), (0, 19, 4, 0, 369), (8, 37, 4, 0, 370), (9, 88, 4, 0, 371), (4, 15, 4, 1, 372), (0, 28, 4, 1, 373), (8, 42, 4, 1, 374), (9, 92, 4, 1, 375), (4, 18, 4, 2, 376), (0, 34, 4, 2, 377), (9, 101, 4, 2, 378), (4, 21, 4, 3, 379), (4, 24, 4, 4, 380), (8, 106, 4, 4, 381), (9, 9, 9, 0, 399), (9, 21, 9, 1, 400), (9, 22, 9, 2, 401), (9, 36, 9, 3, 402), (11, 192, 9, 3, 403), (9, 62, 9, 4, 404), (11, 195, 9, 4, 405), (9, 31, 9, 5, 406), (11, 189, 9, 5, 407), (9, 79, 9, 6, 408), (11, 214, 9, 6, 409), (9, 82, 9, 7, 410), (11, 217, 9, 7, 411), (9, 65, 9, 8, 412), (8, 18, 8, 0, 438), (8, 28, 8, 1, 439), (8, 29, 8, 2, 440), (8, 9, 8, 3, 441), (8, 15, 8, 4, 442), (8, 78, 8, 5, 443), (8, 65, 8, 6, 444), (8, 69, 8, 7, 445), (8, 73, 8, 8, 446), (0, 9, 0, 0, 472), (0, 15, 0, 1, 473), (0, 41, 0, 2, 474), (11, 205, 0, 2, 475), (0, 45, 0, 3, 476), (11, 208, 0, 3, 477), (0, 25, 0, 4, 478), (0, 31, 0, 5, 479), (0, 37, 0, 6, 480), (0, 51, 0, 7, 481), (11, 11, 11, 0, 499), (11, 18, 11, 1, 500), (11, 25, 11, 2, 501), (11, 34, 11, 3, 502), (11, 41, 11, 4, 503), (11, 50, 11, 5, 504), (11, 63, 11, 6, 505), (11, 70, 11, 7, 506), (11, 77, 11, 8, 507), (11, 265, 11, 9, 508), (11, 144, 11, 10, 509), (12, 87, 12, 0, 1047), (12, 91, 12, 1, 1048), (12, 7, 12, 2, 1049), (12, 13, 12, 3, 1050), (12, 16, 12, 4, 1051), (12, 226, 12, 5, 1052), (12, 19, 12, 6, 1053), (12, 22, 12, 7, 1054), (12, 25, 12, 8, 1055), (12, 229, 12, 9, 1056), (12, 232, 12, 10, 1057), (12, 235, 12, 11, 1058), (12, 201, 12, 12, 1059), (12, 206, 12, 13, 1060), (12, 211, 12, 14, 1061), (12, 196, 12, 15, 1062), (12, 28, 12, 16, 1063), (12, 31, 12, 17, 1064), (12, 34, 12, 18, 1065), (12, 37, 12, 19, 1066), (12, 40, 12, 20, 1067), (12, 43, 12, 21, 1068), (12, 46, 12, 22, 1069), (12, 114, 12, 23, 1070), (12, 241, 12, 24, 1071), (12, 120, 12, 25, 1072), (12, 124, 12, 26, 1073), (12, 133, 12, 27, 1074), (12, 130, 12, 28, 1075), (12, 142, 12, 29, 1076), (12, 145, 12, 30, 1077), (12, 148, 12, 31, 1078), (12, 49, 12, 32, 1079), (12, 52, 12, 33, 1080), (12, 255, 12, 34, 1081), (12, 56, 12, 35, 1082), (12, 60, 12, 36, 1083), (12, 304, 12, 37, 1084), (12, 63, 12, 38, 1085), (12, 66, 12, 39, 1086), (12, 69, 12, 40, 1087), (12, 72, 12, 41, 1088), (12, 326, 12, 42, 1089), (12, 323, 12, 43, 1090), (12, 75, 12, 44, 1091), (12, 78, 12, 45, 1092), (12, 81, 12, 46, 1093), (12, 84, 12, 47, 1094), (12, 359, 12, 48, 1095)]
def hbCs : List (Nat × Nat × Int32 × Nat) := [(1, 9, (-1000000), 267), (11, 89, (-1000001), 543), (11, 268, (-1000010), 548), (11, 135, (-1000003), 591), (3, 93, (-1000000), 695), (11, 147, (-1000100), 744), (11, 151, (-1000000), 754), (9, 35, (-1000000), 820), (8, 81, (-1000000), 848), (0, 40, (-1000000), 889), (13, 265, 1431655765, 976), (13, 266, 858993459, 977), (13, 267, 252645135, 978), (12, 55, 52224, 1046), (12, 107, (-1000001), 1207), (12, 94, (-1000010), 1212), (12, 117, (-1000003), 1230), (12, 123, (-1000000), 1244), (12, 244, (-1000100), 1303)]
def hbCL : List (Nat × Nat × Int64 × Nat) := [(12, 95, 7, 1202), (12, 105, 2, 1206), (12, 112, 8, 1229), (12, 118, 255, 1231), (12, 199, 1718382455, 1259), (12, 204, 6447460, 1260), (12, 209, 1735356260, 1261), (12, 214, 1937007984, 1262), (12, 216, 30064, 1275), (12, 218, 1685026670, 1276), (12, 166, 1869636974, 1285), (12, 168, 1936225652, 1286), (12, 170, 418263299685, 1287), (12, 172, 422608400247, 1288), (12, 174, 2002872692, 1289), (12, 176, 26982, 1290), (12, 178, 26479, 1291), (12, 180, 6647396, 1292), (12, 186, 3, 1293), (12, 194, 6385252, 1298), (12, 253, 99, 1322), (12, 245, 1023, 1334), (12, 281, 20, 1366), (12, 290, 16, 1374), (12, 310, 4, 1407), (12, 354, 5, 1479)]
-- the words of each method: its number, the places of its code, of its type, of its kind, of its choice
def hbMf : List (Nat × Nat × Nat × Nat × Nat) := [(0, 888, 96, 886, 887), (1, 919, 96, 918, 34), (2, 894, 96, 893, 28), (3, 907, 96, 906, 31), (4, 899, 96, 898, 29), (5, 911, 96, 910, 32), (6, 915, 96, 914, 33), (7, 903, 96, 902, 30), (8, 786, 89, 784, 785), (9, 828, 89, 826, 827), (10, 803, 89, 801, 802), (11, 955, 89, 954, 0), (12, 722, 86, 720, 721), (13, 165, 86, 163, 164), (14, 599, 91, 597, 598), (15, 678, 91, 677, 7), (16, 682, 91, 681, 8), (17, 707, 91, 706, 13), (18, 727, 91, 726, 16), (19, 735, 91, 734, 18), (20, 711, 91, 710, 14), (21, 715, 91, 714, 15), (22, 731, 91, 730, 17), (23, 694, 91, 693, 11), (24, 703, 91, 702, 12), (25, 686, 91, 685, 9), (26, 690, 91, 689, 10), (27, 819, 93, 817, 818), (28, 824, 93, 822, 823), (29, 552, 92, 550, 551), (30, 567, 92, 565, 566), (31, 571, 92, 569, 570), (32, 790, 88, 788, 789), (33, 807, 88, 805, 806), (34, 739, 88, 737, 738), (35, 986, 88, 984, 985), (36, 994, 88, 992, 993), (37, 1023, 88, 1021, 1022), (38, 1003, 88, 1001, 1002), (39, 1007, 88, 1006, 40), (40, 1011, 88, 1010, 41), (41, 1015, 88, 1014, 42), (42, 1019, 88, 1018, 43), (43, 590, 90, 588, 589), (44, 603, 90, 601, 602), (45, 607, 90, 606, 4), (46, 617, 90, 616, 5), (47, 621, 90, 620, 6), (48, 610, 90, 609, 0), (49, 613, 90, 612, 0), (50, 838, 95, 836, 837), (51, 842, 95, 841, 19), (52, 847, 95, 846, 20), (53, 853, 95, 852, 21), (54, 879, 95, 878, 27), (55, 857, 95, 856, 22), (56, 862, 95, 861, 23), (57, 867, 95, 866, 24), (58, 871, 95, 870, 25), (59, 875, 95, 874, 26), (60, 963, 95, 961, 962), (61, 972, 95, 971, 39), (62, 967, 95, 966, 38), (63, 815, 94, 813, 814), (64, 947, 94, 945, 946), (65, 951, 94, 950, 37), (66, 929, 94, 927, 928), (67, 933, 94, 932, 35), (68, 937, 94, 936, 36), (69, 718, 85, 717, 0), (70, 168, 85, 167, 0), (71, 795, 85, 793, 794), (72, 699, 85, 697, 698), (73, 674, 85, 672, 673), (74, 743, 85, 741, 742), (75, 148, 85, 147, 0), (76, 152, 85, 151, 1), (77, 155, 85, 154, 0), (78, 536, 84, 534, 535), (79, 563, 84, 561, 562), (80, 575, 84, 573, 574), (81, 582, 84, 580, 581), (82, 586, 84, 584, 585), (83, 595, 84, 593, 594), (84, 749, 84, 747, 748), (85, 753, 84, 751, 752), (86, 758, 84, 756, 757), (87, 762, 84, 760, 761), (88, 766, 84, 764, 765), (89, 773, 84, 771, 772), (90, 778, 84, 776, 777), (91, 782, 84, 780, 781), (92, 799, 84, 797, 798), (93, 811, 84, 809, 810), (94, 834, 84, 832, 833), (95, 884, 84, 882, 883), (96, 925, 84, 923, 924), (97, 942, 84, 940, 941), (98, 959, 84, 957, 958), (99, 982, 84, 980, 981), (100, 990, 84, 988, 989), (101, 999, 84, 997, 998), (102, 1027, 84, 1025, 1026), (103, 1031, 84, 1029, 1030), (104, 1039, 84, 1037, 1038), (105, 547, 84, 546, 2), (106, 559, 84, 558, 3), (107, 1035, 84, 1034, 44), (108, 539, 84, 538, 0), (109, 769, 84, 768, 0), (110, 542, 84, 541, 0), (111, 171, 84, 170, 0), (112, 1205, 97, 1204, 0), (113, 1211, 97, 1210, 45), (114, 1201, 97, 1200, 0), (115, 1198, 97, 1196, 1197), (116, 1216, 97, 1214, 1215), (117, 1220, 97, 1218, 1219), (118, 1224, 97, 1222, 1223), (119, 1228, 97, 1226, 1227), (120, 1243, 97, 1242, 47), (121, 1247, 97, 1246, 0), (122, 1250, 97, 1249, 0), (123, 1239, 97, 1238, 46), (124, 1266, 97, 1265, 50), (125, 1270, 97, 1269, 51), (126, 1258, 97, 1257, 49), (127, 1274, 97, 1273, 52), (128, 1284, 97, 1283, 54), (129, 1297, 97, 1296, 55), (130, 1280, 97, 1279, 53), (131, 1302, 97, 1301, 56), (132, 1254, 97, 1253, 48), (133, 1235, 97, 1233, 1234), (134, 1307, 97, 1305, 1306), (135, 1314, 97, 1313, 0), (136, 1333, 97, 1332, 0), (137, 1321, 97, 1320, 0), (138, 1311, 97, 1309, 1310), (139, 1318, 97, 1316, 1317), (140, 1326, 97, 1324, 1325), (141, 1341, 97, 1340, 0), (142, 1338, 97, 1337, 57), (143, 1330, 97, 1328, 1329), (144, 1357, 97, 1356, 60), (145, 1353, 97, 1352, 59), (146, 1349, 97, 1348, 58), (147, 1361, 97, 1360, 61), (148, 1345, 97, 1343, 1344), (149, 1365, 97, 1363, 1364), (150, 1386, 97, 1385, 64), (151, 1382, 97, 1381, 63), (152, 1378, 97, 1377, 62), (153, 1394, 97, 1393, 65), (154, 1373, 97, 1372, 0), (155, 1370, 97, 1368, 1369), (156, 1390, 97, 1388, 1389), (157, 1402, 97, 1401, 66), (158, 1398, 97, 1396, 1397), (159, 1415, 97, 1414, 68), (160, 1411, 97, 1410, 67), (161, 1419, 97, 1418, 69), (162, 1423, 97, 1422, 70), (163, 1406, 97, 1404, 1405), (164, 1431, 97, 1430, 71), (165, 1427, 97, 1425, 1426), (166, 1439, 97, 1438, 72), (167, 1435, 97, 1433, 1434), (168, 1447, 97, 1446, 73), (169, 1443, 97, 1441, 1442), (170, 1455, 97, 1454, 74), (171, 1462, 97, 1461, 0), (172, 1459, 97, 1458, 75), (173, 1451, 97, 1449, 1450), (174, 1470, 97, 1469, 76), (175, 1474, 97, 1473, 77), (176, 1482, 97, 1481, 0), (177, 1466, 97, 1464, 1465), (178, 1478, 97, 1476, 1477), (179, 1498, 97, 1497, 80), (180, 1502, 97, 1501, 81), (181, 1494, 97, 1493, 79), (182, 1506, 97, 1505, 82), (183, 1490, 97, 1489, 78), (184, 1486, 97, 1484, 1485), (185, 1510, 97, 1508, 1509), (186, 1514, 97, 1512, 1513), (187, 1518, 97, 1516, 1517), (188, 975, 104, 974, 0), (189, 161, 87, 160, 0), (190, 158, 87, 157, 0), (191, 626, 100, 624, 625), (192, 636, 100, 634, 635), (193, 630, 100, 628, 629), (194, 640, 100, 638, 639), (195, 646, 100, 645, 0), (196, 643, 101, 642, 0), (197, 555, 98, 554, 0), (198, 651, 102, 650, 0)]
-- the links of methods: own type, index, method, place
def hbMl : List (Nat × Nat × Nat × Nat) := [(10, 41, 75, 145), (10, 60, 76, 149), (10, 64, 77, 153), (10, 71, 190, 156), (10, 76, 189, 159), (10, 68, 13, 162), (2, 29, 70, 166), (11, 81, 108, 537), (11, 85, 110, 540), (11, 90, 105, 544), (11, 94, 29, 549), (5, 26, 197, 553), (11, 98, 106, 556), (11, 105, 30, 564), (11, 112, 31, 568), (11, 128, 43, 587), (11, 136, 14, 596), (3, 23, 44, 600), (7, 25, 45, 604), (7, 33, 48, 608), (7, 37, 49, 611), (7, 29, 46, 614), (7, 40, 47, 618), (7, 45, 191, 623), (15, 335, 193, 627), (7, 51, 192, 633), (15, 492, 194, 637), (15, 495, 196, 641), (16, 9, 195, 644), (15, 1059, 198, 649), (3, 28, 73, 671), (3, 52, 15, 675), (3, 62, 16, 679), (3, 79, 25, 683), (3, 86, 26, 687), (3, 89, 23, 691), (3, 94, 72, 696), (3, 98, 24, 700), (3, 69, 17, 704), (3, 104, 20, 708), (3, 112, 21, 712), (3, 124, 69, 716), (3, 108, 12, 719), (3, 76, 18, 724), (3, 115, 22, 728), (3, 118, 19, 732), (3, 121, 34, 736), (3, 56, 74, 740), (11, 161, 109, 767), (11, 174, 111, 774), (11, 178, 8, 783), (1, 27, 32, 787), (1, 39, 70, 791), (1, 48, 71, 792), (11, 181, 10, 800), (1, 55, 33, 804), (11, 185, 63, 812), (9, 26, 27, 816), (9, 40, 28, 821), (9, 50, 9, 825), (9, 58, 8, 830), (11, 198, 50, 835), (8, 33, 51, 839), (8, 76, 27, 843), (8, 45, 52, 844), (8, 82, 28, 849), (8, 49, 53, 850), (8, 92, 55, 854), (8, 96, 8, 858), (8, 99, 56, 859), (8, 53, 57, 864), (8, 112, 58, 868), (8, 115, 59, 872), (8, 61, 54, 876), (8, 102, 10, 880), (11, 202, 0, 885), (0, 48, 27, 890), (0, 54, 2, 891), (0, 88, 28, 895), (0, 92, 4, 896), (0, 99, 7, 900), (0, 58, 3, 904), (0, 95, 5, 908), (0, 102, 6, 912), (0, 74, 1, 916), (0, 77, 8, 920), (0, 84, 10, 921), (11, 211, 66, 926), (9, 95, 67, 930), (9, 98, 68, 934), (9, 107, 71, 938), (11, 220, 32, 943), (11, 222, 64, 944), (9, 68, 65, 948), (9, 72, 10, 952), (9, 76, 11, 953), (11, 225, 60, 960), (8, 119, 62, 964), (8, 129, 50, 968), (8, 122, 61, 969), (11, 228, 188, 973), (11, 233, 35, 983), (11, 236, 36, 991), (6, 31, 35, 995), (11, 239, 38, 1000), (6, 38, 39, 1004), (6, 41, 40, 1008), (6, 44, 41, 1012), (6, 48, 42, 1016), (6, 52, 37, 1020), (11, 248, 107, 1032), (12, 101, 114, 1199), (12, 97, 112, 1203), (12, 108, 113, 1208), (12, 155, 123, 1236), (12, 127, 120, 1240), (12, 136, 121, 1245), (12, 139, 122, 1248), (12, 238, 132, 1251), (12, 162, 126, 1255), (12, 151, 124, 1263), (12, 158, 125, 1267), (12, 188, 127, 1271), (12, 220, 130, 1277), (12, 182, 128, 1281), (12, 191, 129, 1294), (12, 223, 131, 1299), (12, 247, 135, 1312), (12, 250, 137, 1319), (12, 262, 136, 1331), (12, 265, 142, 1335), (12, 258, 141, 1339), (12, 275, 146, 1346), (12, 272, 145, 1350), (12, 268, 144, 1354), (12, 278, 147, 1358), (12, 292, 154, 1371), (12, 295, 152, 1375), (12, 283, 151, 1379), (12, 286, 150, 1383), (12, 298, 153, 1391), (12, 301, 157, 1399), (12, 312, 160, 1408), (12, 307, 159, 1412), (12, 316, 161, 1416), (12, 320, 162, 1420), (12, 329, 164, 1428), (12, 332, 166, 1436), (12, 335, 168, 1444), (12, 339, 170, 1452), (12, 342, 172, 1456), (12, 345, 171, 1460), (12, 348, 174, 1467), (12, 351, 175, 1471), (12, 356, 176, 1480), (12, 374, 183, 1487), (12, 368, 181, 1491), (12, 362, 179, 1495), (12, 365, 180, 1499), (12, 371, 182, 1503)]
def hbMn : List (Nat × Nat × Nat) := [(2, 34, 111), (2, 22, 110), (9, 54, 111), (8, 57, 111)]
end
section
/-! THE SMALL MACHINE: a method's bytecode read over named cells. A state: place, locals, stack, memory (cell, index ↦ int). References are numbers of cells. -/
abbrev hbM : Type := Nat → Nat → Int32
abbrev hbS : Type := Nat × Nat × List (Option Nat)
abbrev hbT : Type := Nat × List Value × List Value × hbM
abbrev hbO : Type := Option Value × hbM
abbrev hbX : Type := List Bool × List Value × List Value × hbM
def hb_up (σ : hbM) (c i : Nat) (v : Int32) : hbM := fun c' => if c' = c then upd (σ c') i v else σ c'
def hb_cpy (σ : hbM) (c0 c1 sp dp n : Nat) : hbM := fun c' => if c' = c1 then va_cpy (σ c0) (σ c') sp dp n else σ c'
def hb_in (i : Int32) (n : Nat) : Bool := !(decide (i < 0) || decide (n ≤ i.toNatClampNeg))
def hb_01 (x : Int32) : Bool := x == 0 || x == 1
/-- the text of the words, a byte a place -/
def hbW : List Int32 := [102, 108, 111, 119, 32, 98, 97, 100, 32, 103, 111, 111, 100, 32, 115, 116, 101, 112, 32, 97, 110, 100, 32, 117, 112, 32, 100, 111, 119, 110, 32, 111, 112, 101, 110, 32, 115, 104, 117, 116, 32, 97, 98, 111, 118, 101, 32, 98, 101, 108, 111, 119, 32, 119, 97, 105, 116, 32, 105, 102, 32, 103, 111, 32, 101, 110, 100, 32]
def hb_set : List Value → Nat → Value → Option (List Value)
  | [], _, _ => none
  | _ :: l, 0, v => some (v :: l)
  | x :: l, i + 1, v => match hb_set l i v with
    | none => none
    | some l' => some (x :: l')
def hb_sto (loc : List Value) (i : Nat) (v : Value) : Option (List Value) :=
  match i with
  | 0 => hb_set loc 0 v
  | j + 1 => match loc[j]? with
    | some (.long _) => none
    | some (.double _) => none
    | _ => hb_set loc (j + 1) v
def hb_ii (loc stk : List Value) (σ : hbM) (g : Int32 → Int32 → List Bool) (f : Int32 → Int32 → Value) : Option hbX :=
  match stk with
  | .int y :: .int x :: t => some (g x y, loc, f x y :: t, σ)
  | _ => none
def hb_ll (loc stk : List Value) (σ : hbM) (f : Int64 → Int64 → Value) : Option hbX :=
  match stk with
  | .long y :: .long x :: t => some ([], loc, f x y :: t, σ)
  | _ => none
def hb_li (loc stk : List Value) (σ : hbM) (f : Int64 → Int32 → Value) : Option hbX :=
  match stk with
  | .int y :: .long x :: t => some ([], loc, f x y :: t, σ)
  | _ => none
def hb_i (loc stk : List Value) (σ : hbM) (f : Int32 → Value) : Option hbX :=
  match stk with
  | .int x :: t => some ([], loc, f x :: t, σ)
  | _ => none
def hb_l (loc stk : List Value) (σ : hbM) (f : Int64 → Value) : Option hbX :=
  match stk with
  | .long x :: t => some ([], loc, f x :: t, σ)
  | _ => none
def hb_ldi (loc stk : List Value) (σ : hbM) (a : Nat) : Option hbX :=
  match loc[a]? with
  | some (.int x) => some ([], loc, .int x :: stk, σ)
  | _ => none
def hb_ldl (loc stk : List Value) (σ : hbM) (a : Nat) : Option hbX :=
  match loc[a]? with
  | some (.long x) => some ([], loc, .long x :: stk, σ)
  | _ => none
def hb_lda (loc stk : List Value) (σ : hbM) (a : Nat) : Option hbX :=
  match loc[a]? with
  | some (.ref x) => some ([], loc, .ref x :: stk, σ)
  | _ => none
def hb_put (o : Option (List Value)) (stk : List Value) (σ : hbM) : Option hbX :=
  match o with
  | some l => some ([], l, stk, σ)
  | none => none
def hb_sti (loc stk : List Value) (σ : hbM) (a : Nat) : Option hbX :=
  match stk with
  | .int x :: t => hb_put (hb_sto loc a (.int x)) t σ
  | _ => none
def hb_sta (loc stk : List Value) (σ : hbM) (a : Nat) : Option hbX :=
  match stk with
  | .ref x :: t => hb_put (hb_sto loc a (.ref x)) t σ
  | _ => none
def hb_stl (loc stk : List Value) (σ : hbM) (a : Nat) : Option hbX :=
  match stk with
  | .long x :: t => (match hb_sto loc a (.long x) with
    | some l => hb_put (hb_set l (a + 1) .null) t σ
    | none => none)
  | _ => none
def hb_inc (loc stk : List Value) (σ : hbM) (a : Nat) (z : Int32) : Option hbX :=
  match loc[a]? with
  | some (.int x) => hb_put (hb_sto loc a (.int (x + z))) stk σ
  | _ => none
def hb_get (sh : List hbS) (loc stk : List Value) (σ : hbM) (a b : Nat) : Option hbX :=
  match stk with
  | .ref c :: t => (match sh[c]? with
    | some (0, ci, fs) => if ci = a then (match fs[b]? with
      | some none => some ([], loc, .int (σ c b) :: t, σ)
      | some (some k) => some ([], loc, .ref k :: t, σ)
      | none => none) else none
    | _ => none)
  | _ => none
/-- the text and its bytes: cells 1000, 1001 -/
def hb_getS (loc stk : List Value) (σ : hbM) (b : Nat) : Option hbX :=
  match stk with
  | .ref 1000 :: t => (match b with
    | 0 => some ([], loc, .ref 1001 :: t, σ)
    | _ => some ([], loc, .int 0 :: t, σ))
  | _ => none
def hb_putf (sh : List hbS) (loc stk : List Value) (σ : hbM) (a b d : Nat) : Option hbX :=
  match stk with
  | .int x :: .ref c :: t => (match sh[c]? with
    | some (0, ci, fs) => if ci = a then (match fs[b]? with
      | some none => (match d with
        | 0 => some ([], loc, t, hb_up σ c b x)
        | _ => some ([hb_01 x], loc, t, hb_up σ c b x))
      | _ => none) else none
    | _ => none)
  | _ => none
def hb_ald (sh : List hbS) (k : Nat) (loc stk : List Value) (σ : hbM) : Option hbX :=
  match stk with
  | .int i :: .ref c :: t => (match sh[c]? with
    | some (k', n, _) => if k' = k then some ([hb_in i n], loc, .int (σ c i.toNatClampNeg) :: t, σ) else none
    | _ => none)
  | _ => none
def hb_aldS (loc stk : List Value) (σ : hbM) : Option hbX :=
  match stk with
  | .int i :: .ref 1001 :: t => some ([hb_in i 68], loc, .int (hbW.getD i.toNatClampNeg 0) :: t, σ)
  | _ => none
def hb_ast (sh : List hbS) (k : Nat) (loc stk : List Value) (σ : hbM) (g : Int32 → List Bool) : Option hbX :=
  match stk with
  | .int x :: .int i :: .ref c :: t => (match sh[c]? with
    | some (k', n, _) => if k' = k then some (hb_in i n :: g x, loc, t, hb_up σ c i.toNatClampNeg x) else none
    | _ => none)
  | _ => none
def hb_aaq (sh : List hbS) (loc stk : List Value) (σ : hbM) : Option hbX :=
  match stk with
  | .int i :: .ref c :: t => (match sh[c]? with
    | some (3, n, fs) => (match fs[i.toNatClampNeg]? with
      | some (some k) => some ([hb_in i n], loc, .ref k :: t, σ)
      | _ => none)
    | _ => none)
  | _ => none
def hb_len (sh : List hbS) (loc stk : List Value) (σ : hbM) : Option hbX :=
  match stk with
  | .ref c :: t => (match sh[c]? with
    | some (1, n, _) => some ([], loc, .int (nI n) :: t, σ)
    | _ => none)
  | _ => none
def hb_lenS (loc stk : List Value) (σ : hbM) : Option hbX :=
  match stk with
  | .ref 1001 :: t => some ([], loc, .int 68 :: t, σ)
  | _ => none
def hb_dup (loc stk : List Value) (σ : hbM) : Option hbX :=
  match stk with
  | .int x :: t => some ([], loc, .int x :: .int x :: t, σ)
  | .ref x :: t => some ([], loc, .ref x :: .ref x :: t, σ)
  | _ => none
def hb_dup2 (loc stk : List Value) (σ : hbM) : Option hbX :=
  match stk with
  | .int x :: .ref c :: t => some ([], loc, .int x :: .ref c :: .int x :: .ref c :: t, σ)
  | _ => none
def hb_pop (loc stk : List Value) (σ : hbM) : Option hbX :=
  match stk with
  | .int _ :: t => some ([], loc, t, σ)
  | _ => none
def hb_acp (sh : List hbS) (loc stk : List Value) (σ : hbM) : Option hbX :=
  match stk with
  | [.int n, .int dp, .ref c1, .int sp, .ref c0] => (match sh[c0]?, sh[c1]? with
    | some (1, n0, _), some (1, n1, _) => some ([decide (¬ sp < 0), decide (¬ dp < 0), decide (¬ n < 0), decide (sp.toNatClampNeg + n.toNatClampNeg ≤ n0), decide (dp.toNatClampNeg + n.toNatClampNeg ≤ n1)], loc, [], hb_cpy σ c0 c1 sp.toNatClampNeg dp.toNatClampNeg n.toNatClampNeg)
    | _, _ => none)
  | _ => none
/-- one plain instruction -/
def hb_x (sh : List hbS) (r : hbR) (loc stk : List Value) (σ : hbM) : Option hbX :=
  match r with
  | (op, _, a, b, d, z, w) => match op with
    | .iconst _ => some ([], loc, .int z :: stk, σ)
    | .bipush _ => some ([], loc, .int z :: stk, σ)
    | .sipush _ => some ([], loc, .int z :: stk, σ)
    | .ldc _ => (match d with
      | 0 => some ([], loc, .int z :: stk, σ)
      | _ => some ([], loc, .ref 1000 :: stk, σ))
    | .ldc_w _ => some ([], loc, .int z :: stk, σ)
    | .lconst _ => some ([], loc, .long w :: stk, σ)
    | .ldc2_w _ => some ([], loc, .long w :: stk, σ)
    | .iload_n _ => hb_ldi loc stk σ a
    | .iload _ => hb_ldi loc stk σ a
    | .lload_n _ => hb_ldl loc stk σ a
    | .lload _ => hb_ldl loc stk σ a
    | .aload_n _ => hb_lda loc stk σ a
    | .aload _ => hb_lda loc stk σ a
    | .istore_n _ => hb_sti loc stk σ a
    | .istore _ => hb_sti loc stk σ a
    | .lstore_n _ => hb_stl loc stk σ a
    | .lstore _ => hb_stl loc stk σ a
    | .astore_n _ => hb_sta loc stk σ a
    | .astore _ => hb_sta loc stk σ a
    | .iinc _ _ => hb_inc loc stk σ a z
    | .iadd => hb_ii loc stk σ (fun _ _ => []) (fun x y => .int (x + y))
    | .isub => hb_ii loc stk σ (fun _ _ => []) (fun x y => .int (x - y))
    | .imul => hb_ii loc stk σ (fun _ _ => []) (fun x y => .int (x * y))
    | .iand => hb_ii loc stk σ (fun _ _ => []) (fun x y => .int (x &&& y))
    | .ior => hb_ii loc stk σ (fun _ _ => []) (fun x y => .int (x ||| y))
    | .ixor => hb_ii loc stk σ (fun _ _ => []) (fun x y => .int (x ^^^ y))
    | .ishl => hb_ii loc stk σ (fun _ _ => []) (fun x y => .int (x <<< (y &&& 31)))
    | .ishr => hb_ii loc stk σ (fun _ _ => []) (fun x y => .int (x >>> (y &&& 31)))
    | .iushr => hb_ii loc stk σ (fun _ _ => []) (fun x y => .int (x.toUInt32 >>> (y.toUInt32 &&& Int32.toUInt32 31)).toInt32)
    | .idiv => hb_ii loc stk σ (fun _ y => [decide (¬ y = 0)]) (fun x y => .int (x / y))
    | .irem => hb_ii loc stk σ (fun _ y => [decide (¬ y = 0)]) (fun x y => .int (x - x / y * y))
    | .ineg => hb_i loc stk σ (fun x => .int (-x))
    | .i2l => hb_i loc stk σ (fun x => .long x.toInt64)
    | .i2b => hb_i loc stk σ (fun x => .int x.toInt8.toInt32)
    | .i2s => hb_i loc stk σ (fun x => .int x.toInt16.toInt32)
    | .i2c => hb_i loc stk σ (fun x => .int (x.toUInt32 % 65536).toInt32)
    | .l2i => hb_l loc stk σ (fun x => .int x.toInt32)
    | .ladd => hb_ll loc stk σ (fun x y => .long (x + y))
    | .land => hb_ll loc stk σ (fun x y => .long (x &&& y))
    | .lor => hb_ll loc stk σ (fun x y => .long (x ||| y))
    | .lcmp => hb_ll loc stk σ (fun x y => .int (lg_cmp x y))
    | .lshl => hb_li loc stk σ (fun x y => .long (x <<< (y.toInt64 &&& 63)))
    | .lshr => hb_li loc stk σ (fun x y => .long (x >>> (y.toInt64 &&& 63)))
    | .dup => hb_dup loc stk σ
    | .dup2 => hb_dup2 loc stk σ
    | .pop => hb_pop loc stk σ
    | .getfield _ => (match d with
      | 0 => hb_get sh loc stk σ a b
      | _ => hb_getS loc stk σ b)
    | .putfield _ => hb_putf sh loc stk σ a b d
    | .getstatic _ => (match b with
      | 0 => some ([], loc, .int 1 :: stk, σ)
      | _ => some ([], loc, .retAddr 0 :: stk, σ))
    | .iaload => hb_ald sh 1 loc stk σ
    | .baload => (match d with
      | 0 => hb_ald sh 2 loc stk σ
      | _ => hb_aldS loc stk σ)
    | .aaload => hb_aaq sh loc stk σ
    | .iastore => hb_ast sh 1 loc stk σ (fun _ => [])
    | .bastore => hb_ast sh 2 loc stk σ (fun x => [hb_01 x])
    | .arraylength => (match d with
      | 0 => hb_len sh loc stk σ
      | _ => hb_lenS loc stk σ)
    | .invokestatic _ => (match d with
      | 3 => hb_acp sh loc stk σ
      | _ => none)
    | _ => none
def hb_cmp (k : ClassFile.Cond) (x y : Int32) : Bool := match k with
  | .eq => decide (x = y)
  | .ne => decide (¬ x = y)
  | .lt => decide (x < y)
  | .ge => decide (y ≤ x)
  | .gt => decide (y < x)
  | .le => decide (x ≤ y)
def hb_sw (x z : Int32) (d : Nat) : List Nat → Nat
  | [] => d
  | t :: ts => if x = z then t else hb_sw x (z + 1) d ts
def hb_tgt (pc : Nat) (o : Int) : Nat := ((pc : Int) + o).toNat
/-- the arguments of a call, taken from the stack -/
def hb_arg : Nat → List Value → List Value → Option (List Value × List Value)
  | 0, acc, stk => some (acc, stk)
  | n + 1, acc, v :: stk => hb_arg n (v :: acc) stk
  | _ + 1, _, [] => none
def hb_cat : List Value → Nat
  | [] => 0
  | .long _ :: t => 2 + hb_cat t
  | .double _ :: t => 2 + hb_cat t
  | _ :: t => 1 + hb_cat t
def hb_mt (m : Nat) : hbMt := hbMs.getD m hbm0
def hb_lv (m : Nat) : Nat := hbLs.getD m 0
def hb_code (m : Nat) : List (Nat × hbR) := hbKs.getD m []
def hb_fetch (m pc : Nat) : Option hbR := (hb_code m).lookup pc
/-- the number of the receiver's type -/
def hb_rcv (sh : List hbS) (d : Nat) (v : Value) (ci : Nat) : Bool := match v with
  | .ref c => (match d with
    | 2 => c == 1000
    | _ => (match sh[c]? with
      | some (0, cj, _) => cj == ci
      | _ => false))
  | _ => false
def hb_ret (o : Option hbO) (pc : Nat) (loc rest : List Value) : Option (hbT ⊕ hbO) := match o with
  | none => none
  | some (v, σ) => some (.inl (pc + 3, loc, v.toList ++ rest, σ))
/-- one instruction of method m -/
def hb_1 (sh : List hbS) (cal : Nat → List Value → hbM → Option hbO) (m : Nat) (st : hbT) : Option (hbT ⊕ hbO) :=
  match st with
  | (pc, loc, stk, σ) => match hb_fetch m pc with
    | none => none
    | some r => match r with
      | (op, len, a, b, d, z, w) => match op with
        | .goto _ => some (.inl (a, loc, stk, σ))
        | .ifCond k _ => (match stk with
          | .int x :: t => some (.inl (if hb_cmp k x 0 = true then a else pc + 3, loc, t, σ))
          | _ => none)
        | .if_icmp k _ => (match stk with
          | .int y :: .int x :: t => some (.inl (if hb_cmp k x y = true then a else pc + 3, loc, t, σ))
          | _ => none)
        | .tableswitch df lo _ offs => (match stk with
          | .int x :: t => some (.inl (hb_sw x (Int32.ofInt lo) (hb_tgt pc df) (offs.toList.map (hb_tgt pc)), loc, t, σ))
          | _ => none)
        | .ireturn => (match stk with
          | [.int x] => (match d with
            | 0 => some (.inr (some (.int x), σ))
            | 1 => if hb_01 x = true then some (.inr (some (.int x), σ)) else none
            | _ => if narrow ((hb_mt m).2.2.2.1.getD .int) (.int x) = .int x then some (.inr (some (.int x), σ)) else none)
          | _ => none)
        | .lreturn => (match stk with
          | [.long x] => some (.inr (some (.long x), σ))
          | _ => none)
        | .return_ => (match stk with
          | [] => some (.inr (none, σ))
          | _ => none)
        | .invokevirtual _ => (match hb_arg b [] stk with
          | some (as, v :: rest) => if hb_rcv sh d v (hb_mt a).2.2.2.2.1 = true ∧ hb_cat rest ≤ 8 then hb_ret (cal a (v :: as) σ) pc loc rest else none
          | _ => none)
        | .invokestatic i => (match d with
          | 3 => (match hb_x sh (.invokestatic i, len, a, b, 3, z, w) loc stk σ with
            | none => none
            | some (gs, loc', stk', σ') => if gs.all id = true then some (.inl (pc + len, loc', stk', σ')) else none)
          | _ => (match hb_arg b [] stk with
            | some (as, rest) => if hb_cat rest ≤ 8 then hb_ret (cal a as σ) pc loc rest else none
            | _ => none))
        | op' => (match hb_x sh (op', len, a, b, d, z, w) loc stk σ with
          | none => none
          | some (gs, loc', stk', σ') => if gs.all id = true then some (.inl (pc + len, loc', stk', σ')) else none)
def hb_it (f : hbT → Option (hbT ⊕ hbO)) : Nat → hbT → Option hbO
  | 0, _ => none
  | n + 1, s => match f s with
    | none => none
    | some (.inl s') => hb_it f n s'
    | some (.inr r) => some r
noncomputable def hb_lim (f : hbT → Option (hbT ⊕ hbO)) (s : hbT) : Option hbO :=
  @dite _ (∃ r n, hb_it f n s = some r) (Classical.propDecidable _) (fun h => some (Classical.choose h)) (fun _ => none)
theorem hb_it_mono {f : hbT → Option (hbT ⊕ hbO)} : ∀ (n k : Nat) (s : hbT) (r : hbO), hb_it f n s = some r → hb_it f (n + k) s = some r := by
  intro n
  induction n with
  | zero => intro k s r h; simp [hb_it] at h
  | succ n ih =>
    intro k s r h
    rw [show n + 1 + k = (n + k) + 1 by omega]
    simp only [hb_it] at h ⊢
    revert h
    cases f s with
    | none => intro h; cases h
    | some q => cases q with
      | inl s' => intro h; exact ih k s' r h
      | inr r' => intro h; exact h
theorem hb_lim_iff {f : hbT → Option (hbT ⊕ hbO)} {s : hbT} {r : hbO} : hb_lim f s = some r ↔ ∃ n, hb_it f n s = some r := by
  unfold hb_lim
  by_cases h : ∃ r n, hb_it f n s = some r
  · rw [dif_pos h]
    obtain ⟨n, hn⟩ := Classical.choose_spec h
    constructor
    · intro e
      exact ⟨n, by rw [hn]; exact e⟩
    · rintro ⟨k, hk⟩
      have h1 := hb_it_mono n k s _ hn
      have h2 := hb_it_mono k n s _ hk
      rw [Nat.add_comm] at h2
      rw [← h2]
      exact h1.symm ▸ rfl
  · rw [dif_neg h]
    constructor
    · intro e; cases e
    · rintro ⟨n, hn⟩; exact absurd ⟨r, n, hn⟩ h
theorem hb_lim_l {f : hbT → Option (hbT ⊕ hbO)} {s s' : hbT} (h : f s = some (.inl s')) : hb_lim f s = hb_lim f s' := by
  apply Option.ext
  intro r
  show hb_lim f s = some r ↔ hb_lim f s' = some r
  rw [hb_lim_iff, hb_lim_iff]
  constructor
  · rintro ⟨n, hn⟩
    cases n with
    | zero => simp [hb_it] at hn
    | succ n => exact ⟨n, by simpa [hb_it, h] using hn⟩
  · rintro ⟨n, hn⟩
    exact ⟨n + 1, by simpa [hb_it, h] using hn⟩
theorem hb_lim_r {f : hbT → Option (hbT ⊕ hbO)} {s : hbT} {r : hbO} (h : f s = some (.inr r)) : hb_lim f s = some r :=
  hb_lim_iff.mpr ⟨1, by simp [hb_it, h]⟩
theorem hb_lim_n {f : hbT → Option (hbT ⊕ hbO)} {s : hbT} (h : f s = none) : hb_lim f s = none := by
  cases hc : hb_lim f s with
  | none => rfl
  | some r =>
    obtain ⟨n, hn⟩ := hb_lim_iff.mp hc
    cases n with
    | zero => simp [hb_it] at hn
    | succ n => simp [hb_it, h] at hn
/-- the locals at a method's entry -/
def hb_pad (n : Nat) : List Value := List.replicate n .null
def hb_loc : List Value → List Value
  | [] => []
  | .long x :: t => .long x :: .null :: hb_loc t
  | .double x :: t => .double x :: .null :: hb_loc t
  | v :: t => v :: hb_loc t
def hb_start (m : Nat) (as : List Value) : List Value := hb_loc as ++ hb_pad ((hb_mt m).2.2.1 - (hb_loc as).length)
/-- a method, with calls of methods of a lower level alone -/
noncomputable def hb_evn (sh : List hbS) : Nat → Nat → List Value → hbM → Option hbO
  | 0 => fun _ _ _ => none
  | n + 1 => fun m as σ => if hb_lv m = n then (if (hb_loc as).length ≤ (hb_mt m).2.2.1 then hb_lim (hb_1 sh (hb_evn sh n) m) (0, hb_start m as, [], σ) else none) else hb_evn sh n m as σ
noncomputable def hb_ev (sh : List hbS) (m : Nat) (as : List Value) (σ : hbM) : Option hbO := hb_evn sh (hb_lv m + 1) m as σ
noncomputable def hb_cal (sh : List hbS) (m a : Nat) (as : List Value) (σ : hbM) : Option hbO := if hb_lv a < hb_lv m then hb_ev sh a as σ else none
/-- the machine at a state of method m -/
noncomputable def hb_run (sh : List hbS) (m : Nat) (st : hbT) : Option hbO := hb_lim (hb_1 sh (hb_cal sh m) m) st
theorem hb_evn_hi (sh : List hbS) (m : Nat) : ∀ n, hb_lv m < n → hb_evn sh n m = hb_ev sh m := by
  intro n
  induction n with
  | zero => intro h; omega
  | succ n ih =>
    intro h
    by_cases he : hb_lv m = n
    · funext as σ; unfold hb_ev; rw [he]
    · funext as σ
      show (if hb_lv m = n then _ else hb_evn sh n m as σ) = _
      rw [if_neg he, ih (by omega)]
theorem hb_evn_lo (sh : List hbS) (m : Nat) : ∀ n, n ≤ hb_lv m → hb_evn sh n m = fun _ _ => none := by
  intro n
  induction n with
  | zero => intro _; rfl
  | succ n ih =>
    intro h
    funext as σ
    show (if hb_lv m = n then _ else hb_evn sh n m as σ) = _
    rw [if_neg (by omega), ih (by omega)]
theorem hb_evn_cal (sh : List hbS) (m : Nat) : hb_evn sh (hb_lv m) = hb_cal sh m := by
  funext a as σ
  unfold hb_cal
  by_cases h : hb_lv a < hb_lv m
  · rw [if_pos h, hb_evn_hi sh a _ h]
  · rw [if_neg h, hb_evn_lo sh a _ (by omega)]
theorem hb_ev_if (sh : List hbS) (m : Nat) (as : List Value) (σ : hbM) : hb_ev sh m as σ = if (hb_loc as).length ≤ (hb_mt m).2.2.1 then hb_run sh m (0, hb_start m as, [], σ) else none := by
  unfold hb_ev hb_run
  show (if hb_lv m = hb_lv m then _ else _) = _
  rw [if_pos rfl, hb_evn_cal]
theorem hb_ev_eq (sh : List hbS) (m : Nat) (as : List Value) (σ : hbM) {loc : List Value} (hl : Nat.ble (hb_loc as).length (hb_mt m).2.2.1 = true) (hs : hb_start m as = loc) : hb_ev sh m as σ = hb_run sh m (0, loc, [], σ) := by
  rw [hb_ev_if, if_pos (Nat.le_of_ble_eq_true hl), hs]
def hb_d2 : DecidableEq (Nat × Nat × Int32 × Int64) := inferInstance
def hb_d3 : DecidableEq (Nat × Nat × Nat × Int32 × Int64) := @instDecidableEqProd _ _ inferInstance hb_d2
def hb_d4 : DecidableEq (Nat × Nat × Nat × Nat × Int32 × Int64) := @instDecidableEqProd _ _ inferInstance hb_d3
def hb_d5 : DecidableEq hbR := @instDecidableEqProd _ _ inferInstance hb_d4
/-- row r stands at pc -/
def hb_fe (m pc : Nat) (r : hbR) : Bool := match hb_fetch m pc with
  | some r' => @decide (r' = r) (hb_d5 _ _)
  | none => false
theorem hb_fe_ok {m pc : Nat} {r : hbR} (h : hb_fe m pc r = true) : hb_fetch m pc = some r := by
  unfold hb_fe at h
  revert h
  cases hb_fetch m pc with
  | none => intro h; cases h
  | some r' => intro h; rw [@of_decide_eq_true _ (hb_d5 _ _) h]
end
section
/-! THE RULES OF THE SMALL MACHINE: equations of hb_run, a block, a branch, a call, an end -/
def hb_g {α : Type} : List Bool → Option α → Option α
  | [], x => x
  | b :: t, x => if b = true then hb_g t x else none
theorem hb_g_app {α : Type} (a b : List Bool) (x : Option α) : hb_g (a ++ b) x = hb_g a (hb_g b x) := by
  induction a with
  | nil => rfl
  | cons c t ih => simp only [List.cons_append, hb_g, ih]
theorem hb_g_all {α : Type} (gs : List Bool) (x : Option α) : hb_g gs x = if gs.all id = true then x else none := by
  induction gs with
  | nil => rfl
  | cons c t ih =>
    simp only [hb_g, ih, List.all_cons, id, Bool.and_eq_true]
    by_cases h : c = true <;> simp [h]
/-- the rows that hb_x reads -/
def hb_pl (r : hbR) : Bool := match r.1 with
  | .goto _ => false
  | .ifCond _ _ => false
  | .if_icmp _ _ => false
  | .tableswitch _ _ _ _ => false
  | .ireturn => false
  | .lreturn => false
  | .return_ => false
  | .invokevirtual _ => false
  | .invokestatic _ => r.2.2.2.2.1 == 3
  | _ => true
theorem hb_1_plain {sh : List hbS} {cal : Nat → List Value → hbM → Option hbO} {m pc : Nat} {loc stk : List Value} {σ : hbM} {r : hbR} (hf : hb_fetch m pc = some r) (hp : hb_pl r = true) :
    hb_1 sh cal m (pc, loc, stk, σ) = match hb_x sh r loc stk σ with
      | none => none
      | some (gs, loc', stk', σ') => if gs.all id = true then some (.inl (pc + r.2.1, loc', stk', σ')) else none := by
  obtain ⟨op, len, a, b, d, z, w⟩ := r
  simp only [hb_1, hf]
  cases op <;> first | rfl | (simp [hb_pl] at hp; done) | (simp only [hb_pl, beq_iff_eq] at hp; subst hp; rfl)
def hb_has (m : Nat) : Nat → List hbR → Bool
  | _, [] => true
  | pc, r :: t => hb_fe m pc r && hb_pl r && hb_has m (pc + r.2.1) t
def hb_xs (sh : List hbS) : List hbR → List Value → List Value → hbM → Option hbX
  | [], loc, stk, σ => some ([], loc, stk, σ)
  | r :: rs, loc, stk, σ => match hb_x sh r loc stk σ with
    | none => none
    | some (gs, loc', stk', σ') => match hb_xs sh rs loc' stk' σ' with
      | none => none
      | some (gs2, l2, s2, σ2) => some (gs ++ gs2, l2, s2, σ2)
def hb_end : Nat → List hbR → Nat
  | pc, [] => pc
  | pc, r :: t => hb_end (pc + r.2.1) t
theorem hb_blk {sh : List hbS} {m : Nat} : ∀ (rs : List hbR) {pc pe : Nat} {loc stk loc' stk' : List Value} {σ σ' : hbM} {gs : List Bool}, (hb_has m pc rs && (hb_end pc rs == pe)) = true → hb_xs sh rs loc stk σ = some (gs, loc', stk', σ') →
    hb_run sh m (pc, loc, stk, σ) = hb_g gs (hb_run sh m (pe, loc', stk', σ')) := by
  intro rs
  induction rs with
  | nil =>
    intro pc pe loc stk loc' stk' σ σ' gs h hx
    simp only [hb_xs, Option.some.injEq, Prod.mk.injEq] at hx
    obtain ⟨rfl, rfl, rfl, rfl⟩ := hx
    simp only [hb_has, hb_end, Bool.true_and, beq_iff_eq] at h
    subst h
    rfl
  | cons r rs ih =>
    intro pc pe loc stk loc' stk' σ σ' gs h hx
    simp only [hb_has, hb_end, Bool.and_eq_true] at h
    obtain ⟨⟨⟨hf0, hp⟩, hh⟩, he⟩ := h
    have hf := hb_fe_ok hf0
    simp only [hb_xs] at hx
    revert hx
    have h1 := hb_1_plain (sh := sh) (cal := hb_cal sh m) (loc := loc) (stk := stk) (σ := σ) hf hp
    revert h1
    cases hb_x sh r loc stk σ with
    | none => intro _ hx; cases hx
    | some q =>
      obtain ⟨g1, l1, s1, σ1⟩ := q
      intro h1 hx
      dsimp only at h1 hx
      revert hx
      cases h2 : hb_xs sh rs l1 s1 σ1 with
      | none => intro hx; cases hx
      | some q =>
        obtain ⟨g2, l2, s2, σ2⟩ := q
        intro hx
        simp only [Option.some.injEq, Prod.mk.injEq] at hx
        obtain ⟨rfl, rfl, rfl, rfl⟩ := hx
        have h3 := ih (pc := pc + r.2.1) (pe := pe) (by simp only [Bool.and_eq_true]; exact ⟨hh, he⟩) h2
        rw [hb_g_app, ← h3, hb_g_all]
        by_cases hg : g1.all id = true
        · rw [if_pos hg] at h1 ⊢
          exact hb_lim_l h1
        · rw [if_neg hg] at h1 ⊢
          exact hb_lim_n h1
section
variable {sh : List hbS} {m pc len a b d : Nat} {z : Int32} {w : Int64} {loc t rest stk : List Value} {σ : hbM}
theorem hb_r_goto {o : Int} (h : hb_fetch m pc = some (.goto o, len, a, b, d, z, w)) : hb_run sh m (pc, loc, stk, σ) = hb_run sh m (a, loc, stk, σ) :=
  hb_lim_l (by simp only [hb_1, h])
theorem hb_r_if {k : ClassFile.Cond} {o : Int} {x : Int32} (h : hb_fetch m pc = some (.ifCond k o, len, a, b, d, z, w)) : hb_run sh m (pc, loc, .int x :: t, σ) = if hb_cmp k x 0 = true then hb_run sh m (a, loc, t, σ) else hb_run sh m (pc + 3, loc, t, σ) := by
  have e := hb_lim_l (f := hb_1 sh (hb_cal sh m) m) (s := (pc, loc, .int x :: t, σ)) (s' := (if hb_cmp k x 0 = true then a else pc + 3, loc, t, σ)) (by simp only [hb_1, h])
  rw [show hb_run sh m (pc, loc, .int x :: t, σ) = _ from e]
  split <;> rfl
theorem hb_r_ic {k : ClassFile.Cond} {o : Int} {x y : Int32} (h : hb_fetch m pc = some (.if_icmp k o, len, a, b, d, z, w)) : hb_run sh m (pc, loc, .int y :: .int x :: t, σ) = if hb_cmp k x y = true then hb_run sh m (a, loc, t, σ) else hb_run sh m (pc + 3, loc, t, σ) := by
  have e := hb_lim_l (f := hb_1 sh (hb_cal sh m) m) (s := (pc, loc, .int y :: .int x :: t, σ)) (s' := (if hb_cmp k x y = true then a else pc + 3, loc, t, σ)) (by simp only [hb_1, h])
  rw [show hb_run sh m (pc, loc, .int y :: .int x :: t, σ) = _ from e]
  split <;> rfl
/-- a branch, with what is tested and both ways -/
theorem hb_br {k : ClassFile.Cond} {o : Int} {x y : Int32} {P : Prop} [Decidable P] {A B : Option hbO} (h : hb_fetch m pc = some (.if_icmp k o, len, a, b, d, z, w)) (hP : hb_cmp k x y = decide P) (hA : hb_run sh m (a, loc, t, σ) = A) (hB : hb_run sh m (pc + 3, loc, t, σ) = B) :
    hb_run sh m (pc, loc, .int y :: .int x :: t, σ) = if P then A else B := by
  rw [hb_r_ic h, hP, hA, hB]
  simp only [decide_eq_true_eq]
theorem hb_br0 {k : ClassFile.Cond} {o : Int} {x : Int32} {P : Prop} [Decidable P] {A B : Option hbO} (h : hb_fetch m pc = some (.ifCond k o, len, a, b, d, z, w)) (hP : hb_cmp k x 0 = decide P) (hA : hb_run sh m (a, loc, t, σ) = A) (hB : hb_run sh m (pc + 3, loc, t, σ) = B) :
    hb_run sh m (pc, loc, .int x :: t, σ) = if P then A else B := by
  rw [hb_r_if h, hP, hA, hB]
  simp only [decide_eq_true_eq]
/-- a branch whose test is known -/
theorem hb_brT {k : ClassFile.Cond} {o : Int} {x y : Int32} {A : Option hbO} (h : hb_fetch m pc = some (.if_icmp k o, len, a, b, d, z, w)) (hP : hb_cmp k x y = true) (hA : hb_run sh m (a, loc, t, σ) = A) : hb_run sh m (pc, loc, .int y :: .int x :: t, σ) = A := by
  rw [hb_r_ic h, if_pos hP, hA]
theorem hb_brF {k : ClassFile.Cond} {o : Int} {x y : Int32} {A : Option hbO} (h : hb_fetch m pc = some (.if_icmp k o, len, a, b, d, z, w)) (hP : hb_cmp k x y = false) (hA : hb_run sh m (pc + 3, loc, t, σ) = A) : hb_run sh m (pc, loc, .int y :: .int x :: t, σ) = A := by
  rw [hb_r_ic h, if_neg (by rw [hP]; decide), hA]
theorem hb_br0T {k : ClassFile.Cond} {o : Int} {x : Int32} {A : Option hbO} (h : hb_fetch m pc = some (.ifCond k o, len, a, b, d, z, w)) (hP : hb_cmp k x 0 = true) (hA : hb_run sh m (a, loc, t, σ) = A) : hb_run sh m (pc, loc, .int x :: t, σ) = A := by
  rw [hb_r_if h, if_pos hP, hA]
theorem hb_br0F {k : ClassFile.Cond} {o : Int} {x : Int32} {A : Option hbO} (h : hb_fetch m pc = some (.ifCond k o, len, a, b, d, z, w)) (hP : hb_cmp k x 0 = false) (hA : hb_run sh m (pc + 3, loc, t, σ) = A) : hb_run sh m (pc, loc, .int x :: t, σ) = A := by
  rw [hb_r_if h, if_neg (by rw [hP]; decide), hA]
theorem hb_r_sw {df lo hi : Int} {offs : Array Int} {x : Int32} {A : Option hbO} (h : hb_fetch m pc = some (.tableswitch df lo hi offs, len, a, b, d, z, w)) (hA : hb_run sh m (hb_sw x (Int32.ofInt lo) (hb_tgt pc df) (offs.toList.map (hb_tgt pc)), loc, t, σ) = A) : hb_run sh m (pc, loc, .int x :: t, σ) = A := by
  rw [← hA]
  exact hb_lim_l (by simp only [hb_1, h])
/-- one arm of a switch -/
theorem hb_swc {x z : Int32} {df q : Nat} {ts : List Nat} {A B : Option hbO} (hA : hb_run sh m (q, loc, t, σ) = A) (hB : hb_run sh m (hb_sw x (z + 1) df ts, loc, t, σ) = B) : hb_run sh m (hb_sw x z df (q :: ts), loc, t, σ) = if x = z then A else B := by
  simp only [hb_sw]
  rw [← hA, ← hB]
  split <;> rfl
theorem hb_swd {x z : Int32} {df : Nat} (q : Nat) {ts : List Nat} {A : Option hbO} (h : (hb_sw x z df ts) = q) (hA : hb_run sh m (q, loc, t, σ) = A) : hb_run sh m (hb_sw x z df ts, loc, t, σ) = A := by rw [h]; exact hA
theorem hb_r_iret {x : Int32} (h : hb_fetch m pc = some (.ireturn, len, a, b, 0, z, w)) : hb_run sh m (pc, loc, [.int x], σ) = some (some (.int x), σ) :=
  hb_lim_r (by simp only [hb_1, h])
theorem hb_r_zret {x : Int32} (h : hb_fetch m pc = some (.ireturn, len, a, b, 1, z, w)) : hb_run sh m (pc, loc, [.int x], σ) = hb_g [hb_01 x] (some (some (.int x), σ)) := by
  by_cases hx : hb_01 x = true
  · simp only [hb_g, if_pos hx]
    exact hb_lim_r (by simp only [hb_1, h, if_pos hx])
  · simp only [hb_g, if_neg hx]
    exact hb_lim_n (by simp only [hb_1, h, if_neg hx])
theorem hb_r_zret1 {x : Int32} (h : hb_fetch m pc = some (.ireturn, len, a, b, 1, z, w)) (hx : hb_01 x = true) : hb_run sh m (pc, loc, [.int x], σ) = some (some (.int x), σ) := by
  rw [hb_r_zret h]; simp only [hb_g, if_pos hx]
theorem hb_r_nret {x : Int32} {ty : FieldType} (h : hb_fetch m pc = some (.ireturn, len, a, b, 2, z, w)) (hty : (hb_mt m).2.2.2.1.getD .int = ty) (hx : narrow ty (.int x) = .int x) : hb_run sh m (pc, loc, [.int x], σ) = some (some (.int x), σ) :=
  hb_lim_r (by simp only [hb_1, h, hty, if_pos hx])
theorem hb_r_lret {x : Int64} (h : hb_fetch m pc = some (.lreturn, len, a, b, d, z, w)) : hb_run sh m (pc, loc, [.long x], σ) = some (some (.long x), σ) :=
  hb_lim_r (by simp only [hb_1, h])
theorem hb_r_vret (h : hb_fetch m pc = some (.return_, len, a, b, d, z, w)) : hb_run sh m (pc, loc, [], σ) = some (none, σ) :=
  hb_lim_r (by simp only [hb_1, h])
end
/-- what a method's ends give: 0 an int, 1 a long, 2 nothing -/
def hb_rk (m : Nat) : Nat := match (hb_mt m).2.2.2.1 with
  | none => 2
  | some .long => 1
  | _ => 0
def hb_rkok (m : Nat) : Bool := (hb_code m).all (fun q => match q.2.1 with
  | .ireturn => hb_rk m == 0
  | .lreturn => hb_rk m == 1
  | .return_ => hb_rk m == 2
  | _ => true)
theorem hb_lookup_mem {pc : Nat} {r : hbR} : ∀ {l : List (Nat × hbR)}, l.lookup pc = some r → (pc, r) ∈ l
  | [], h => by cases h
  | (k, v) :: l, h => by
    simp only [List.lookup] at h
    split at h
    · rename_i hk
      have hk' : pc = k := by simpa using hk
      cases h; subst hk'; exact List.mem_cons_self
    · exact List.mem_cons_of_mem _ (hb_lookup_mem h)
theorem hb_it_kind {sh : List hbS} {cal : Nat → List Value → hbM → Option hbO} {m : Nat} (hk : hb_rkok m = true) : ∀ (n : Nat) (st : hbT) (v : Option Value) (σ : hbM), hb_it (hb_1 sh cal m) n st = some (v, σ) →
    (hb_rk m = 0 → ∃ x, v = some (.int x)) ∧ (hb_rk m = 1 → ∃ x, v = some (.long x)) ∧ (hb_rk m = 2 → v = none) := by
  intro n
  induction n with
  | zero => intro st v σ h; simp [hb_it] at h
  | succ n ih =>
    intro st v σ h
    simp only [hb_it] at h
    revert h
    cases h1 : hb_1 sh cal m st with
    | none => intro h; cases h
    | some q =>
      cases q with
      | inl s' => intro h; exact ih s' v σ h
      | inr r =>
        intro h
        cases h
        obtain ⟨pc, loc, stk, σ0⟩ := st
        simp only [hb_1] at h1
        revert h1
        cases hf : hb_fetch m pc with
        | none => intro h1; cases h1
        | some r =>
          have hmem := List.all_eq_true.mp hk _ (hb_lookup_mem hf)
          obtain ⟨op, len, a, b, d, z, w⟩ := r
          intro h1
          cases op <;> simp only [reduceCtorEq] at h1 <;> revert h1 <;> (try simp only [hb_ret]) <;> (repeat' split) <;> intro h1 <;> (try (cases h1; done)) <;> (try (simp at h1; done)) <;>
            (cases h1; simp only [beq_iff_eq] at hmem; refine ⟨fun e => ?_, fun e => ?_, fun e => ?_⟩ <;> first | exact ⟨_, rfl⟩ | rfl | (rw [hmem] at e; cases e))
theorem hb_ev_kind {sh : List hbS} {m : Nat} {as : List Value} {σ σ' : hbM} {v : Option Value} (hk : hb_rkok m = true) (h : hb_ev sh m as σ = some (v, σ')) :
    (hb_rk m = 0 → ∃ x, v = some (.int x)) ∧ (hb_rk m = 1 → ∃ x, v = some (.long x)) ∧ (hb_rk m = 2 → v = none) := by
  rw [hb_ev_if] at h
  split at h
  · obtain ⟨n, hn⟩ := hb_lim_iff.mp h
    exact hb_it_kind hk n _ _ _ hn
  · cases h
/-- behind a call -/
def hb_ci (o : Option hbO) (k : Int32 → hbM → Option hbO) : Option hbO := match o with
  | some (some (.int x), σ) => k x σ
  | _ => none
def hb_cl (o : Option hbO) (k : Int64 → hbM → Option hbO) : Option hbO := match o with
  | some (some (.long x), σ) => k x σ
  | _ => none
def hb_cv (o : Option hbO) (k : hbM → Option hbO) : Option hbO := match o with
  | some (none, σ) => k σ
  | _ => none
theorem hb_ci_s (x : Int32) (σ : hbM) (k : Int32 → hbM → Option hbO) : hb_ci (some (some (.int x), σ)) k = k x σ := rfl
theorem hb_cl_s (x : Int64) (σ : hbM) (k : Int64 → hbM → Option hbO) : hb_cl (some (some (.long x), σ)) k = k x σ := rfl
theorem hb_cv_s (σ : hbM) (k : hbM → Option hbO) : hb_cv (some (none, σ)) k = k σ := rfl
/-- what a call needs of the tables -/
def hb_cok (sh : List hbS) (m a rk : Nat) : Bool := decide (hb_lv a < hb_lv m) && hb_rkok a && (hb_rk a == rk)
section
variable {sh : List hbS} {m pc len a b d : Nat} {z : Int32} {w : Int64} {loc rest stk : List Value} {σ : hbM}
noncomputable def hb_goon (sh : List hbS) (m pc : Nat) (loc rest : List Value) (o : Option hbO) : Option hbO := match o with
    | none => none
    | some (v, σ) => hb_run sh m (pc + 3, loc, v.toList ++ rest, σ)
theorem hb_ret_run {st : hbT} (o : Option hbO) (h : hb_1 sh (hb_cal sh m) m st = hb_ret o pc loc rest) : hb_run sh m st = hb_goon sh m pc loc rest o := by
  cases o with
  | none => exact hb_lim_n h
  | some q => obtain ⟨v, σ'⟩ := q; exact hb_lim_l h
theorem hb_c_i {o : Option hbO} {k : Int32 → hbM → Option hbO} (h : hb_run sh m (pc, loc, stk, σ) = hb_goon sh m pc loc rest o) (ho : ∀ v σ', o = some (v, σ') → ∃ x, v = some (.int x)) (hk : ∀ x σ1, hb_run sh m (pc + 3, loc, .int x :: rest, σ1) = k x σ1) : hb_run sh m (pc, loc, stk, σ) = hb_ci o k := by
  rw [h]
  cases o with
  | none => rfl
  | some q =>
    obtain ⟨v, σ'⟩ := q
    obtain ⟨x, rfl⟩ := ho v σ' rfl
    exact hk x σ'
theorem hb_c_l {o : Option hbO} {k : Int64 → hbM → Option hbO} (h : hb_run sh m (pc, loc, stk, σ) = hb_goon sh m pc loc rest o) (ho : ∀ v σ', o = some (v, σ') → ∃ x, v = some (.long x)) (hk : ∀ x σ1, hb_run sh m (pc + 3, loc, .long x :: rest, σ1) = k x σ1) : hb_run sh m (pc, loc, stk, σ) = hb_cl o k := by
  rw [h]
  cases o with
  | none => rfl
  | some q =>
    obtain ⟨v, σ'⟩ := q
    obtain ⟨x, rfl⟩ := ho v σ' rfl
    exact hk x σ'
theorem hb_c_v {o : Option hbO} {k : hbM → Option hbO} (h : hb_run sh m (pc, loc, stk, σ) = hb_goon sh m pc loc rest o) (ho : ∀ v σ', o = some (v, σ') → v = none) (hk : ∀ σ1, hb_run sh m (pc + 3, loc, rest, σ1) = k σ1) : hb_run sh m (pc, loc, stk, σ) = hb_cv o k := by
  rw [h]
  cases o with
  | none => rfl
  | some q =>
    obtain ⟨v, σ'⟩ := q
    obtain rfl := ho v σ' rfl
    exact hk σ'
theorem hb_runV {i : Nat} {as : List Value} {v : Value} (h : hb_fetch m pc = some (.invokevirtual i, len, a, b, d, z, w)) (ha : hb_arg b [] stk = some (as, v :: rest)) (hr : hb_rcv sh d v (hb_mt a).2.2.2.2.1 = true) (hc : hb_cat rest ≤ 8) (hl : hb_lv a < hb_lv m) :
    hb_run sh m (pc, loc, stk, σ) = hb_goon sh m pc loc rest (hb_ev sh a (v :: as) σ) := by
  refine hb_ret_run _ ?_
  simp only [hb_1, h, ha, if_pos (And.intro hr hc), hb_cal, if_pos hl]
theorem hb_runS {i : Nat} {as : List Value} (h : hb_fetch m pc = some (.invokestatic i, len, a, b, d, z, w)) (hd : d ≠ 3) (ha : hb_arg b [] stk = some (as, rest)) (hc : hb_cat rest ≤ 8) (hl : hb_lv a < hb_lv m) :
    hb_run sh m (pc, loc, stk, σ) = hb_goon sh m pc loc rest (hb_ev sh a as σ) := by
  refine hb_ret_run _ ?_
  simp only [hb_1, h]
  simp only [ha, if_pos hc, hb_cal, if_pos hl]
theorem hb_Vi {i : Nat} {as : List Value} {v : Value} {k : Int32 → hbM → Option hbO} (h : hb_fetch m pc = some (.invokevirtual i, len, a, b, d, z, w)) (hk0 : hb_cok sh m a 0 = true) (ha : hb_arg b [] stk = some (as, v :: rest)) (hr : hb_rcv sh d v (hb_mt a).2.2.2.2.1 = true) (hc : hb_cat rest ≤ 8) (hk : ∀ x σ1, hb_run sh m (pc + 3, loc, .int x :: rest, σ1) = k x σ1) : hb_run sh m (pc, loc, stk, σ) = hb_ci (hb_ev sh a (v :: as) σ) k := by
  simp only [hb_cok, Bool.and_eq_true, decide_eq_true_eq, beq_iff_eq] at hk0
  exact hb_c_i (hb_runV h ha hr hc hk0.1.1) (fun v σ' e => (hb_ev_kind hk0.1.2 e).1 hk0.2) hk
theorem hb_Vv {i : Nat} {as : List Value} {v : Value} {k : hbM → Option hbO} (h : hb_fetch m pc = some (.invokevirtual i, len, a, b, d, z, w)) (hk0 : hb_cok sh m a 2 = true) (ha : hb_arg b [] stk = some (as, v :: rest)) (hr : hb_rcv sh d v (hb_mt a).2.2.2.2.1 = true) (hc : hb_cat rest ≤ 8) (hk : ∀ σ1, hb_run sh m (pc + 3, loc, rest, σ1) = k σ1) : hb_run sh m (pc, loc, stk, σ) = hb_cv (hb_ev sh a (v :: as) σ) k := by
  simp only [hb_cok, Bool.and_eq_true, decide_eq_true_eq, beq_iff_eq] at hk0
  exact hb_c_v (hb_runV h ha hr hc hk0.1.1) (fun v σ' e => (hb_ev_kind hk0.1.2 e).2.2 hk0.2) hk
theorem hb_Vl {i : Nat} {as : List Value} {v : Value} {k : Int64 → hbM → Option hbO} (h : hb_fetch m pc = some (.invokevirtual i, len, a, b, d, z, w)) (hk0 : hb_cok sh m a 1 = true) (ha : hb_arg b [] stk = some (as, v :: rest)) (hr : hb_rcv sh d v (hb_mt a).2.2.2.2.1 = true) (hc : hb_cat rest ≤ 8) (hk : ∀ x σ1, hb_run sh m (pc + 3, loc, .long x :: rest, σ1) = k x σ1) : hb_run sh m (pc, loc, stk, σ) = hb_cl (hb_ev sh a (v :: as) σ) k := by
  simp only [hb_cok, Bool.and_eq_true, decide_eq_true_eq, beq_iff_eq] at hk0
  exact hb_c_l (hb_runV h ha hr hc hk0.1.1) (fun v σ' e => (hb_ev_kind hk0.1.2 e).2.1 hk0.2) hk
theorem hb_Si {i : Nat} {as : List Value} {k : Int32 → hbM → Option hbO} (h : hb_fetch m pc = some (.invokestatic i, len, a, b, d, z, w)) (hd : d ≠ 3) (hk0 : hb_cok sh m a 0 = true) (ha : hb_arg b [] stk = some (as, rest)) (hc : hb_cat rest ≤ 8) (hk : ∀ x σ1, hb_run sh m (pc + 3, loc, .int x :: rest, σ1) = k x σ1) : hb_run sh m (pc, loc, stk, σ) = hb_ci (hb_ev sh a as σ) k := by
  simp only [hb_cok, Bool.and_eq_true, decide_eq_true_eq, beq_iff_eq] at hk0
  exact hb_c_i (hb_runS h hd ha hc hk0.1.1) (fun v σ' e => (hb_ev_kind hk0.1.2 e).1 hk0.2) hk
theorem hb_Sv {i : Nat} {as : List Value} {k : hbM → Option hbO} (h : hb_fetch m pc = some (.invokestatic i, len, a, b, d, z, w)) (hd : d ≠ 3) (hk0 : hb_cok sh m a 2 = true) (ha : hb_arg b [] stk = some (as, rest)) (hc : hb_cat rest ≤ 8) (hk : ∀ σ1, hb_run sh m (pc + 3, loc, rest, σ1) = k σ1) : hb_run sh m (pc, loc, stk, σ) = hb_cv (hb_ev sh a as σ) k := by
  simp only [hb_cok, Bool.and_eq_true, decide_eq_true_eq, beq_iff_eq] at hk0
  exact hb_c_v (hb_runS h hd ha hc hk0.1.1) (fun v σ' e => (hb_ev_kind hk0.1.2 e).2.2 hk0.2) hk
end
end
section
/-! the cells of the system and of the reference: kind (0 an object, 1 ints, 2 booleans, 3 sheets), type or length, references -/
def hbSH0 : List hbS := [(0, 10, [some 1, some 4, some 7, some 8, some 9, some 10, some 11, some 12, none, none, none]), (0, 2, [some 2, some 3, none, none]), (1, 12, []), (1, 4, []), (0, 2, [some 5, some 6, none, none]), (1, 12, []), (1, 4, []), (1, 8, []), (1, 8, []), (1, 8, []), (1, 1024, []), (2, 1024, []), (2, 1024, [])]
def hbSH1 : List hbS := [(0, 11, [some 14, some 0, some 31, some 36, some 39, some 43, some 49, some 50, some 53, none, none]), (3, 8, [some 15, some 16, some 17, some 18, some 19, some 20, some 21, some 22]), (0, 5, [some 23, none, none, none]), (0, 5, [some 24, none, none, none]), (0, 5, [some 25, none, none, none]), (0, 5, [some 26, none, none, none]), (0, 5, [some 27, none, none, none]), (0, 5, [some 28, none, none, none]), (0, 5, [some 29, none, none, none]), (0, 5, [some 30, none, none, none]), (1, 40, []), (1, 40, []), (1, 40, []), (1, 40, []), (1, 40, []), (1, 40, []), (1, 40, []), (1, 40, []), (0, 6, [some 32, some 33, some 34, some 35, none, none, none]), (1, 16, []), (1, 16, []), (1, 16, []), (1, 16, []), (0, 1, [some 0, some 31, some 37, some 38]), (1, 4, []), (1, 4, []), (0, 7, [some 40, some 41, some 42, none]), (1, 400, []), (1, 401, []), (1, 401, []), (0, 3, [some 39, some 0, some 31, none, none, none, none]), (0, 4, [some 45, some 46, some 47, some 48, none]), (1, 17408, []), (1, 17408, []), (1, 17408, []), (1, 17408, []), (0, 9, [some 36, some 0, some 44, none, none, none, none, none, none]), (0, 8, [some 36, some 0, some 44, some 51, some 52, none, none, none, none]), (1, 1024, []), (1, 17408, []), (0, 0, [some 36, some 44, none, none, some 45, some 46, some 47, none]), (0, 12, [none, none, some 55, some 56, some 57, none, some 58, some 59, some 60, none, none, none, none, none, none, none, some 61, some 62, some 63, some 64, some 65, some 66, some 67, none, none, none, none, none, none, none, none, none, some 68, some 69, none, some 70, some 71, none, some 72, some 73, some 74, some 75, none, none, some 76, some 77, some 78, some 79, none]), (1, 8, []), (1, 8, []), (1, 320, []), (1, 8, []), (1, 8, []), (1, 8, []), (1, 8, []), (1, 40, []), (1, 40, []), (1, 40, []), (1, 16, []), (1, 16, []), (1, 400, []), (1, 4, []), (1, 4, []), (2, 52224, []), (1, 52224, []), (1, 17408, []), (2, 1024, []), (1, 17408, []), (2, 17408, []), (1, 1024, []), (1, 51, []), (1, 51, []), (1, 16, [])]
abbrev hbSH : List hbS := hbSH0 ++ hbSH1
end
section
/-! THE SMALL MACHINE AND THE MACHINE: values, cells, locals -/
def hb_val (α : Nat → Nat) (ov : Value) : Value → Value
  | .ref k => .ref (α k)
  | .retAddr _ => ov
  | v => v
theorem hb_val_cat {α : Nat → Nat} {ov : Value} (ho : ov.category = 1) (v : Value) : (hb_val α ov v).category = v.category := by
  cases v <;> first | rfl | exact ho
theorem hb_cat_sum {α : Nat → Nat} {ov : Value} (ho : ov.category = 1) : ∀ l : List Value, ((l.map (hb_val α ov)).map fun v => v.category).sum = hb_cat l
  | [] => rfl
  | v :: t => by
    have ih := hb_cat_sum (α := α) ho t
    simp only [List.map_cons, List.sum_cons, hb_val_cat ho]
    rw [ih]
    cases v <;> rfl
def hb_fv (α : Nat → Nat) (f : Nat → Int32) (j : Nat) : Option Nat → Value
  | none => .int (f j)
  | some k => .ref (α k)
def hb_fs (α : Nat → Nat) (f : Nat → Int32) (l : List (Option Nat)) : List Value := l.mapIdx (hb_fv α f)
theorem hb_fs_get (α : Nat → Nat) (f : Nat → Int32) (l : List (Option Nat)) (i : Nat) : (hb_fs α f l)[i]? = (l[i]?).map (hb_fv α f i) := by
  simp [hb_fs, List.getElem?_mapIdx]
theorem hb_fs_len (α : Nat → Nat) (f : Nat → Int32) (l : List (Option Nat)) : (hb_fs α f l).length = l.length := by simp [hb_fs]
theorem hb_fs_set {α : Nat → Nat} {f : Nat → Int32} {l : List (Option Nat)} {i : Nat} {x : Int32} (hi : l[i]? = some none) : (hb_fs α f l).set i (.int x) = hb_fs α (upd f i x) l := by
  apply List.ext_getElem?
  intro k
  have hlt : i < l.length := (List.getElem?_eq_some_iff.mp hi).1
  rw [hb_fs_get]
  by_cases hk : i = k
  · subst hk
    rw [List.getElem?_set_self (by rw [hb_fs_len]; exact hlt), hi]
    simp [hb_fv, upd]
  · rw [List.getElem?_set_ne hk, hb_fs_get]
    cases l[k]? with
    | none => rfl
    | some o => cases o <;> simp [hb_fv, upd, Ne.symm hk]
def hb_e (α : Nat → Nat) (cI cZ cS : ClassId) (f : Nat → Int32) (s : hbS) : va_E := match s with
  | (0, ci, fs) => .inr (ci, hb_fs α f fs)
  | (1, n, _) => .inl (cI, n, .inl f)
  | (2, n, _) => .inl (cZ, n, .inl f)
  | (_, n, fs) => .inl (cS, n, .inr (.inr (.inr (.inr (fun i => ((fs[i]?).getD none).map α)))))
def hb_w (α : Nat → Nat) (cI cZ cS : ClassId) (σ : hbM) (sh : List hbS) : va_W := sh.mapIdx (fun c s => (α c, hb_e α cI cZ cS (σ c) s))
theorem hb_w_get {α : Nat → Nat} {cI cZ cS : ClassId} {σ : hbM} {sh : List hbS} (c : Nat) : (hb_w α cI cZ cS σ sh)[c]? = (sh[c]?).map (fun s => (α c, hb_e α cI cZ cS (σ c) s)) := by
  simp [hb_w, List.getElem?_mapIdx]
theorem hb_w_at {α : Nat → Nat} {cI cZ cS : ClassId} {σ : hbM} {sh : List hbS} {c : Nat} {s : hbS} (h : sh[c]? = some s) : (hb_w α cI cZ cS σ sh)[c]? = some (α c, hb_e α cI cZ cS (σ c) s) := by
  rw [hb_w_get, h]; rfl
theorem hb_w_set {α : Nat → Nat} {cI cZ cS : ClassId} {σ σ' : hbM} {sh : List hbS} {c : Nat} {s : hbS} {en : va_E} (h : sh[c]? = some s) (he : en = hb_e α cI cZ cS (σ' c) s) (ho : ∀ c', c' ≠ c → σ' c' = σ c') : (hb_w α cI cZ cS σ sh).set c (α c, en) = hb_w α cI cZ cS σ' sh := by
  apply List.ext_getElem?
  intro k
  have hlt : c < (hb_w α cI cZ cS σ sh).length := (List.getElem?_eq_some_iff.mp (hb_w_at (σ := σ) h)).1
  by_cases hk : c = k
  · subst hk
    rw [List.getElem?_set_self hlt, hb_w_at h, he]
  · rw [List.getElem?_set_ne hk, hb_w_get, hb_w_get, ho k (Ne.symm hk)]
theorem hb_up_at (σ : hbM) (c i : Nat) (v : Int32) : hb_up σ c i v c = upd (σ c) i v := by simp [hb_up]
theorem hb_up_ne (σ : hbM) {c c' : Nat} (i : Nat) (v : Int32) (h : c' ≠ c) : hb_up σ c i v c' = σ c' := by simp [hb_up, h]
def hb_inj (α : Nat → Nat) (n : Nat) : Prop := ∀ i j, i < n → j < n → α i = α j → i = j
theorem hb_w_D {α : Nat → Nat} {cI cZ cS : ClassId} {σ : hbM} {sh : List hbS} {A : Nat → Prop} (hi : hb_inj α sh.length) (hA : ∀ c, c < sh.length → A (α c)) : va_D A (hb_w α cI cZ cS σ sh) := by
  have key : ∀ (i : Nat) (p : Nat × va_E), (hb_w α cI cZ cS σ sh)[i]? = some p → i < sh.length ∧ p.1 = α i := by
    intro i p h
    rw [hb_w_get] at h
    cases hs : sh[i]? with
    | none => rw [hs] at h; cases h
    | some s =>
      rw [hs] at h
      cases h
      exact ⟨(List.getElem?_eq_some_iff.mp hs).1, rfl⟩
  refine ⟨fun i j p q h1 h2 e => ?_, fun k q h => ?_⟩
  · obtain ⟨a1, a2⟩ := key i p h1
    obtain ⟨b1, b2⟩ := key j q h2
    exact hi i j a1 b1 (by rw [← a2, ← b2, e])
  · obtain ⟨a1, a2⟩ := key k q h
    rw [a2]; exact hA k a1
/-! the locals -/
def hb_pr1 (α : Nat → Nat) (ov : Value) (i : Nat) (o : Option Value) : Option (Nat × Value) := match o with
  | none => none
  | some v => if v = Value.null then none else some (i, hb_val α ov v)
def hb_prs (α : Nat → Nat) (ov : Value) (loc : List Value) : List (Nat × Value) := (List.range loc.length).filterMap (fun i => hb_pr1 α ov i loc[i]?)
theorem hb_prs_mem {α : Nat → Nat} {ov : Value} {loc : List Value} {q : Nat × Value} : q ∈ hb_prs α ov loc ↔ ∃ v, loc[q.1]? = some v ∧ v ≠ .null ∧ q.2 = hb_val α ov v := by
  unfold hb_prs
  rw [List.mem_filterMap]
  constructor
  · rintro ⟨i, hi, h⟩
    revert h
    cases hv : loc[i]? with
    | none => intro h; cases h
    | some v =>
      intro h
      simp only [hb_pr1] at h
      split at h
      · cases h
      · rename_i hn
        cases h
        exact ⟨v, hv, hn, rfl⟩
  · rintro ⟨v, h1, h2, h3⟩
    refine ⟨q.1, List.mem_range.mpr (List.getElem?_eq_some_iff.mp h1).1, ?_⟩
    rw [h1]
    simp only [hb_pr1, if_neg h2]
    rw [← h3]
def hb_LR (α : Nat → Nat) (ov : Value) (nL : Nat) (ls : Array Slot) (loc : List Value) : Prop := loc.length = nL ∧ lv_has ls nL (hb_prs α ov loc)
theorem hb_LR.get {α : Nat → Nat} {ov : Value} {nL : Nat} {ls : Array Slot} {loc : List Value} (h : hb_LR α ov nL ls loc) {i : Nat} {v : Value} (hv : loc[i]? = some v) (hn : v ≠ .null) : ls[i]? = some (.val (hb_val α ov v)) :=
  h.2.2.2 (i, hb_val α ov v) (hb_prs_mem.mpr ⟨v, hv, hn, rfl⟩)
theorem hb_set_eq {loc loc' : List Value} {i : Nat} {v : Value} (h : hb_set loc i v = some loc') : i < loc.length ∧ loc' = loc.set i v := by
  induction loc generalizing i loc' with
  | nil => cases h
  | cons x l ih =>
    cases i with
    | zero => cases h; exact ⟨Nat.succ_pos _, rfl⟩
    | succ i =>
      simp only [hb_set] at h
      revert h
      cases h1 : hb_set l i v with
      | none => intro h; cases h
      | some l' =>
        intro h
        cases h
        obtain ⟨h2, h3⟩ := ih h1
        exact ⟨by simp only [List.length_cons]; omega, by rw [h3]; rfl⟩
theorem hb_sto_eq {loc loc' : List Value} {i : Nat} {v : Value} (h : hb_sto loc i v = some loc') : i < loc.length ∧ loc' = loc.set i v ∧ ∀ j u, j + 1 = i → loc[j]? = some u → u.category = 1 := by
  cases i with
  | zero =>
    obtain ⟨h1, h2⟩ := hb_set_eq h
    exact ⟨h1, h2, fun j u e => by omega⟩
  | succ j =>
    simp only [hb_sto] at h
    split at h
    · cases h
    · cases h
    · rename_i n1 n2
      obtain ⟨h1, h2⟩ := hb_set_eq h
      refine ⟨h1, h2, fun k u e hk => ?_⟩
      obtain rfl : k = j := by omega
      cases u <;> first | rfl | exact absurd hk (n1 _) | exact absurd hk (n2 _)
theorem hb_LR.st1 {α : Nat → Nat} {ov : Value} (ho : ov.category = 1) {nL : Nat} {ls ls' : Array Slot} {loc loc' : List Value} {i : Nat} {v : Value} (h : hb_LR α ov nL ls loc) (hs : hb_sto loc i v = some loc')
    (h' : lv_has ls' nL ((i, hb_val α ov v) :: (hb_prs α ov loc).filter (fun q => !(q.1 == i) && !(q.1 + 1 == i && q.2.category == 2)))) : hb_LR α ov nL ls' loc' := by
  obtain ⟨h1, rfl, h3⟩ := hb_sto_eq hs
  refine ⟨by simpa using h.1, h'.1, h'.2.1, fun q hq => h'.2.2 q ?_⟩
  obtain ⟨u, e1, e2, e3⟩ := hb_prs_mem.mp hq
  by_cases hk : i = q.1
  · rw [← hk, List.getElem?_set_self h1] at e1
    cases e1
    refine List.mem_cons.mpr (Or.inl ?_)
    obtain ⟨a, b⟩ := q
    dsimp only at hk e3
    rw [hk, e3]
  · rw [List.getElem?_set_ne hk] at e1
    refine List.mem_cons.mpr (Or.inr (List.mem_filter.mpr ⟨hb_prs_mem.mpr ⟨u, e1, e2, e3⟩, ?_⟩))
    have hne : (q.1 == i) = false := by simpa using Ne.symm hk
    simp only [hne, Bool.not_false, Bool.true_and, Bool.not_eq_true', Bool.and_eq_false_iff]
    by_cases hj : q.1 + 1 = i
    · right
      rw [e3, hb_val_cat ho, h3 q.1 u hj e1]
      rfl
    · left
      simpa using hj
theorem hb_LR.st2 {α : Nat → Nat} {ov : Value} (ho : ov.category = 1) {nL : Nat} {ls ls' : Array Slot} {loc l1 loc' : List Value} {i : Nat} {v : Value} (h : hb_LR α ov nL ls loc) (hs : hb_sto loc i v = some l1) (hs2 : hb_set l1 (i + 1) .null = some loc')
    (h' : lv_has ls' nL ((i, hb_val α ov v) :: (hb_prs α ov loc).filter (fun q => !(q.1 == i) && (!(q.1 == i + 1) && !(q.1 + 1 == i && q.2.category == 2))))) : hb_LR α ov nL ls' loc' := by
  obtain ⟨h1, rfl, h3⟩ := hb_sto_eq hs
  obtain ⟨g1, rfl⟩ := hb_set_eq hs2
  refine ⟨by simpa using h.1, h'.1, h'.2.1, fun q hq => h'.2.2 q ?_⟩
  obtain ⟨u, e1, e2, e3⟩ := hb_prs_mem.mp hq
  by_cases hk2 : i + 1 = q.1
  · rw [← hk2, List.getElem?_set_self g1] at e1
    cases e1
    exact absurd rfl e2
  · rw [List.getElem?_set_ne hk2] at e1
    by_cases hk : i = q.1
    · rw [← hk, List.getElem?_set_self h1] at e1
      cases e1
      refine List.mem_cons.mpr (Or.inl ?_)
      obtain ⟨a, b⟩ := q
      dsimp only at hk e3
      rw [hk, e3]
    · rw [List.getElem?_set_ne hk] at e1
      refine List.mem_cons.mpr (Or.inr (List.mem_filter.mpr ⟨hb_prs_mem.mpr ⟨u, e1, e2, e3⟩, ?_⟩))
      have hne : (q.1 == i) = false := by simpa using Ne.symm hk
      have hne2 : (q.1 == i + 1) = false := by simpa using Ne.symm hk2
      simp only [hne, hne2, Bool.not_false, Bool.true_and, Bool.not_eq_true', Bool.and_eq_false_iff]
      by_cases hj : q.1 + 1 = i
      · right
        rw [e3, hb_val_cat ho, h3 q.1 u hj e1]
        rfl
      · left
        simpa using hj
/-- at a method's entry -/
theorem hb_lgsl {α : Nat → Nat} {ov : Value} (ho : ov.category = 1) : ∀ as : List Value, (lg_sl (as.map (hb_val α ov))).length = (hb_loc as).length
  | [] => rfl
  | v :: t => by
    have ih := hb_lgsl (α := α) ho t
    simp only [lg_sl, List.map_cons, List.flatMap_cons, List.length_append] at ih ⊢
    rw [ih, hb_val_cat ho]
    cases v <;> simp [hb_loc, Value.category] <;> omega
theorem hb_args_mem {α : Nat → Nat} {ov : Value} (ho : ov.category = 1) : ∀ (as : List Value) (j i : Nat) (v : Value), (hb_loc as)[i]? = some v → v ≠ .null → (j + i, hb_val α ov v) ∈ lv_args j (as.map (hb_val α ov))
  | [], j, i, v, h, _ => by simp [hb_loc] at h
  | u :: t, j, i, v, h, hn => by
    have ih := hb_args_mem (α := α) ho t
    simp only [List.map_cons, lv_args, hb_val_cat ho]
    by_cases hc : u.category = 2
    · rw [if_pos hc]
      have e : hb_loc (u :: t) = u :: .null :: hb_loc t := by cases u <;> first | rfl | (simp [Value.category] at hc; done)
      rw [e] at h
      cases i with
      | zero => cases h; exact List.mem_cons_self
      | succ i =>
        cases i with
        | zero => cases h; exact absurd rfl hn
        | succ i =>
          refine List.mem_cons_of_mem _ ?_
          have := ih (j + 2) i v (by simpa using h) hn
          rwa [show j + 2 + i = j + (i + 1 + 1) by omega] at this
    · rw [if_neg hc]
      have e : hb_loc (u :: t) = u :: hb_loc t := by cases u <;> first | rfl | (simp [Value.category] at hc; done)
      rw [e] at h
      cases i with
      | zero => cases h; exact List.mem_cons_self
      | succ i =>
        refine List.mem_cons_of_mem _ ?_
        have := ih (j + 1) i v (by simpa using h) hn
        rwa [show j + 1 + i = j + (i + 1) by omega] at this
theorem hb_entry {α : Nat → Nat} {ov : Value} (ho : ov.category = 1) {m : Nat} {as : List Value} (h : (hb_loc as).length ≤ (hb_mt m).2.2.1) :
    hb_LR α ov (hb_mt m).2.2.1 ((lg_sl (as.map (hb_val α ov)) ++ List.replicate ((hb_mt m).2.2.1 - (lg_sl (as.map (hb_val α ov))).length) Slot.unset).toArray) (hb_start m as) := by
  have hl := lv_entry (as.map (hb_val α ov)) (n := (hb_mt m).2.2.1) (by rw [hb_lgsl ho]; exact h)
  refine ⟨by simp only [hb_start, hb_pad, List.length_append, List.length_replicate]; omega, hl.1, hl.2.1, fun q hq => hl.2.2 q ?_⟩
  obtain ⟨v, e1, e2, e3⟩ := hb_prs_mem.mp hq
  unfold hb_start hb_pad at e1
  by_cases hk : q.1 < (hb_loc as).length
  · rw [List.getElem?_append_left hk] at e1
    have := hb_args_mem (α := α) ho as 0 q.1 v e1 e2
    rw [Nat.zero_add, ← e3] at this
    exact this
  · rw [List.getElem?_append_right (by omega), List.getElem?_replicate] at e1
    split at e1
    · cases e1; exact absurd rfl e2
    · cases e1
end
section
/-! THE ROWS ARE THE BYTES: each row is what the machine decodes, its links are among the words -/
def hb_bs (a : Nat) : Nat := if a < 199 then a else 41
def hb_fty (a b d : Nat) : Bool := match hbCl[a]? with
  | some q => !(q.2.1 b).2.2.2 && (match d with
    | 0 => decide ((q.2.1 b).2.2.1 = "I")
    | _ => decide ((q.2.1 b).2.2.1 = "Z"))
  | none => false
def hb_fla (own i a b : Nat) : Bool := hbFl.any (fun q => q.1 == own && (q.2.1 == i && (q.2.2.1 == a && q.2.2.2.1 == b)))
def hb_csa (own i : Nat) (z : Int32) : Bool := hbCs.any (fun q => q.1 == own && (q.2.1 == i && decide (q.2.2.1 = z)))
def hb_cla (own i : Nat) (w : Int64) : Bool := hbCL.any (fun q => q.1 == own && (q.2.1 == i && decide (q.2.2.1 = w)))
def hb_mla (own i a : Nat) : Bool := hbMl.any (fun q => q.1 == own && (q.2.1 == i && q.2.2.1 == hb_bs a))
def hb_mna (own i a : Nat) : Bool := hbMn.any (fun q => q.1 == own && (q.2.1 == i && q.2.2 == a))
def hb_opok (own : Nat) (ret : Option FieldType) (pc : Nat) (r : hbR) : Bool :=
  match r with
  | (op, len, a, b, d, z, w) => match op with
    | .iconst n => len == 1 && decide (Int32.ofInt n = z)
    | .bipush n => len == 2 && decide ((Int8.ofInt n).toInt32 = z)
    | .sipush n => len == 3 && decide ((Int16.ofInt n).toInt32 = z)
    | .ldc i => len == 2 && (match d with
      | 0 => hb_csa own i z
      | _ => own == 7 && i == 43)
    | .ldc_w i => len == 3 && hb_csa own i z
    | .lconst n => len == 1 && decide (Int64.ofNat (n : Nat) = w)
    | .ldc2_w i => len == 3 && hb_cla own i w
    | .iload_n k => len == 1 && (k : Nat) == a
    | .iload i => len == 2 && i == a
    | .lload_n k => len == 1 && (k : Nat) == a
    | .lload i => len == 2 && i == a
    | .aload_n k => len == 1 && (k : Nat) == a
    | .aload i => len == 2 && i == a
    | .istore_n k => len == 1 && (k : Nat) == a
    | .istore i => len == 2 && i == a
    | .lstore_n k => len == 1 && (k : Nat) == a
    | .lstore i => len == 2 && i == a
    | .astore_n k => len == 1 && (k : Nat) == a
    | .astore i => len == 2 && i == a
    | .iinc i n => len == 3 && (i == a && decide (Int32.ofInt n = z))
    | .getfield i => len == 3 && (match d with
      | 0 => hb_fla own i a b
      | _ => own == 15 && (match b with
        | 0 => i == 9
        | _ => i == 15))
    | .putfield i => len == 3 && (hb_fla own i a b && hb_fty a b d)
    | .getstatic i => len == 3 && (own == 15 && (match b with
        | 0 => i == 38
        | _ => i == 1053))
    | .goto o => len == 3 && decide ((pc : Int) + o = (a : Int))
    | .ifCond _ o => len == 3 && decide ((pc : Int) + o = (a : Int))
    | .if_icmp _ o => len == 3 && decide ((pc : Int) + o = (a : Int))
    | .tableswitch df lo hi offs => decide (0 ≤ (pc : Int) + df) && (offs.toList.all (fun o => decide (0 ≤ (pc : Int) + o)) && (decide (lo + (offs.size : Int) = hi + 1) && (decide (-2147483648 ≤ lo) && decide (hi < 2147483647))))
    | .ireturn => len == 1 && (match d with
      | 0 => decide (ret = some .int)
      | 1 => decide (ret = some .boolean)
      | _ => ret.isSome)
    | .lreturn => len == 1 && decide (ret = some .long)
    | .return_ => len == 1 && decide (ret = none)
    | .invokevirtual i => len == 3 && (decide (a < 207) && (b == (hb_mt a).2.2.2.2.2.1 && (!(hb_mt a).2.2.2.2.2.2 && (hb_mla own i a && (match d with
      | 2 => (hb_mt a).2.2.2.2.1 == 15
      | _ => decide ((hb_mt a).2.2.2.2.1 < 13))))))
    | .invokestatic i => len == 3 && (match d with
      | 3 => own == 11 && i == 119
      | 1 => decide (a < 199) && (b == (hb_mt a).2.2.2.2.2.1 && ((hb_mt a).2.2.2.2.2.2 && hb_mna own i a))
      | _ => decide (a < 207) && (b == (hb_mt a).2.2.2.2.2.1 && ((hb_mt a).2.2.2.2.2.2 && hb_mla own i a)))
    | _ => len == 1
def hb_rok (m pc : Nat) (r : hbR) : Prop := decode (hb_mt m).2.1 pc = .ok (r.1, r.2.1) ∧ hb_opok (hb_mt m).2.2.2.2.1 (hb_mt m).2.2.2.1 pc r = true
def hb_rokb (m pc : Nat) (r : hbR) : Bool := decide (decode (hb_mt m).2.1 pc = .ok (r.1, r.2.1)) && hb_opok (hb_mt m).2.2.2.2.1 (hb_mt m).2.2.2.1 pc r
def hb_allok (m : Nat) : Bool := (hb_code m).all (fun q => hb_rokb m q.1 q.2)
theorem hb_ok_0 : (List.range 9).all (fun k => hb_allok (0 + k)) = true := by decide +kernel
theorem hb_ok_9 : (List.range 9).all (fun k => hb_allok (9 + k)) = true := by decide +kernel
theorem hb_ok_18 : (List.range 9).all (fun k => hb_allok (18 + k)) = true := by decide +kernel
theorem hb_ok_27 : (List.range 9).all (fun k => hb_allok (27 + k)) = true := by decide +kernel
theorem hb_ok_36 : (List.range 9).all (fun k => hb_allok (36 + k)) = true := by decide +kernel
theorem hb_ok_45 : (List.range 9).all (fun k => hb_allok (45 + k)) = true := by decide +kernel
theorem hb_ok_54 : (List.range 9).all (fun k => hb_allok (54 + k)) = true := by decide +kernel
theorem hb_ok_63 : (List.range 9).all (fun k => hb_allok (63 + k)) = true := by decide +kernel
theorem hb_ok_72 : (List.range 9).all (fun k => hb_allok (72 + k)) = true := by decide +kernel
theorem hb_ok_81 : (List.range 9).all (fun k => hb_allok (81 + k)) = true := by decide +kernel
theorem hb_ok_90 : (List.range 9).all (fun k => hb_allok (90 + k)) = true := by decide +kernel
theorem hb_ok_99 : (List.range 9).all (fun k => hb_allok (99 + k)) = true := by decide +kernel
theorem hb_ok_108 : (List.range 9).all (fun k => hb_allok (108 + k)) = true := by decide +kernel
theorem hb_ok_117 : (List.range 9).all (fun k => hb_allok (117 + k)) = true := by decide +kernel
theorem hb_ok_126 : (List.range 9).all (fun k => hb_allok (126 + k)) = true := by decide +kernel
theorem hb_ok_135 : (List.range 9).all (fun k => hb_allok (135 + k)) = true := by decide +kernel
theorem hb_ok_144 : (List.range 9).all (fun k => hb_allok (144 + k)) = true := by decide +kernel
theorem hb_ok_153 : (List.range 9).all (fun k => hb_allok (153 + k)) = true := by decide +kernel
theorem hb_ok_162 : (List.range 9).all (fun k => hb_allok (162 + k)) = true := by decide +kernel
theorem hb_ok_171 : (List.range 9).all (fun k => hb_allok (171 + k)) = true := by decide +kernel
theorem hb_ok_180 : (List.range 9).all (fun k => hb_allok (180 + k)) = true := by decide +kernel
theorem hb_ok_189 : (List.range 9).all (fun k => hb_allok (189 + k)) = true := by decide +kernel
theorem hb_ok_198 : (List.range 9).all (fun k => hb_allok (198 + k)) = true := by decide +kernel
theorem hb_allok_lt {m : Nat} (h : m < 207) : hb_allok m = true := by
  have key : ∀ a n, (List.range n).all (fun k => hb_allok (a + k)) = true → a ≤ m → m < a + n → hb_allok m = true := by
    intro a n h1 h2 h3
    have := List.all_eq_true.mp h1 (m - a) (List.mem_range.mpr (by omega))
    rwa [show a + (m - a) = m by omega] at this
  rcases Nat.lt_or_ge m 9 with h9 | h9
  · exact key 0 9 hb_ok_0 (by omega) (by omega)
  rcases Nat.lt_or_ge m 18 with h18 | h18
  · exact key 9 9 hb_ok_9 (by omega) (by omega)
  rcases Nat.lt_or_ge m 27 with h27 | h27
  · exact key 18 9 hb_ok_18 (by omega) (by omega)
  rcases Nat.lt_or_ge m 36 with h36 | h36
  · exact key 27 9 hb_ok_27 (by omega) (by omega)
  rcases Nat.lt_or_ge m 45 with h45 | h45
  · exact key 36 9 hb_ok_36 (by omega) (by omega)
  rcases Nat.lt_or_ge m 54 with h54 | h54
  · exact key 45 9 hb_ok_45 (by omega) (by omega)
  rcases Nat.lt_or_ge m 63 with h63 | h63
  · exact key 54 9 hb_ok_54 (by omega) (by omega)
  rcases Nat.lt_or_ge m 72 with h72 | h72
  · exact key 63 9 hb_ok_63 (by omega) (by omega)
  rcases Nat.lt_or_ge m 81 with h81 | h81
  · exact key 72 9 hb_ok_72 (by omega) (by omega)
  rcases Nat.lt_or_ge m 90 with h90 | h90
  · exact key 81 9 hb_ok_81 (by omega) (by omega)
  rcases Nat.lt_or_ge m 99 with h99 | h99
  · exact key 90 9 hb_ok_90 (by omega) (by omega)
  rcases Nat.lt_or_ge m 108 with h108 | h108
  · exact key 99 9 hb_ok_99 (by omega) (by omega)
  rcases Nat.lt_or_ge m 117 with h117 | h117
  · exact key 108 9 hb_ok_108 (by omega) (by omega)
  rcases Nat.lt_or_ge m 126 with h126 | h126
  · exact key 117 9 hb_ok_117 (by omega) (by omega)
  rcases Nat.lt_or_ge m 135 with h135 | h135
  · exact key 126 9 hb_ok_126 (by omega) (by omega)
  rcases Nat.lt_or_ge m 144 with h144 | h144
  · exact key 135 9 hb_ok_135 (by omega) (by omega)
  rcases Nat.lt_or_ge m 153 with h153 | h153
  · exact key 144 9 hb_ok_144 (by omega) (by omega)
  rcases Nat.lt_or_ge m 162 with h162 | h162
  · exact key 153 9 hb_ok_153 (by omega) (by omega)
  rcases Nat.lt_or_ge m 171 with h171 | h171
  · exact key 162 9 hb_ok_162 (by omega) (by omega)
  rcases Nat.lt_or_ge m 180 with h180 | h180
  · exact key 171 9 hb_ok_171 (by omega) (by omega)
  rcases Nat.lt_or_ge m 189 with h189 | h189
  · exact key 180 9 hb_ok_180 (by omega) (by omega)
  rcases Nat.lt_or_ge m 198 with h198 | h198
  · exact key 189 9 hb_ok_189 (by omega) (by omega)
  exact key 198 9 hb_ok_198 (by omega) (by omega)
end
section
/-! each method's code is among the words -/
set_option maxRecDepth 20000 in
theorem hb_mc0 : lw_tbl[888]? = some (Cond.code hbm0.1 hbm0.2.1 hbm0.2.2.1 hbm0.2.2.2.1) := rfl
set_option maxRecDepth 20000 in
theorem hb_mc1 : lw_tbl[919]? = some (Cond.code hbm1.1 hbm1.2.1 hbm1.2.2.1 hbm1.2.2.2.1) := rfl
set_option maxRecDepth 20000 in
theorem hb_mc2 : lw_tbl[894]? = some (Cond.code hbm2.1 hbm2.2.1 hbm2.2.2.1 hbm2.2.2.2.1) := rfl
set_option maxRecDepth 20000 in
theorem hb_mc3 : lw_tbl[907]? = some (Cond.code hbm3.1 hbm3.2.1 hbm3.2.2.1 hbm3.2.2.2.1) := rfl
set_option maxRecDepth 20000 in
theorem hb_mc4 : lw_tbl[899]? = some (Cond.code hbm4.1 hbm4.2.1 hbm4.2.2.1 hbm4.2.2.2.1) := rfl
set_option maxRecDepth 20000 in
theorem hb_mc5 : lw_tbl[911]? = some (Cond.code hbm5.1 hbm5.2.1 hbm5.2.2.1 hbm5.2.2.2.1) := rfl
set_option maxRecDepth 20000 in
theorem hb_mc6 : lw_tbl[915]? = some (Cond.code hbm6.1 hbm6.2.1 hbm6.2.2.1 hbm6.2.2.2.1) := rfl
set_option maxRecDepth 20000 in
theorem hb_mc7 : lw_tbl[903]? = some (Cond.code hbm7.1 hbm7.2.1 hbm7.2.2.1 hbm7.2.2.2.1) := rfl
set_option maxRecDepth 20000 in
theorem hb_mc8 : lw_tbl[786]? = some (Cond.code hbm8.1 hbm8.2.1 hbm8.2.2.1 hbm8.2.2.2.1) := rfl
set_option maxRecDepth 20000 in
theorem hb_mc9 : lw_tbl[828]? = some (Cond.code hbm9.1 hbm9.2.1 hbm9.2.2.1 hbm9.2.2.2.1) := rfl
set_option maxRecDepth 20000 in
theorem hb_mc10 : lw_tbl[803]? = some (Cond.code hbm10.1 hbm10.2.1 hbm10.2.2.1 hbm10.2.2.2.1) := rfl
set_option maxRecDepth 20000 in
theorem hb_mc11 : lw_tbl[955]? = some (Cond.code hbm11.1 hbm11.2.1 hbm11.2.2.1 hbm11.2.2.2.1) := rfl
set_option maxRecDepth 20000 in
theorem hb_mc12 : lw_tbl[722]? = some (Cond.code hbm12.1 hbm12.2.1 hbm12.2.2.1 hbm12.2.2.2.1) := rfl
set_option maxRecDepth 20000 in
theorem hb_mc13 : lw_tbl[165]? = some (Cond.code hbm13.1 hbm13.2.1 hbm13.2.2.1 hbm13.2.2.2.1) := rfl
set_option maxRecDepth 20000 in
theorem hb_mc14 : lw_tbl[599]? = some (Cond.code hbm14.1 hbm14.2.1 hbm14.2.2.1 hbm14.2.2.2.1) := rfl
set_option maxRecDepth 20000 in
theorem hb_mc15 : lw_tbl[678]? = some (Cond.code hbm15.1 hbm15.2.1 hbm15.2.2.1 hbm15.2.2.2.1) := rfl
set_option maxRecDepth 20000 in
theorem hb_mc16 : lw_tbl[682]? = some (Cond.code hbm16.1 hbm16.2.1 hbm16.2.2.1 hbm16.2.2.2.1) := rfl
set_option maxRecDepth 20000 in
theorem hb_mc17 : lw_tbl[707]? = some (Cond.code hbm17.1 hbm17.2.1 hbm17.2.2.1 hbm17.2.2.2.1) := rfl
set_option maxRecDepth 20000 in
theorem hb_mc18 : lw_tbl[727]? = some (Cond.code hbm18.1 hbm18.2.1 hbm18.2.2.1 hbm18.2.2.2.1) := rfl
set_option maxRecDepth 20000 in
theorem hb_mc19 : lw_tbl[735]? = some (Cond.code hbm19.1 hbm19.2.1 hbm19.2.2.1 hbm19.2.2.2.1) := rfl
set_option maxRecDepth 20000 in
theorem hb_mc20 : lw_tbl[711]? = some (Cond.code hbm20.1 hbm20.2.1 hbm20.2.2.1 hbm20.2.2.2.1) := rfl
set_option maxRecDepth 20000 in
theorem hb_mc21 : lw_tbl[715]? = some (Cond.code hbm21.1 hbm21.2.1 hbm21.2.2.1 hbm21.2.2.2.1) := rfl
set_option maxRecDepth 20000 in
theorem hb_mc22 : lw_tbl[731]? = some (Cond.code hbm22.1 hbm22.2.1 hbm22.2.2.1 hbm22.2.2.2.1) := rfl
set_option maxRecDepth 20000 in
theorem hb_mc23 : lw_tbl[694]? = some (Cond.code hbm23.1 hbm23.2.1 hbm23.2.2.1 hbm23.2.2.2.1) := rfl
set_option maxRecDepth 20000 in
theorem hb_mc24 : lw_tbl[703]? = some (Cond.code hbm24.1 hbm24.2.1 hbm24.2.2.1 hbm24.2.2.2.1) := rfl
set_option maxRecDepth 20000 in
theorem hb_mc25 : lw_tbl[686]? = some (Cond.code hbm25.1 hbm25.2.1 hbm25.2.2.1 hbm25.2.2.2.1) := rfl
set_option maxRecDepth 20000 in
theorem hb_mc26 : lw_tbl[690]? = some (Cond.code hbm26.1 hbm26.2.1 hbm26.2.2.1 hbm26.2.2.2.1) := rfl
set_option maxRecDepth 20000 in
theorem hb_mc27 : lw_tbl[819]? = some (Cond.code hbm27.1 hbm27.2.1 hbm27.2.2.1 hbm27.2.2.2.1) := rfl
set_option maxRecDepth 20000 in
theorem hb_mc28 : lw_tbl[824]? = some (Cond.code hbm28.1 hbm28.2.1 hbm28.2.2.1 hbm28.2.2.2.1) := rfl
set_option maxRecDepth 20000 in
theorem hb_mc29 : lw_tbl[552]? = some (Cond.code hbm29.1 hbm29.2.1 hbm29.2.2.1 hbm29.2.2.2.1) := rfl
set_option maxRecDepth 20000 in
theorem hb_mc30 : lw_tbl[567]? = some (Cond.code hbm30.1 hbm30.2.1 hbm30.2.2.1 hbm30.2.2.2.1) := rfl
set_option maxRecDepth 20000 in
theorem hb_mc31 : lw_tbl[571]? = some (Cond.code hbm31.1 hbm31.2.1 hbm31.2.2.1 hbm31.2.2.2.1) := rfl
set_option maxRecDepth 20000 in
theorem hb_mc32 : lw_tbl[790]? = some (Cond.code hbm32.1 hbm32.2.1 hbm32.2.2.1 hbm32.2.2.2.1) := rfl
set_option maxRecDepth 20000 in
theorem hb_mc33 : lw_tbl[807]? = some (Cond.code hbm33.1 hbm33.2.1 hbm33.2.2.1 hbm33.2.2.2.1) := rfl
set_option maxRecDepth 20000 in
theorem hb_mc34 : lw_tbl[739]? = some (Cond.code hbm34.1 hbm34.2.1 hbm34.2.2.1 hbm34.2.2.2.1) := rfl
set_option maxRecDepth 20000 in
theorem hb_mc35 : lw_tbl[986]? = some (Cond.code hbm35.1 hbm35.2.1 hbm35.2.2.1 hbm35.2.2.2.1) := rfl
set_option maxRecDepth 20000 in
theorem hb_mc36 : lw_tbl[994]? = some (Cond.code hbm36.1 hbm36.2.1 hbm36.2.2.1 hbm36.2.2.2.1) := rfl
set_option maxRecDepth 20000 in
theorem hb_mc37 : lw_tbl[1023]? = some (Cond.code hbm37.1 hbm37.2.1 hbm37.2.2.1 hbm37.2.2.2.1) := rfl
set_option maxRecDepth 20000 in
theorem hb_mc38 : lw_tbl[1003]? = some (Cond.code hbm38.1 hbm38.2.1 hbm38.2.2.1 hbm38.2.2.2.1) := rfl
set_option maxRecDepth 20000 in
theorem hb_mc39 : lw_tbl[1007]? = some (Cond.code hbm39.1 hbm39.2.1 hbm39.2.2.1 hbm39.2.2.2.1) := rfl
set_option maxRecDepth 20000 in
theorem hb_mc40 : lw_tbl[1011]? = some (Cond.code hbm40.1 hbm40.2.1 hbm40.2.2.1 hbm40.2.2.2.1) := rfl
set_option maxRecDepth 20000 in
theorem hb_mc41 : lw_tbl[1015]? = some (Cond.code hbm41.1 hbm41.2.1 hbm41.2.2.1 hbm41.2.2.2.1) := rfl
set_option maxRecDepth 20000 in
theorem hb_mc42 : lw_tbl[1019]? = some (Cond.code hbm42.1 hbm42.2.1 hbm42.2.2.1 hbm42.2.2.2.1) := rfl
set_option maxRecDepth 20000 in
theorem hb_mc43 : lw_tbl[590]? = some (Cond.code hbm43.1 hbm43.2.1 hbm43.2.2.1 hbm43.2.2.2.1) := rfl
set_option maxRecDepth 20000 in
theorem hb_mc44 : lw_tbl[603]? = some (Cond.code hbm44.1 hbm44.2.1 hbm44.2.2.1 hbm44.2.2.2.1) := rfl
set_option maxRecDepth 20000 in
theorem hb_mc45 : lw_tbl[607]? = some (Cond.code hbm45.1 hbm45.2.1 hbm45.2.2.1 hbm45.2.2.2.1) := rfl
set_option maxRecDepth 20000 in
theorem hb_mc46 : lw_tbl[617]? = some (Cond.code hbm46.1 hbm46.2.1 hbm46.2.2.1 hbm46.2.2.2.1) := rfl
set_option maxRecDepth 20000 in
theorem hb_mc47 : lw_tbl[621]? = some (Cond.code hbm47.1 hbm47.2.1 hbm47.2.2.1 hbm47.2.2.2.1) := rfl
set_option maxRecDepth 20000 in
theorem hb_mc48 : lw_tbl[610]? = some (Cond.code hbm48.1 hbm48.2.1 hbm48.2.2.1 hbm48.2.2.2.1) := rfl
set_option maxRecDepth 20000 in
theorem hb_mc49 : lw_tbl[613]? = some (Cond.code hbm49.1 hbm49.2.1 hbm49.2.2.1 hbm49.2.2.2.1) := rfl
set_option maxRecDepth 20000 in
theorem hb_mc50 : lw_tbl[838]? = some (Cond.code hbm50.1 hbm50.2.1 hbm50.2.2.1 hbm50.2.2.2.1) := rfl
set_option maxRecDepth 20000 in
theorem hb_mc51 : lw_tbl[842]? = some (Cond.code hbm51.1 hbm51.2.1 hbm51.2.2.1 hbm51.2.2.2.1) := rfl
set_option maxRecDepth 20000 in
theorem hb_mc52 : lw_tbl[847]? = some (Cond.code hbm52.1 hbm52.2.1 hbm52.2.2.1 hbm52.2.2.2.1) := rfl
set_option maxRecDepth 20000 in
theorem hb_mc53 : lw_tbl[853]? = some (Cond.code hbm53.1 hbm53.2.1 hbm53.2.2.1 hbm53.2.2.2.1) := rfl
set_option maxRecDepth 20000 in
theorem hb_mc54 : lw_tbl[879]? = some (Cond.code hbm54.1 hbm54.2.1 hbm54.2.2.1 hbm54.2.2.2.1) := rfl
set_option maxRecDepth 20000 in
theorem hb_mc55 : lw_tbl[857]? = some (Cond.code hbm55.1 hbm55.2.1 hbm55.2.2.1 hbm55.2.2.2.1) := rfl
set_option maxRecDepth 20000 in
theorem hb_mc56 : lw_tbl[862]? = some (Cond.code hbm56.1 hbm56.2.1 hbm56.2.2.1 hbm56.2.2.2.1) := rfl
set_option maxRecDepth 20000 in
theorem hb_mc57 : lw_tbl[867]? = some (Cond.code hbm57.1 hbm57.2.1 hbm57.2.2.1 hbm57.2.2.2.1) := rfl
set_option maxRecDepth 20000 in
theorem hb_mc58 : lw_tbl[871]? = some (Cond.code hbm58.1 hbm58.2.1 hbm58.2.2.1 hbm58.2.2.2.1) := rfl
set_option maxRecDepth 20000 in
theorem hb_mc59 : lw_tbl[875]? = some (Cond.code hbm59.1 hbm59.2.1 hbm59.2.2.1 hbm59.2.2.2.1) := rfl
set_option maxRecDepth 20000 in
theorem hb_mc60 : lw_tbl[963]? = some (Cond.code hbm60.1 hbm60.2.1 hbm60.2.2.1 hbm60.2.2.2.1) := rfl
set_option maxRecDepth 20000 in
theorem hb_mc61 : lw_tbl[972]? = some (Cond.code hbm61.1 hbm61.2.1 hbm61.2.2.1 hbm61.2.2.2.1) := rfl
set_option maxRecDepth 20000 in
theorem hb_mc62 : lw_tbl[967]? = some (Cond.code hbm62.1 hbm62.2.1 hbm62.2.2.1 hbm62.2.2.2.1) := rfl
set_option maxRecDepth 20000 in
theorem hb_mc63 : lw_tbl[815]? = some (Cond.code hbm63.1 hbm63.2.1 hbm63.2.2.1 hbm63.2.2.2.1) := rfl
set_option maxRecDepth 20000 in
theorem hb_mc64 : lw_tbl[947]? = some (Cond.code hbm64.1 hbm64.2.1 hbm64.2.2.1 hbm64.2.2.2.1) := rfl
set_option maxRecDepth 20000 in
theorem hb_mc65 : lw_tbl[951]? = some (Cond.code hbm65.1 hbm65.2.1 hbm65.2.2.1 hbm65.2.2.2.1) := rfl
set_option maxRecDepth 20000 in
theorem hb_mc66 : lw_tbl[929]? = some (Cond.code hbm66.1 hbm66.2.1 hbm66.2.2.1 hbm66.2.2.2.1) := rfl
set_option maxRecDepth 20000 in
theorem hb_mc67 : lw_tbl[933]? = some (Cond.code hbm67.1 hbm67.2.1 hbm67.2.2.1 hbm67.2.2.2.1) := rfl
set_option maxRecDepth 20000 in
theorem hb_mc68 : lw_tbl[937]? = some (Cond.code hbm68.1 hbm68.2.1 hbm68.2.2.1 hbm68.2.2.2.1) := rfl
set_option maxRecDepth 20000 in
theorem hb_mc69 : lw_tbl[718]? = some (Cond.code hbm69.1 hbm69.2.1 hbm69.2.2.1 hbm69.2.2.2.1) := rfl
set_option maxRecDepth 20000 in
theorem hb_mc70 : lw_tbl[168]? = some (Cond.code hbm70.1 hbm70.2.1 hbm70.2.2.1 hbm70.2.2.2.1) := rfl
set_option maxRecDepth 20000 in
theorem hb_mc71 : lw_tbl[795]? = some (Cond.code hbm71.1 hbm71.2.1 hbm71.2.2.1 hbm71.2.2.2.1) := rfl
set_option maxRecDepth 20000 in
theorem hb_mc72 : lw_tbl[699]? = some (Cond.code hbm72.1 hbm72.2.1 hbm72.2.2.1 hbm72.2.2.2.1) := rfl
set_option maxRecDepth 20000 in
theorem hb_mc73 : lw_tbl[674]? = some (Cond.code hbm73.1 hbm73.2.1 hbm73.2.2.1 hbm73.2.2.2.1) := rfl
set_option maxRecDepth 20000 in
theorem hb_mc74 : lw_tbl[743]? = some (Cond.code hbm74.1 hbm74.2.1 hbm74.2.2.1 hbm74.2.2.2.1) := rfl
set_option maxRecDepth 20000 in
theorem hb_mc75 : lw_tbl[148]? = some (Cond.code hbm75.1 hbm75.2.1 hbm75.2.2.1 hbm75.2.2.2.1) := rfl
set_option maxRecDepth 20000 in
theorem hb_mc76 : lw_tbl[152]? = some (Cond.code hbm76.1 hbm76.2.1 hbm76.2.2.1 hbm76.2.2.2.1) := rfl
set_option maxRecDepth 20000 in
theorem hb_mc77 : lw_tbl[155]? = some (Cond.code hbm77.1 hbm77.2.1 hbm77.2.2.1 hbm77.2.2.2.1) := rfl
set_option maxRecDepth 20000 in
theorem hb_mc78 : lw_tbl[536]? = some (Cond.code hbm78.1 hbm78.2.1 hbm78.2.2.1 hbm78.2.2.2.1) := rfl
set_option maxRecDepth 20000 in
theorem hb_mc79 : lw_tbl[563]? = some (Cond.code hbm79.1 hbm79.2.1 hbm79.2.2.1 hbm79.2.2.2.1) := rfl
set_option maxRecDepth 20000 in
theorem hb_mc80 : lw_tbl[575]? = some (Cond.code hbm80.1 hbm80.2.1 hbm80.2.2.1 hbm80.2.2.2.1) := rfl
set_option maxRecDepth 20000 in
theorem hb_mc81 : lw_tbl[582]? = some (Cond.code hbm81.1 hbm81.2.1 hbm81.2.2.1 hbm81.2.2.2.1) := rfl
set_option maxRecDepth 20000 in
theorem hb_mc82 : lw_tbl[586]? = some (Cond.code hbm82.1 hbm82.2.1 hbm82.2.2.1 hbm82.2.2.2.1) := rfl
set_option maxRecDepth 20000 in
theorem hb_mc83 : lw_tbl[595]? = some (Cond.code hbm83.1 hbm83.2.1 hbm83.2.2.1 hbm83.2.2.2.1) := rfl
set_option maxRecDepth 20000 in
theorem hb_mc84 : lw_tbl[749]? = some (Cond.code hbm84.1 hbm84.2.1 hbm84.2.2.1 hbm84.2.2.2.1) := rfl
set_option maxRecDepth 20000 in
theorem hb_mc85 : lw_tbl[753]? = some (Cond.code hbm85.1 hbm85.2.1 hbm85.2.2.1 hbm85.2.2.2.1) := rfl
set_option maxRecDepth 20000 in
theorem hb_mc86 : lw_tbl[758]? = some (Cond.code hbm86.1 hbm86.2.1 hbm86.2.2.1 hbm86.2.2.2.1) := rfl
set_option maxRecDepth 20000 in
theorem hb_mc87 : lw_tbl[762]? = some (Cond.code hbm87.1 hbm87.2.1 hbm87.2.2.1 hbm87.2.2.2.1) := rfl
set_option maxRecDepth 20000 in
theorem hb_mc88 : lw_tbl[766]? = some (Cond.code hbm88.1 hbm88.2.1 hbm88.2.2.1 hbm88.2.2.2.1) := rfl
set_option maxRecDepth 20000 in
theorem hb_mc89 : lw_tbl[773]? = some (Cond.code hbm89.1 hbm89.2.1 hbm89.2.2.1 hbm89.2.2.2.1) := rfl
set_option maxRecDepth 20000 in
theorem hb_mc90 : lw_tbl[778]? = some (Cond.code hbm90.1 hbm90.2.1 hbm90.2.2.1 hbm90.2.2.2.1) := rfl
set_option maxRecDepth 20000 in
theorem hb_mc91 : lw_tbl[782]? = some (Cond.code hbm91.1 hbm91.2.1 hbm91.2.2.1 hbm91.2.2.2.1) := rfl
set_option maxRecDepth 20000 in
theorem hb_mc92 : lw_tbl[799]? = some (Cond.code hbm92.1 hbm92.2.1 hbm92.2.2.1 hbm92.2.2.2.1) := rfl
set_option maxRecDepth 20000 in
theorem hb_mc93 : lw_tbl[811]? = some (Cond.code hbm93.1 hbm93.2.1 hbm93.2.2.1 hbm93.2.2.2.1) := rfl
set_option maxRecDepth 20000 in
theorem hb_mc94 : lw_tbl[834]? = some (Cond.code hbm94.1 hbm94.2.1 hbm94.2.2.1 hbm94.2.2.2.1) := rfl
set_option maxRecDepth 20000 in
theorem hb_mc95 : lw_tbl[884]? = some (Cond.code hbm95.1 hbm95.2.1 hbm95.2.2.1 hbm95.2.2.2.1) := rfl
set_option maxRecDepth 20000 in
theorem hb_mc96 : lw_tbl[925]? = some (Cond.code hbm96.1 hbm96.2.1 hbm96.2.2.1 hbm96.2.2.2.1) := rfl
set_option maxRecDepth 20000 in
theorem hb_mc97 : lw_tbl[942]? = some (Cond.code hbm97.1 hbm97.2.1 hbm97.2.2.1 hbm97.2.2.2.1) := rfl
set_option maxRecDepth 20000 in
theorem hb_mc98 : lw_tbl[959]? = some (Cond.code hbm98.1 hbm98.2.1 hbm98.2.2.1 hbm98.2.2.2.1) := rfl
set_option maxRecDepth 20000 in
theorem hb_mc99 : lw_tbl[982]? = some (Cond.code hbm99.1 hbm99.2.1 hbm99.2.2.1 hbm99.2.2.2.1) := rfl
set_option maxRecDepth 20000 in
theorem hb_mc100 : lw_tbl[990]? = some (Cond.code hbm100.1 hbm100.2.1 hbm100.2.2.1 hbm100.2.2.2.1) := rfl
set_option maxRecDepth 20000 in
theorem hb_mc101 : lw_tbl[999]? = some (Cond.code hbm101.1 hbm101.2.1 hbm101.2.2.1 hbm101.2.2.2.1) := rfl
set_option maxRecDepth 20000 in
theorem hb_mc102 : lw_tbl[1027]? = some (Cond.code hbm102.1 hbm102.2.1 hbm102.2.2.1 hbm102.2.2.2.1) := rfl
set_option maxRecDepth 20000 in
theorem hb_mc103 : lw_tbl[1031]? = some (Cond.code hbm103.1 hbm103.2.1 hbm103.2.2.1 hbm103.2.2.2.1) := rfl
set_option maxRecDepth 20000 in
theorem hb_mc104 : lw_tbl[1039]? = some (Cond.code hbm104.1 hbm104.2.1 hbm104.2.2.1 hbm104.2.2.2.1) := rfl
set_option maxRecDepth 20000 in
theorem hb_mc105 : lw_tbl[547]? = some (Cond.code hbm105.1 hbm105.2.1 hbm105.2.2.1 hbm105.2.2.2.1) := rfl
set_option maxRecDepth 20000 in
theorem hb_mc106 : lw_tbl[559]? = some (Cond.code hbm106.1 hbm106.2.1 hbm106.2.2.1 hbm106.2.2.2.1) := rfl
set_option maxRecDepth 20000 in
theorem hb_mc107 : lw_tbl[1035]? = some (Cond.code hbm107.1 hbm107.2.1 hbm107.2.2.1 hbm107.2.2.2.1) := rfl
set_option maxRecDepth 20000 in
theorem hb_mc108 : lw_tbl[539]? = some (Cond.code hbm108.1 hbm108.2.1 hbm108.2.2.1 hbm108.2.2.2.1) := rfl
set_option maxRecDepth 20000 in
theorem hb_mc109 : lw_tbl[769]? = some (Cond.code hbm109.1 hbm109.2.1 hbm109.2.2.1 hbm109.2.2.2.1) := rfl
set_option maxRecDepth 20000 in
theorem hb_mc110 : lw_tbl[542]? = some (Cond.code hbm110.1 hbm110.2.1 hbm110.2.2.1 hbm110.2.2.2.1) := rfl
set_option maxRecDepth 20000 in
theorem hb_mc111 : lw_tbl[171]? = some (Cond.code hbm111.1 hbm111.2.1 hbm111.2.2.1 hbm111.2.2.2.1) := rfl
set_option maxRecDepth 20000 in
theorem hb_mc112 : lw_tbl[1205]? = some (Cond.code hbm112.1 hbm112.2.1 hbm112.2.2.1 hbm112.2.2.2.1) := rfl
set_option maxRecDepth 20000 in
theorem hb_mc113 : lw_tbl[1211]? = some (Cond.code hbm113.1 hbm113.2.1 hbm113.2.2.1 hbm113.2.2.2.1) := rfl
set_option maxRecDepth 20000 in
theorem hb_mc114 : lw_tbl[1201]? = some (Cond.code hbm114.1 hbm114.2.1 hbm114.2.2.1 hbm114.2.2.2.1) := rfl
set_option maxRecDepth 20000 in
theorem hb_mc115 : lw_tbl[1198]? = some (Cond.code hbm115.1 hbm115.2.1 hbm115.2.2.1 hbm115.2.2.2.1) := rfl
set_option maxRecDepth 20000 in
theorem hb_mc116 : lw_tbl[1216]? = some (Cond.code hbm116.1 hbm116.2.1 hbm116.2.2.1 hbm116.2.2.2.1) := rfl
set_option maxRecDepth 20000 in
theorem hb_mc117 : lw_tbl[1220]? = some (Cond.code hbm117.1 hbm117.2.1 hbm117.2.2.1 hbm117.2.2.2.1) := rfl
set_option maxRecDepth 20000 in
theorem hb_mc118 : lw_tbl[1224]? = some (Cond.code hbm118.1 hbm118.2.1 hbm118.2.2.1 hbm118.2.2.2.1) := rfl
set_option maxRecDepth 20000 in
theorem hb_mc119 : lw_tbl[1228]? = some (Cond.code hbm119.1 hbm119.2.1 hbm119.2.2.1 hbm119.2.2.2.1) := rfl
set_option maxRecDepth 20000 in
theorem hb_mc120 : lw_tbl[1243]? = some (Cond.code hbm120.1 hbm120.2.1 hbm120.2.2.1 hbm120.2.2.2.1) := rfl
set_option maxRecDepth 20000 in
theorem hb_mc121 : lw_tbl[1247]? = some (Cond.code hbm121.1 hbm121.2.1 hbm121.2.2.1 hbm121.2.2.2.1) := rfl
set_option maxRecDepth 20000 in
theorem hb_mc122 : lw_tbl[1250]? = some (Cond.code hbm122.1 hbm122.2.1 hbm122.2.2.1 hbm122.2.2.2.1) := rfl
set_option maxRecDepth 20000 in
theorem hb_mc123 : lw_tbl[1239]? = some (Cond.code hbm123.1 hbm123.2.1 hbm123.2.2.1 hbm123.2.2.2.1) := rfl
set_option maxRecDepth 20000 in
theorem hb_mc124 : lw_tbl[1266]? = some (Cond.code hbm124.1 hbm124.2.1 hbm124.2.2.1 hbm124.2.2.2.1) := rfl
set_option maxRecDepth 20000 in
theorem hb_mc125 : lw_tbl[1270]? = some (Cond.code hbm125.1 hbm125.2.1 hbm125.2.2.1 hbm125.2.2.2.1) := rfl
set_option maxRecDepth 20000 in
theorem hb_mc126 : lw_tbl[1258]? = some (Cond.code hbm126.1 hbm126.2.1 hbm126.2.2.1 hbm126.2.2.2.1) := rfl
set_option maxRecDepth 20000 in
theorem hb_mc127 : lw_tbl[1274]? = some (Cond.code hbm127.1 hbm127.2.1 hbm127.2.2.1 hbm127.2.2.2.1) := rfl
set_option maxRecDepth 20000 in
theorem hb_mc128 : lw_tbl[1284]? = some (Cond.code hbm128.1 hbm128.2.1 hbm128.2.2.1 hbm128.2.2.2.1) := rfl
set_option maxRecDepth 20000 in
theorem hb_mc129 : lw_tbl[1297]? = some (Cond.code hbm129.1 hbm129.2.1 hbm129.2.2.1 hbm129.2.2.2.1) := rfl
set_option maxRecDepth 20000 in
theorem hb_mc130 : lw_tbl[1280]? = some (Cond.code hbm130.1 hbm130.2.1 hbm130.2.2.1 hbm130.2.2.2.1) := rfl
set_option maxRecDepth 20000 in
theorem hb_mc131 : lw_tbl[1302]? = some (Cond.code hbm131.1 hbm131.2.1 hbm131.2.2.1 hbm131.2.2.2.1) := rfl
set_option maxRecDepth 20000 in
theorem hb_mc132 : lw_tbl[1254]? = some (Cond.code hbm132.1 hbm132.2.1 hbm132.2.2.1 hbm132.2.2.2.1) := rfl
set_option maxRecDepth 20000 in
theorem hb_mc133 : lw_tbl[1235]? = some (Cond.code hbm133.1 hbm133.2.1 hbm133.2.2.1 hbm133.2.2.2.1) := rfl
set_option maxRecDepth 20000 in
theorem hb_mc134 : lw_tbl[1307]? = some (Cond.code hbm134.1 hbm134.2.1 hbm134.2.2.1 hbm134.2.2.2.1) := rfl
set_option maxRecDepth 20000 in
theorem hb_mc135 : lw_tbl[1314]? = some (Cond.code hbm135.1 hbm135.2.1 hbm135.2.2.1 hbm135.2.2.2.1) := rfl
set_option maxRecDepth 20000 in
theorem hb_mc136 : lw_tbl[1333]? = some (Cond.code hbm136.1 hbm136.2.1 hbm136.2.2.1 hbm136.2.2.2.1) := rfl
set_option maxRecDepth 20000 in
theorem hb_mc137 : lw_tbl[1321]? = some (Cond.code hbm137.1 hbm137.2.1 hbm137.2.2.1 hbm137.2.2.2.1) := rfl
set_option maxRecDepth 20000 in
theorem hb_mc138 : lw_tbl[1311]? = some (Cond.code hbm138.1 hbm138.2.1 hbm138.2.2.1 hbm138.2.2.2.1) := rfl
set_option maxRecDepth 20000 in
theorem hb_mc139 : lw_tbl[1318]? = some (Cond.code hbm139.1 hbm139.2.1 hbm139.2.2.1 hbm139.2.2.2.1) := rfl
set_option maxRecDepth 20000 in
theorem hb_mc140 : lw_tbl[1326]? = some (Cond.code hbm140.1 hbm140.2.1 hbm140.2.2.1 hbm140.2.2.2.1) := rfl
set_option maxRecDepth 20000 in
theorem hb_mc141 : lw_tbl[1341]? = some (Cond.code hbm141.1 hbm141.2.1 hbm141.2.2.1 hbm141.2.2.2.1) := rfl
set_option maxRecDepth 20000 in
theorem hb_mc142 : lw_tbl[1338]? = some (Cond.code hbm142.1 hbm142.2.1 hbm142.2.2.1 hbm142.2.2.2.1) := rfl
set_option maxRecDepth 20000 in
theorem hb_mc143 : lw_tbl[1330]? = some (Cond.code hbm143.1 hbm143.2.1 hbm143.2.2.1 hbm143.2.2.2.1) := rfl
set_option maxRecDepth 20000 in
theorem hb_mc144 : lw_tbl[1357]? = some (Cond.code hbm144.1 hbm144.2.1 hbm144.2.2.1 hbm144.2.2.2.1) := rfl
set_option maxRecDepth 20000 in
theorem hb_mc145 : lw_tbl[1353]? = some (Cond.code hbm145.1 hbm145.2.1 hbm145.2.2.1 hbm145.2.2.2.1) := rfl
set_option maxRecDepth 20000 in
theorem hb_mc146 : lw_tbl[1349]? = some (Cond.code hbm146.1 hbm146.2.1 hbm146.2.2.1 hbm146.2.2.2.1) := rfl
set_option maxRecDepth 20000 in
theorem hb_mc147 : lw_tbl[1361]? = some (Cond.code hbm147.1 hbm147.2.1 hbm147.2.2.1 hbm147.2.2.2.1) := rfl
set_option maxRecDepth 20000 in
theorem hb_mc148 : lw_tbl[1345]? = some (Cond.code hbm148.1 hbm148.2.1 hbm148.2.2.1 hbm148.2.2.2.1) := rfl
set_option maxRecDepth 20000 in
theorem hb_mc149 : lw_tbl[1365]? = some (Cond.code hbm149.1 hbm149.2.1 hbm149.2.2.1 hbm149.2.2.2.1) := rfl
set_option maxRecDepth 20000 in
theorem hb_mc150 : lw_tbl[1386]? = some (Cond.code hbm150.1 hbm150.2.1 hbm150.2.2.1 hbm150.2.2.2.1) := rfl
set_option maxRecDepth 20000 in
theorem hb_mc151 : lw_tbl[1382]? = some (Cond.code hbm151.1 hbm151.2.1 hbm151.2.2.1 hbm151.2.2.2.1) := rfl
set_option maxRecDepth 20000 in
theorem hb_mc152 : lw_tbl[1378]? = some (Cond.code hbm152.1 hbm152.2.1 hbm152.2.2.1 hbm152.2.2.2.1) := rfl
set_option maxRecDepth 20000 in
theorem hb_mc153 : lw_tbl[1394]? = some (Cond.code hbm153.1 hbm153.2.1 hbm153.2.2.1 hbm153.2.2.2.1) := rfl
set_option maxRecDepth 20000 in
theorem hb_mc154 : lw_tbl[1373]? = some (Cond.code hbm154.1 hbm154.2.1 hbm154.2.2.1 hbm154.2.2.2.1) := rfl
set_option maxRecDepth 20000 in
theorem hb_mc155 : lw_tbl[1370]? = some (Cond.code hbm155.1 hbm155.2.1 hbm155.2.2.1 hbm155.2.2.2.1) := rfl
set_option maxRecDepth 20000 in
theorem hb_mc156 : lw_tbl[1390]? = some (Cond.code hbm156.1 hbm156.2.1 hbm156.2.2.1 hbm156.2.2.2.1) := rfl
set_option maxRecDepth 20000 in
theorem hb_mc157 : lw_tbl[1402]? = some (Cond.code hbm157.1 hbm157.2.1 hbm157.2.2.1 hbm157.2.2.2.1) := rfl
set_option maxRecDepth 20000 in
theorem hb_mc158 : lw_tbl[1398]? = some (Cond.code hbm158.1 hbm158.2.1 hbm158.2.2.1 hbm158.2.2.2.1) := rfl
set_option maxRecDepth 20000 in
theorem hb_mc159 : lw_tbl[1415]? = some (Cond.code hbm159.1 hbm159.2.1 hbm159.2.2.1 hbm159.2.2.2.1) := rfl
set_option maxRecDepth 20000 in
theorem hb_mc160 : lw_tbl[1411]? = some (Cond.code hbm160.1 hbm160.2.1 hbm160.2.2.1 hbm160.2.2.2.1) := rfl
set_option maxRecDepth 20000 in
theorem hb_mc161 : lw_tbl[1419]? = some (Cond.code hbm161.1 hbm161.2.1 hbm161.2.2.1 hbm161.2.2.2.1) := rfl
set_option maxRecDepth 20000 in
theorem hb_mc162 : lw_tbl[1423]? = some (Cond.code hbm162.1 hbm162.2.1 hbm162.2.2.1 hbm162.2.2.2.1) := rfl
set_option maxRecDepth 20000 in
theorem hb_mc163 : lw_tbl[1406]? = some (Cond.code hbm163.1 hbm163.2.1 hbm163.2.2.1 hbm163.2.2.2.1) := rfl
set_option maxRecDepth 20000 in
theorem hb_mc164 : lw_tbl[1431]? = some (Cond.code hbm164.1 hbm164.2.1 hbm164.2.2.1 hbm164.2.2.2.1) := rfl
set_option maxRecDepth 20000 in
theorem hb_mc165 : lw_tbl[1427]? = some (Cond.code hbm165.1 hbm165.2.1 hbm165.2.2.1 hbm165.2.2.2.1) := rfl
set_option maxRecDepth 20000 in
theorem hb_mc166 : lw_tbl[1439]? = some (Cond.code hbm166.1 hbm166.2.1 hbm166.2.2.1 hbm166.2.2.2.1) := rfl
set_option maxRecDepth 20000 in
theorem hb_mc167 : lw_tbl[1435]? = some (Cond.code hbm167.1 hbm167.2.1 hbm167.2.2.1 hbm167.2.2.2.1) := rfl
set_option maxRecDepth 20000 in
theorem hb_mc168 : lw_tbl[1447]? = some (Cond.code hbm168.1 hbm168.2.1 hbm168.2.2.1 hbm168.2.2.2.1) := rfl
set_option maxRecDepth 20000 in
theorem hb_mc169 : lw_tbl[1443]? = some (Cond.code hbm169.1 hbm169.2.1 hbm169.2.2.1 hbm169.2.2.2.1) := rfl
set_option maxRecDepth 20000 in
theorem hb_mc170 : lw_tbl[1455]? = some (Cond.code hbm170.1 hbm170.2.1 hbm170.2.2.1 hbm170.2.2.2.1) := rfl
set_option maxRecDepth 20000 in
theorem hb_mc171 : lw_tbl[1462]? = some (Cond.code hbm171.1 hbm171.2.1 hbm171.2.2.1 hbm171.2.2.2.1) := rfl
set_option maxRecDepth 20000 in
theorem hb_mc172 : lw_tbl[1459]? = some (Cond.code hbm172.1 hbm172.2.1 hbm172.2.2.1 hbm172.2.2.2.1) := rfl
set_option maxRecDepth 20000 in
theorem hb_mc173 : lw_tbl[1451]? = some (Cond.code hbm173.1 hbm173.2.1 hbm173.2.2.1 hbm173.2.2.2.1) := rfl
set_option maxRecDepth 20000 in
theorem hb_mc174 : lw_tbl[1470]? = some (Cond.code hbm174.1 hbm174.2.1 hbm174.2.2.1 hbm174.2.2.2.1) := rfl
set_option maxRecDepth 20000 in
theorem hb_mc175 : lw_tbl[1474]? = some (Cond.code hbm175.1 hbm175.2.1 hbm175.2.2.1 hbm175.2.2.2.1) := rfl
set_option maxRecDepth 20000 in
theorem hb_mc176 : lw_tbl[1482]? = some (Cond.code hbm176.1 hbm176.2.1 hbm176.2.2.1 hbm176.2.2.2.1) := rfl
set_option maxRecDepth 20000 in
theorem hb_mc177 : lw_tbl[1466]? = some (Cond.code hbm177.1 hbm177.2.1 hbm177.2.2.1 hbm177.2.2.2.1) := rfl
set_option maxRecDepth 20000 in
theorem hb_mc178 : lw_tbl[1478]? = some (Cond.code hbm178.1 hbm178.2.1 hbm178.2.2.1 hbm178.2.2.2.1) := rfl
set_option maxRecDepth 20000 in
theorem hb_mc179 : lw_tbl[1498]? = some (Cond.code hbm179.1 hbm179.2.1 hbm179.2.2.1 hbm179.2.2.2.1) := rfl
set_option maxRecDepth 20000 in
theorem hb_mc180 : lw_tbl[1502]? = some (Cond.code hbm180.1 hbm180.2.1 hbm180.2.2.1 hbm180.2.2.2.1) := rfl
set_option maxRecDepth 20000 in
theorem hb_mc181 : lw_tbl[1494]? = some (Cond.code hbm181.1 hbm181.2.1 hbm181.2.2.1 hbm181.2.2.2.1) := rfl
set_option maxRecDepth 20000 in
theorem hb_mc182 : lw_tbl[1506]? = some (Cond.code hbm182.1 hbm182.2.1 hbm182.2.2.1 hbm182.2.2.2.1) := rfl
set_option maxRecDepth 20000 in
theorem hb_mc183 : lw_tbl[1490]? = some (Cond.code hbm183.1 hbm183.2.1 hbm183.2.2.1 hbm183.2.2.2.1) := rfl
set_option maxRecDepth 20000 in
theorem hb_mc184 : lw_tbl[1486]? = some (Cond.code hbm184.1 hbm184.2.1 hbm184.2.2.1 hbm184.2.2.2.1) := rfl
set_option maxRecDepth 20000 in
theorem hb_mc185 : lw_tbl[1510]? = some (Cond.code hbm185.1 hbm185.2.1 hbm185.2.2.1 hbm185.2.2.2.1) := rfl
set_option maxRecDepth 20000 in
theorem hb_mc186 : lw_tbl[1514]? = some (Cond.code hbm186.1 hbm186.2.1 hbm186.2.2.1 hbm186.2.2.2.1) := rfl
set_option maxRecDepth 20000 in
theorem hb_mc187 : lw_tbl[1518]? = some (Cond.code hbm187.1 hbm187.2.1 hbm187.2.2.1 hbm187.2.2.2.1) := rfl
set_option maxRecDepth 20000 in
theorem hb_mc188 : lw_tbl[975]? = some (Cond.code hbm188.1 hbm188.2.1 hbm188.2.2.1 hbm188.2.2.2.1) := rfl
set_option maxRecDepth 20000 in
theorem hb_mc189 : lw_tbl[161]? = some (Cond.code hbm189.1 hbm189.2.1 hbm189.2.2.1 hbm189.2.2.2.1) := rfl
set_option maxRecDepth 20000 in
theorem hb_mc190 : lw_tbl[158]? = some (Cond.code hbm190.1 hbm190.2.1 hbm190.2.2.1 hbm190.2.2.2.1) := rfl
set_option maxRecDepth 20000 in
theorem hb_mc191 : lw_tbl[626]? = some (Cond.code hbm191.1 hbm191.2.1 hbm191.2.2.1 hbm191.2.2.2.1) := rfl
set_option maxRecDepth 20000 in
theorem hb_mc192 : lw_tbl[636]? = some (Cond.code hbm192.1 hbm192.2.1 hbm192.2.2.1 hbm192.2.2.2.1) := rfl
set_option maxRecDepth 20000 in
theorem hb_mc193 : lw_tbl[630]? = some (Cond.code hbm193.1 hbm193.2.1 hbm193.2.2.1 hbm193.2.2.2.1) := rfl
set_option maxRecDepth 20000 in
theorem hb_mc194 : lw_tbl[640]? = some (Cond.code hbm194.1 hbm194.2.1 hbm194.2.2.1 hbm194.2.2.2.1) := rfl
set_option maxRecDepth 20000 in
theorem hb_mc195 : lw_tbl[646]? = some (Cond.code hbm195.1 hbm195.2.1 hbm195.2.2.1 hbm195.2.2.2.1) := rfl
set_option maxRecDepth 20000 in
theorem hb_mc196 : lw_tbl[643]? = some (Cond.code hbm196.1 hbm196.2.1 hbm196.2.2.1 hbm196.2.2.2.1) := rfl
set_option maxRecDepth 20000 in
theorem hb_mc197 : lw_tbl[555]? = some (Cond.code hbm197.1 hbm197.2.1 hbm197.2.2.1 hbm197.2.2.2.1) := rfl
set_option maxRecDepth 20000 in
theorem hb_mc198 : lw_tbl[651]? = some (Cond.code hbm198.1 hbm198.2.1 hbm198.2.2.1 hbm198.2.2.2.1) := rfl
def hb_mcp (m : Nat) : Prop := ∃ i : Nat, lw_tbl[i]? = some (Cond.code (hb_mt m).1 (hb_mt m).2.1 (hb_mt m).2.2.1 (hb_mt m).2.2.2.1)
theorem hb_mcm (m : Nat) (h : m < 199) : hb_mcp m := by
  rcases Nat.lt_or_ge m 99 with h99 | h99
  · rcases Nat.lt_or_ge m 49 with h49 | h49
    · rcases Nat.lt_or_ge m 24 with h24 | h24
      · rcases Nat.lt_or_ge m 12 with h12 | h12
        · rcases Nat.lt_or_ge m 6 with h6 | h6
          · rcases Nat.lt_or_ge m 3 with h3 | h3
            · rcases Nat.lt_or_ge m 1 with h1 | h1
              · obtain rfl : m = 0 := by omega
                exact ⟨_, hb_mc0⟩
              · rcases Nat.lt_or_ge m 2 with h2 | h2
                · obtain rfl : m = 1 := by omega
                  exact ⟨_, hb_mc1⟩
                · obtain rfl : m = 2 := by omega
                  exact ⟨_, hb_mc2⟩
            · rcases Nat.lt_or_ge m 4 with h4 | h4
              · obtain rfl : m = 3 := by omega
                exact ⟨_, hb_mc3⟩
              · rcases Nat.lt_or_ge m 5 with h5 | h5
                · obtain rfl : m = 4 := by omega
                  exact ⟨_, hb_mc4⟩
                · obtain rfl : m = 5 := by omega
                  exact ⟨_, hb_mc5⟩
          · rcases Nat.lt_or_ge m 9 with h9 | h9
            · rcases Nat.lt_or_ge m 7 with h7 | h7
              · obtain rfl : m = 6 := by omega
                exact ⟨_, hb_mc6⟩
              · rcases Nat.lt_or_ge m 8 with h8 | h8
                · obtain rfl : m = 7 := by omega
                  exact ⟨_, hb_mc7⟩
                · obtain rfl : m = 8 := by omega
                  exact ⟨_, hb_mc8⟩
            · rcases Nat.lt_or_ge m 10 with h10 | h10
              · obtain rfl : m = 9 := by omega
                exact ⟨_, hb_mc9⟩
              · rcases Nat.lt_or_ge m 11 with h11 | h11
                · obtain rfl : m = 10 := by omega
                  exact ⟨_, hb_mc10⟩
                · obtain rfl : m = 11 := by omega
                  exact ⟨_, hb_mc11⟩
        · rcases Nat.lt_or_ge m 18 with h18 | h18
          · rcases Nat.lt_or_ge m 15 with h15 | h15
            · rcases Nat.lt_or_ge m 13 with h13 | h13
              · obtain rfl : m = 12 := by omega
                exact ⟨_, hb_mc12⟩
              · rcases Nat.lt_or_ge m 14 with h14 | h14
                · obtain rfl : m = 13 := by omega
                  exact ⟨_, hb_mc13⟩
                · obtain rfl : m = 14 := by omega
                  exact ⟨_, hb_mc14⟩
            · rcases Nat.lt_or_ge m 16 with h16 | h16
              · obtain rfl : m = 15 := by omega
                exact ⟨_, hb_mc15⟩
              · rcases Nat.lt_or_ge m 17 with h17 | h17
                · obtain rfl : m = 16 := by omega
                  exact ⟨_, hb_mc16⟩
                · obtain rfl : m = 17 := by omega
                  exact ⟨_, hb_mc17⟩
          · rcases Nat.lt_or_ge m 21 with h21 | h21
            · rcases Nat.lt_or_ge m 19 with h19 | h19
              · obtain rfl : m = 18 := by omega
                exact ⟨_, hb_mc18⟩
              · rcases Nat.lt_or_ge m 20 with h20 | h20
                · obtain rfl : m = 19 := by omega
                  exact ⟨_, hb_mc19⟩
                · obtain rfl : m = 20 := by omega
                  exact ⟨_, hb_mc20⟩
            · rcases Nat.lt_or_ge m 22 with h22 | h22
              · obtain rfl : m = 21 := by omega
                exact ⟨_, hb_mc21⟩
              · rcases Nat.lt_or_ge m 23 with h23 | h23
                · obtain rfl : m = 22 := by omega
                  exact ⟨_, hb_mc22⟩
                · obtain rfl : m = 23 := by omega
                  exact ⟨_, hb_mc23⟩
      · rcases Nat.lt_or_ge m 36 with h36 | h36
        · rcases Nat.lt_or_ge m 30 with h30 | h30
          · rcases Nat.lt_or_ge m 27 with h27 | h27
            · rcases Nat.lt_or_ge m 25 with h25 | h25
              · obtain rfl : m = 24 := by omega
                exact ⟨_, hb_mc24⟩
              · rcases Nat.lt_or_ge m 26 with h26 | h26
                · obtain rfl : m = 25 := by omega
                  exact ⟨_, hb_mc25⟩
                · obtain rfl : m = 26 := by omega
                  exact ⟨_, hb_mc26⟩
            · rcases Nat.lt_or_ge m 28 with h28 | h28
              · obtain rfl : m = 27 := by omega
                exact ⟨_, hb_mc27⟩
              · rcases Nat.lt_or_ge m 29 with h29 | h29
                · obtain rfl : m = 28 := by omega
                  exact ⟨_, hb_mc28⟩
                · obtain rfl : m = 29 := by omega
                  exact ⟨_, hb_mc29⟩
          · rcases Nat.lt_or_ge m 33 with h33 | h33
            · rcases Nat.lt_or_ge m 31 with h31 | h31
              · obtain rfl : m = 30 := by omega
                exact ⟨_, hb_mc30⟩
              · rcases Nat.lt_or_ge m 32 with h32 | h32
                · obtain rfl : m = 31 := by omega
                  exact ⟨_, hb_mc31⟩
                · obtain rfl : m = 32 := by omega
                  exact ⟨_, hb_mc32⟩
            · rcases Nat.lt_or_ge m 34 with h34 | h34
              · obtain rfl : m = 33 := by omega
                exact ⟨_, hb_mc33⟩
              · rcases Nat.lt_or_ge m 35 with h35 | h35
                · obtain rfl : m = 34 := by omega
                  exact ⟨_, hb_mc34⟩
                · obtain rfl : m = 35 := by omega
                  exact ⟨_, hb_mc35⟩
        · rcases Nat.lt_or_ge m 42 with h42 | h42
          · rcases Nat.lt_or_ge m 39 with h39 | h39
            · rcases Nat.lt_or_ge m 37 with h37 | h37
              · obtain rfl : m = 36 := by omega
                exact ⟨_, hb_mc36⟩
              · rcases Nat.lt_or_ge m 38 with h38 | h38
                · obtain rfl : m = 37 := by omega
                  exact ⟨_, hb_mc37⟩
                · obtain rfl : m = 38 := by omega
                  exact ⟨_, hb_mc38⟩
            · rcases Nat.lt_or_ge m 40 with h40 | h40
              · obtain rfl : m = 39 := by omega
                exact ⟨_, hb_mc39⟩
              · rcases Nat.lt_or_ge m 41 with h41 | h41
                · obtain rfl : m = 40 := by omega
                  exact ⟨_, hb_mc40⟩
                · obtain rfl : m = 41 := by omega
                  exact ⟨_, hb_mc41⟩
          · rcases Nat.lt_or_ge m 45 with h45 | h45
            · rcases Nat.lt_or_ge m 43 with h43 | h43
              · obtain rfl : m = 42 := by omega
                exact ⟨_, hb_mc42⟩
              · rcases Nat.lt_or_ge m 44 with h44 | h44
                · obtain rfl : m = 43 := by omega
                  exact ⟨_, hb_mc43⟩
                · obtain rfl : m = 44 := by omega
                  exact ⟨_, hb_mc44⟩
            · rcases Nat.lt_or_ge m 47 with h47 | h47
              · rcases Nat.lt_or_ge m 46 with h46 | h46
                · obtain rfl : m = 45 := by omega
                  exact ⟨_, hb_mc45⟩
                · obtain rfl : m = 46 := by omega
                  exact ⟨_, hb_mc46⟩
              · rcases Nat.lt_or_ge m 48 with h48 | h48
                · obtain rfl : m = 47 := by omega
                  exact ⟨_, hb_mc47⟩
                · obtain rfl : m = 48 := by omega
                  exact ⟨_, hb_mc48⟩
    · rcases Nat.lt_or_ge m 74 with h74 | h74
      · rcases Nat.lt_or_ge m 61 with h61 | h61
        · rcases Nat.lt_or_ge m 55 with h55 | h55
          · rcases Nat.lt_or_ge m 52 with h52 | h52
            · rcases Nat.lt_or_ge m 50 with h50 | h50
              · obtain rfl : m = 49 := by omega
                exact ⟨_, hb_mc49⟩
              · rcases Nat.lt_or_ge m 51 with h51 | h51
                · obtain rfl : m = 50 := by omega
                  exact ⟨_, hb_mc50⟩
                · obtain rfl : m = 51 := by omega
                  exact ⟨_, hb_mc51⟩
            · rcases Nat.lt_or_ge m 53 with h53 | h53
              · obtain rfl : m = 52 := by omega
                exact ⟨_, hb_mc52⟩
              · rcases Nat.lt_or_ge m 54 with h54 | h54
                · obtain rfl : m = 53 := by omega
                  exact ⟨_, hb_mc53⟩
                · obtain rfl : m = 54 := by omega
                  exact ⟨_, hb_mc54⟩
          · rcases Nat.lt_or_ge m 58 with h58 | h58
            · rcases Nat.lt_or_ge m 56 with h56 | h56
              · obtain rfl : m = 55 := by omega
                exact ⟨_, hb_mc55⟩
              · rcases Nat.lt_or_ge m 57 with h57 | h57
                · obtain rfl : m = 56 := by omega
                  exact ⟨_, hb_mc56⟩
                · obtain rfl : m = 57 := by omega
                  exact ⟨_, hb_mc57⟩
            · rcases Nat.lt_or_ge m 59 with h59 | h59
              · obtain rfl : m = 58 := by omega
                exact ⟨_, hb_mc58⟩
              · rcases Nat.lt_or_ge m 60 with h60 | h60
                · obtain rfl : m = 59 := by omega
                  exact ⟨_, hb_mc59⟩
                · obtain rfl : m = 60 := by omega
                  exact ⟨_, hb_mc60⟩
        · rcases Nat.lt_or_ge m 67 with h67 | h67
          · rcases Nat.lt_or_ge m 64 with h64 | h64
            · rcases Nat.lt_or_ge m 62 with h62 | h62
              · obtain rfl : m = 61 := by omega
                exact ⟨_, hb_mc61⟩
              · rcases Nat.lt_or_ge m 63 with h63 | h63
                · obtain rfl : m = 62 := by omega
                  exact ⟨_, hb_mc62⟩
                · obtain rfl : m = 63 := by omega
                  exact ⟨_, hb_mc63⟩
            · rcases Nat.lt_or_ge m 65 with h65 | h65
              · obtain rfl : m = 64 := by omega
                exact ⟨_, hb_mc64⟩
              · rcases Nat.lt_or_ge m 66 with h66 | h66
                · obtain rfl : m = 65 := by omega
                  exact ⟨_, hb_mc65⟩
                · obtain rfl : m = 66 := by omega
                  exact ⟨_, hb_mc66⟩
          · rcases Nat.lt_or_ge m 70 with h70 | h70
            · rcases Nat.lt_or_ge m 68 with h68 | h68
              · obtain rfl : m = 67 := by omega
                exact ⟨_, hb_mc67⟩
              · rcases Nat.lt_or_ge m 69 with h69 | h69
                · obtain rfl : m = 68 := by omega
                  exact ⟨_, hb_mc68⟩
                · obtain rfl : m = 69 := by omega
                  exact ⟨_, hb_mc69⟩
            · rcases Nat.lt_or_ge m 72 with h72 | h72
              · rcases Nat.lt_or_ge m 71 with h71 | h71
                · obtain rfl : m = 70 := by omega
                  exact ⟨_, hb_mc70⟩
                · obtain rfl : m = 71 := by omega
                  exact ⟨_, hb_mc71⟩
              · rcases Nat.lt_or_ge m 73 with h73 | h73
                · obtain rfl : m = 72 := by omega
                  exact ⟨_, hb_mc72⟩
                · obtain rfl : m = 73 := by omega
                  exact ⟨_, hb_mc73⟩
      · rcases Nat.lt_or_ge m 86 with h86 | h86
        · rcases Nat.lt_or_ge m 80 with h80 | h80
          · rcases Nat.lt_or_ge m 77 with h77 | h77
            · rcases Nat.lt_or_ge m 75 with h75 | h75
              · obtain rfl : m = 74 := by omega
                exact ⟨_, hb_mc74⟩
              · rcases Nat.lt_or_ge m 76 with h76 | h76
                · obtain rfl : m = 75 := by omega
                  exact ⟨_, hb_mc75⟩
                · obtain rfl : m = 76 := by omega
                  exact ⟨_, hb_mc76⟩
            · rcases Nat.lt_or_ge m 78 with h78 | h78
              · obtain rfl : m = 77 := by omega
                exact ⟨_, hb_mc77⟩
              · rcases Nat.lt_or_ge m 79 with h79 | h79
                · obtain rfl : m = 78 := by omega
                  exact ⟨_, hb_mc78⟩
                · obtain rfl : m = 79 := by omega
                  exact ⟨_, hb_mc79⟩
          · rcases Nat.lt_or_ge m 83 with h83 | h83
            · rcases Nat.lt_or_ge m 81 with h81 | h81
              · obtain rfl : m = 80 := by omega
                exact ⟨_, hb_mc80⟩
              · rcases Nat.lt_or_ge m 82 with h82 | h82
                · obtain rfl : m = 81 := by omega
                  exact ⟨_, hb_mc81⟩
                · obtain rfl : m = 82 := by omega
                  exact ⟨_, hb_mc82⟩
            · rcases Nat.lt_or_ge m 84 with h84 | h84
              · obtain rfl : m = 83 := by omega
                exact ⟨_, hb_mc83⟩
              · rcases Nat.lt_or_ge m 85 with h85 | h85
                · obtain rfl : m = 84 := by omega
                  exact ⟨_, hb_mc84⟩
                · obtain rfl : m = 85 := by omega
                  exact ⟨_, hb_mc85⟩
        · rcases Nat.lt_or_ge m 92 with h92 | h92
          · rcases Nat.lt_or_ge m 89 with h89 | h89
            · rcases Nat.lt_or_ge m 87 with h87 | h87
              · obtain rfl : m = 86 := by omega
                exact ⟨_, hb_mc86⟩
              · rcases Nat.lt_or_ge m 88 with h88 | h88
                · obtain rfl : m = 87 := by omega
                  exact ⟨_, hb_mc87⟩
                · obtain rfl : m = 88 := by omega
                  exact ⟨_, hb_mc88⟩
            · rcases Nat.lt_or_ge m 90 with h90 | h90
              · obtain rfl : m = 89 := by omega
                exact ⟨_, hb_mc89⟩
              · rcases Nat.lt_or_ge m 91 with h91 | h91
                · obtain rfl : m = 90 := by omega
                  exact ⟨_, hb_mc90⟩
                · obtain rfl : m = 91 := by omega
                  exact ⟨_, hb_mc91⟩
          · rcases Nat.lt_or_ge m 95 with h95 | h95
            · rcases Nat.lt_or_ge m 93 with h93 | h93
              · obtain rfl : m = 92 := by omega
                exact ⟨_, hb_mc92⟩
              · rcases Nat.lt_or_ge m 94 with h94 | h94
                · obtain rfl : m = 93 := by omega
                  exact ⟨_, hb_mc93⟩
                · obtain rfl : m = 94 := by omega
                  exact ⟨_, hb_mc94⟩
            · rcases Nat.lt_or_ge m 97 with h97 | h97
              · rcases Nat.lt_or_ge m 96 with h96 | h96
                · obtain rfl : m = 95 := by omega
                  exact ⟨_, hb_mc95⟩
                · obtain rfl : m = 96 := by omega
                  exact ⟨_, hb_mc96⟩
              · rcases Nat.lt_or_ge m 98 with h98 | h98
                · obtain rfl : m = 97 := by omega
                  exact ⟨_, hb_mc97⟩
                · obtain rfl : m = 98 := by omega
                  exact ⟨_, hb_mc98⟩
  · rcases Nat.lt_or_ge m 149 with h149 | h149
    · rcases Nat.lt_or_ge m 124 with h124 | h124
      · rcases Nat.lt_or_ge m 111 with h111 | h111
        · rcases Nat.lt_or_ge m 105 with h105 | h105
          · rcases Nat.lt_or_ge m 102 with h102 | h102
            · rcases Nat.lt_or_ge m 100 with h100 | h100
              · obtain rfl : m = 99 := by omega
                exact ⟨_, hb_mc99⟩
              · rcases Nat.lt_or_ge m 101 with h101 | h101
                · obtain rfl : m = 100 := by omega
                  exact ⟨_, hb_mc100⟩
                · obtain rfl : m = 101 := by omega
                  exact ⟨_, hb_mc101⟩
            · rcases Nat.lt_or_ge m 103 with h103 | h103
              · obtain rfl : m = 102 := by omega
                exact ⟨_, hb_mc102⟩
              · rcases Nat.lt_or_ge m 104 with h104 | h104
                · obtain rfl : m = 103 := by omega
                  exact ⟨_, hb_mc103⟩
                · obtain rfl : m = 104 := by omega
                  exact ⟨_, hb_mc104⟩
          · rcases Nat.lt_or_ge m 108 with h108 | h108
            · rcases Nat.lt_or_ge m 106 with h106 | h106
              · obtain rfl : m = 105 := by omega
                exact ⟨_, hb_mc105⟩
              · rcases Nat.lt_or_ge m 107 with h107 | h107
                · obtain rfl : m = 106 := by omega
                  exact ⟨_, hb_mc106⟩
                · obtain rfl : m = 107 := by omega
                  exact ⟨_, hb_mc107⟩
            · rcases Nat.lt_or_ge m 109 with h109 | h109
              · obtain rfl : m = 108 := by omega
                exact ⟨_, hb_mc108⟩
              · rcases Nat.lt_or_ge m 110 with h110 | h110
                · obtain rfl : m = 109 := by omega
                  exact ⟨_, hb_mc109⟩
                · obtain rfl : m = 110 := by omega
                  exact ⟨_, hb_mc110⟩
        · rcases Nat.lt_or_ge m 117 with h117 | h117
          · rcases Nat.lt_or_ge m 114 with h114 | h114
            · rcases Nat.lt_or_ge m 112 with h112 | h112
              · obtain rfl : m = 111 := by omega
                exact ⟨_, hb_mc111⟩
              · rcases Nat.lt_or_ge m 113 with h113 | h113
                · obtain rfl : m = 112 := by omega
                  exact ⟨_, hb_mc112⟩
                · obtain rfl : m = 113 := by omega
                  exact ⟨_, hb_mc113⟩
            · rcases Nat.lt_or_ge m 115 with h115 | h115
              · obtain rfl : m = 114 := by omega
                exact ⟨_, hb_mc114⟩
              · rcases Nat.lt_or_ge m 116 with h116 | h116
                · obtain rfl : m = 115 := by omega
                  exact ⟨_, hb_mc115⟩
                · obtain rfl : m = 116 := by omega
                  exact ⟨_, hb_mc116⟩
          · rcases Nat.lt_or_ge m 120 with h120 | h120
            · rcases Nat.lt_or_ge m 118 with h118 | h118
              · obtain rfl : m = 117 := by omega
                exact ⟨_, hb_mc117⟩
              · rcases Nat.lt_or_ge m 119 with h119 | h119
                · obtain rfl : m = 118 := by omega
                  exact ⟨_, hb_mc118⟩
                · obtain rfl : m = 119 := by omega
                  exact ⟨_, hb_mc119⟩
            · rcases Nat.lt_or_ge m 122 with h122 | h122
              · rcases Nat.lt_or_ge m 121 with h121 | h121
                · obtain rfl : m = 120 := by omega
                  exact ⟨_, hb_mc120⟩
                · obtain rfl : m = 121 := by omega
                  exact ⟨_, hb_mc121⟩
              · rcases Nat.lt_or_ge m 123 with h123 | h123
                · obtain rfl : m = 122 := by omega
                  exact ⟨_, hb_mc122⟩
                · obtain rfl : m = 123 := by omega
                  exact ⟨_, hb_mc123⟩
      · rcases Nat.lt_or_ge m 136 with h136 | h136
        · rcases Nat.lt_or_ge m 130 with h130 | h130
          · rcases Nat.lt_or_ge m 127 with h127 | h127
            · rcases Nat.lt_or_ge m 125 with h125 | h125
              · obtain rfl : m = 124 := by omega
                exact ⟨_, hb_mc124⟩
              · rcases Nat.lt_or_ge m 126 with h126 | h126
                · obtain rfl : m = 125 := by omega
                  exact ⟨_, hb_mc125⟩
                · obtain rfl : m = 126 := by omega
                  exact ⟨_, hb_mc126⟩
            · rcases Nat.lt_or_ge m 128 with h128 | h128
              · obtain rfl : m = 127 := by omega
                exact ⟨_, hb_mc127⟩
              · rcases Nat.lt_or_ge m 129 with h129 | h129
                · obtain rfl : m = 128 := by omega
                  exact ⟨_, hb_mc128⟩
                · obtain rfl : m = 129 := by omega
                  exact ⟨_, hb_mc129⟩
          · rcases Nat.lt_or_ge m 133 with h133 | h133
            · rcases Nat.lt_or_ge m 131 with h131 | h131
              · obtain rfl : m = 130 := by omega
                exact ⟨_, hb_mc130⟩
              · rcases Nat.lt_or_ge m 132 with h132 | h132
                · obtain rfl : m = 131 := by omega
                  exact ⟨_, hb_mc131⟩
                · obtain rfl : m = 132 := by omega
                  exact ⟨_, hb_mc132⟩
            · rcases Nat.lt_or_ge m 134 with h134 | h134
              · obtain rfl : m = 133 := by omega
                exact ⟨_, hb_mc133⟩
              · rcases Nat.lt_or_ge m 135 with h135 | h135
                · obtain rfl : m = 134 := by omega
                  exact ⟨_, hb_mc134⟩
                · obtain rfl : m = 135 := by omega
                  exact ⟨_, hb_mc135⟩
        · rcases Nat.lt_or_ge m 142 with h142 | h142
          · rcases Nat.lt_or_ge m 139 with h139 | h139
            · rcases Nat.lt_or_ge m 137 with h137 | h137
              · obtain rfl : m = 136 := by omega
                exact ⟨_, hb_mc136⟩
              · rcases Nat.lt_or_ge m 138 with h138 | h138
                · obtain rfl : m = 137 := by omega
                  exact ⟨_, hb_mc137⟩
                · obtain rfl : m = 138 := by omega
                  exact ⟨_, hb_mc138⟩
            · rcases Nat.lt_or_ge m 140 with h140 | h140
              · obtain rfl : m = 139 := by omega
                exact ⟨_, hb_mc139⟩
              · rcases Nat.lt_or_ge m 141 with h141 | h141
                · obtain rfl : m = 140 := by omega
                  exact ⟨_, hb_mc140⟩
                · obtain rfl : m = 141 := by omega
                  exact ⟨_, hb_mc141⟩
          · rcases Nat.lt_or_ge m 145 with h145 | h145
            · rcases Nat.lt_or_ge m 143 with h143 | h143
              · obtain rfl : m = 142 := by omega
                exact ⟨_, hb_mc142⟩
              · rcases Nat.lt_or_ge m 144 with h144 | h144
                · obtain rfl : m = 143 := by omega
                  exact ⟨_, hb_mc143⟩
                · obtain rfl : m = 144 := by omega
                  exact ⟨_, hb_mc144⟩
            · rcases Nat.lt_or_ge m 147 with h147 | h147
              · rcases Nat.lt_or_ge m 146 with h146 | h146
                · obtain rfl : m = 145 := by omega
                  exact ⟨_, hb_mc145⟩
                · obtain rfl : m = 146 := by omega
                  exact ⟨_, hb_mc146⟩
              · rcases Nat.lt_or_ge m 148 with h148 | h148
                · obtain rfl : m = 147 := by omega
                  exact ⟨_, hb_mc147⟩
                · obtain rfl : m = 148 := by omega
                  exact ⟨_, hb_mc148⟩
    · rcases Nat.lt_or_ge m 174 with h174 | h174
      · rcases Nat.lt_or_ge m 161 with h161 | h161
        · rcases Nat.lt_or_ge m 155 with h155 | h155
          · rcases Nat.lt_or_ge m 152 with h152 | h152
            · rcases Nat.lt_or_ge m 150 with h150 | h150
              · obtain rfl : m = 149 := by omega
                exact ⟨_, hb_mc149⟩
              · rcases Nat.lt_or_ge m 151 with h151 | h151
                · obtain rfl : m = 150 := by omega
                  exact ⟨_, hb_mc150⟩
                · obtain rfl : m = 151 := by omega
                  exact ⟨_, hb_mc151⟩
            · rcases Nat.lt_or_ge m 153 with h153 | h153
              · obtain rfl : m = 152 := by omega
                exact ⟨_, hb_mc152⟩
              · rcases Nat.lt_or_ge m 154 with h154 | h154
                · obtain rfl : m = 153 := by omega
                  exact ⟨_, hb_mc153⟩
                · obtain rfl : m = 154 := by omega
                  exact ⟨_, hb_mc154⟩
          · rcases Nat.lt_or_ge m 158 with h158 | h158
            · rcases Nat.lt_or_ge m 156 with h156 | h156
              · obtain rfl : m = 155 := by omega
                exact ⟨_, hb_mc155⟩
              · rcases Nat.lt_or_ge m 157 with h157 | h157
                · obtain rfl : m = 156 := by omega
                  exact ⟨_, hb_mc156⟩
                · obtain rfl : m = 157 := by omega
                  exact ⟨_, hb_mc157⟩
            · rcases Nat.lt_or_ge m 159 with h159 | h159
              · obtain rfl : m = 158 := by omega
                exact ⟨_, hb_mc158⟩
              · rcases Nat.lt_or_ge m 160 with h160 | h160
                · obtain rfl : m = 159 := by omega
                  exact ⟨_, hb_mc159⟩
                · obtain rfl : m = 160 := by omega
                  exact ⟨_, hb_mc160⟩
        · rcases Nat.lt_or_ge m 167 with h167 | h167
          · rcases Nat.lt_or_ge m 164 with h164 | h164
            · rcases Nat.lt_or_ge m 162 with h162 | h162
              · obtain rfl : m = 161 := by omega
                exact ⟨_, hb_mc161⟩
              · rcases Nat.lt_or_ge m 163 with h163 | h163
                · obtain rfl : m = 162 := by omega
                  exact ⟨_, hb_mc162⟩
                · obtain rfl : m = 163 := by omega
                  exact ⟨_, hb_mc163⟩
            · rcases Nat.lt_or_ge m 165 with h165 | h165
              · obtain rfl : m = 164 := by omega
                exact ⟨_, hb_mc164⟩
              · rcases Nat.lt_or_ge m 166 with h166 | h166
                · obtain rfl : m = 165 := by omega
                  exact ⟨_, hb_mc165⟩
                · obtain rfl : m = 166 := by omega
                  exact ⟨_, hb_mc166⟩
          · rcases Nat.lt_or_ge m 170 with h170 | h170
            · rcases Nat.lt_or_ge m 168 with h168 | h168
              · obtain rfl : m = 167 := by omega
                exact ⟨_, hb_mc167⟩
              · rcases Nat.lt_or_ge m 169 with h169 | h169
                · obtain rfl : m = 168 := by omega
                  exact ⟨_, hb_mc168⟩
                · obtain rfl : m = 169 := by omega
                  exact ⟨_, hb_mc169⟩
            · rcases Nat.lt_or_ge m 172 with h172 | h172
              · rcases Nat.lt_or_ge m 171 with h171 | h171
                · obtain rfl : m = 170 := by omega
                  exact ⟨_, hb_mc170⟩
                · obtain rfl : m = 171 := by omega
                  exact ⟨_, hb_mc171⟩
              · rcases Nat.lt_or_ge m 173 with h173 | h173
                · obtain rfl : m = 172 := by omega
                  exact ⟨_, hb_mc172⟩
                · obtain rfl : m = 173 := by omega
                  exact ⟨_, hb_mc173⟩
      · rcases Nat.lt_or_ge m 186 with h186 | h186
        · rcases Nat.lt_or_ge m 180 with h180 | h180
          · rcases Nat.lt_or_ge m 177 with h177 | h177
            · rcases Nat.lt_or_ge m 175 with h175 | h175
              · obtain rfl : m = 174 := by omega
                exact ⟨_, hb_mc174⟩
              · rcases Nat.lt_or_ge m 176 with h176 | h176
                · obtain rfl : m = 175 := by omega
                  exact ⟨_, hb_mc175⟩
                · obtain rfl : m = 176 := by omega
                  exact ⟨_, hb_mc176⟩
            · rcases Nat.lt_or_ge m 178 with h178 | h178
              · obtain rfl : m = 177 := by omega
                exact ⟨_, hb_mc177⟩
              · rcases Nat.lt_or_ge m 179 with h179 | h179
                · obtain rfl : m = 178 := by omega
                  exact ⟨_, hb_mc178⟩
                · obtain rfl : m = 179 := by omega
                  exact ⟨_, hb_mc179⟩
          · rcases Nat.lt_or_ge m 183 with h183 | h183
            · rcases Nat.lt_or_ge m 181 with h181 | h181
              · obtain rfl : m = 180 := by omega
                exact ⟨_, hb_mc180⟩
              · rcases Nat.lt_or_ge m 182 with h182 | h182
                · obtain rfl : m = 181 := by omega
                  exact ⟨_, hb_mc181⟩
                · obtain rfl : m = 182 := by omega
                  exact ⟨_, hb_mc182⟩
            · rcases Nat.lt_or_ge m 184 with h184 | h184
              · obtain rfl : m = 183 := by omega
                exact ⟨_, hb_mc183⟩
              · rcases Nat.lt_or_ge m 185 with h185 | h185
                · obtain rfl : m = 184 := by omega
                  exact ⟨_, hb_mc184⟩
                · obtain rfl : m = 185 := by omega
                  exact ⟨_, hb_mc185⟩
        · rcases Nat.lt_or_ge m 192 with h192 | h192
          · rcases Nat.lt_or_ge m 189 with h189 | h189
            · rcases Nat.lt_or_ge m 187 with h187 | h187
              · obtain rfl : m = 186 := by omega
                exact ⟨_, hb_mc186⟩
              · rcases Nat.lt_or_ge m 188 with h188 | h188
                · obtain rfl : m = 187 := by omega
                  exact ⟨_, hb_mc187⟩
                · obtain rfl : m = 188 := by omega
                  exact ⟨_, hb_mc188⟩
            · rcases Nat.lt_or_ge m 190 with h190 | h190
              · obtain rfl : m = 189 := by omega
                exact ⟨_, hb_mc189⟩
              · rcases Nat.lt_or_ge m 191 with h191 | h191
                · obtain rfl : m = 190 := by omega
                  exact ⟨_, hb_mc190⟩
                · obtain rfl : m = 191 := by omega
                  exact ⟨_, hb_mc191⟩
          · rcases Nat.lt_or_ge m 195 with h195 | h195
            · rcases Nat.lt_or_ge m 193 with h193 | h193
              · obtain rfl : m = 192 := by omega
                exact ⟨_, hb_mc192⟩
              · rcases Nat.lt_or_ge m 194 with h194 | h194
                · obtain rfl : m = 193 := by omega
                  exact ⟨_, hb_mc193⟩
                · obtain rfl : m = 194 := by omega
                  exact ⟨_, hb_mc194⟩
            · rcases Nat.lt_or_ge m 197 with h197 | h197
              · rcases Nat.lt_or_ge m 196 with h196 | h196
                · obtain rfl : m = 195 := by omega
                  exact ⟨_, hb_mc195⟩
                · obtain rfl : m = 196 := by omega
                  exact ⟨_, hb_mc196⟩
              · rcases Nat.lt_or_ge m 198 with h198 | h198
                · obtain rfl : m = 197 := by omega
                  exact ⟨_, hb_mc197⟩
                · obtain rfl : m = 198 := by omega
                  exact ⟨_, hb_mc198⟩
end
section
theorem hb_rows_ok {m pc : Nat} {r : hbR} (hf : hb_fetch m pc = some r) : hb_rok m pc r := by
  by_cases h : m < 207
  · have := List.all_eq_true.mp (hb_allok_lt h) _ (hb_lookup_mem hf)
    simp only [hb_rokb, Bool.and_eq_true, decide_eq_true_eq] at this
    exact this
  · have e : hb_code m = [] := by
      have hl : hbKs.length = 207 := by decide +kernel
      unfold hb_code
      rw [List.getD_eq_getElem?_getD, List.getElem?_eq_none (by omega)]
      rfl
    unfold hb_fetch at hf
    rw [e] at hf
    cases hf
/-! the words -/
theorem hb_TB_at {i : Nat} {w : Cond} (h : lw_tbl[i]? = some w) (hg : goodWord w = true) : w ∈ hbTB := List.mem_filter.mpr ⟨List.mem_of_getElem? h, hg⟩
def hb_wd (i : Nat) (w : Cond) : Bool := decide (lw_tbl[i]? = some w) && goodWord w
theorem hb_wd_in {i : Nat} {w : Cond} (h : hb_wd i w = true) : w ∈ hbTB := by
  simp only [hb_wd, Bool.and_eq_true, decide_eq_true_eq] at h
  exact hb_TB_at h.1 h.2
theorem hb_TB_good : GoodIn hbTB hbTB := fun w h => ⟨h, good_of_word (List.mem_filter.mp h).2⟩
def hb_flok (q : Nat × Nat × Nat × Nat × Nat) : Bool := match hbCl[q.2.2.1]? with
  | some c => decide (q.2.2.2.1 < c.2.2) && hb_wd q.2.2.2.2 (.fieldLink (hbOwn q.1) q.2.1 (c.2.1 q.2.2.2.1).1 (c.2.1 q.2.2.2.1).2.1 (c.2.1 q.2.2.2.1).2.2.1)
  | none => false
theorem hb_fl_all : hbFl.all hb_flok = true := by decide +kernel
theorem hb_cs_all : hbCs.all (fun q => hb_wd q.2.2.2 (.constant (hbOwn q.1) q.2.1 q.2.2.1)) = true := by decide +kernel
theorem hb_cl_all : hbCL.all (fun q => hb_wd q.2.2.2 (.constantLong (hbOwn q.1) q.2.1 q.2.2.1)) = true := by decide +kernel
theorem hb_ml_all : hbMl.all (fun q => hb_wd q.2.2.2 (.methodLink (hbOwn q.1) q.2.1 (hb_mt q.2.2.1).1)) = true := by decide +kernel
def hb_mfok (q : Nat × Nat × Nat × Nat × Nat) : Bool := (hb_wd q.2.2.1 (.initialized (hb_mt q.1).1.cls) && (match (hb_mt q.1).2.2.2.2.2.2 with
  | true => hb_wd q.2.2.2.1 (.static (hb_mt q.1).1)
  | false => hb_wd q.2.2.2.1 (.instanceMethod (hb_mt q.1).1) && hb_wd q.2.2.2.2 (.selects (hb_mt q.1).1.cls (hb_mt q.1).1 (hb_mt q.1).1)))
theorem hb_mf_all : hbMf.all hb_mfok = true := by decide +kernel
theorem hb_mf_num : hbMf.map (fun q => q.1) = List.range 199 := by decide +kernel
def hb_yok (m : Nat) : Bool := decide ((hb_mt m).1.cls = hbOwn (hb_mt m).2.2.2.2.1) && (plainFor (hb_mt m).1 && (decide ((hb_mt m).1.cls ≠ "java/lang/invoke/MethodHandle" ∧ (hb_mt m).1.cls ≠ "java/lang/invoke/VarHandle") && (decide ((parseMethodDescriptor (hb_mt m).1.desc).map (fun d => d.parameters.length) = some (hb_mt m).2.2.2.2.2.1) && decide ((hb_mt m).2.2.1 ≤ 41))))
theorem hb_y_all : (List.range 199).all hb_yok = true := by decide +kernel
theorem hb_in_all : hbCl.all (fun q => (u_ws q.1 q.2.1 q.2.2).all (fun w => decide (w ∈ hbTB))) = true := by decide +kernel
theorem hb_own_cl : ∀ ci, ci < 13 → (hbCl[ci]?).map (fun q => q.1) = some (hbOwn ci) := by decide +kernel

theorem hb_mt_bs {a : Nat} (h : a < 207) : hb_mt a = hb_mt (hb_bs a) := by
  unfold hb_bs
  by_cases h1 : a < 199
  · rw [if_pos h1]
  · rw [if_neg h1]
    rcases (show a = 199 ∨ a = 200 ∨ a = 201 ∨ a = 202 ∨ a = 203 ∨ a = 204 ∨ a = 205 ∨ a = 206 by omega) with rfl | rfl | rfl | rfl | rfl | rfl | rfl | rfl <;> rfl
theorem hb_bs_lt {a : Nat} : hb_bs a < 199 := by
  unfold hb_bs
  split <;> omega
/-- what the words say of a method -/
theorem hb_mt_words {a : Nat} (h : a < 207) : Cond.code (hb_mt a).1 (hb_mt a).2.1 (hb_mt a).2.2.1 (hb_mt a).2.2.2.1 ∈ hbTB ∧ Cond.initialized (hb_mt a).1.cls ∈ hbTB ∧ ((hb_mt a).2.2.2.2.2.2 = true → Cond.static (hb_mt a).1 ∈ hbTB) ∧ ((hb_mt a).2.2.2.2.2.2 = false → Cond.instanceMethod (hb_mt a).1 ∈ hbTB ∧ Cond.selects (hb_mt a).1.cls (hb_mt a).1 (hb_mt a).1 ∈ hbTB) := by
  rw [hb_mt_bs h]
  have hb := hb_bs_lt (a := a)
  generalize hb_bs a = k at hb
  obtain ⟨i, hi⟩ := hb_mcm k hb
  have hk : k ∈ hbMf.map (fun q => q.1) := by rw [hb_mf_num]; exact List.mem_range.mpr hb
  obtain ⟨q, hq, rfl⟩ := List.mem_map.mp hk
  have h1 := List.all_eq_true.mp hb_mf_all q hq
  simp only [hb_mfok, Bool.and_eq_true] at h1
  refine ⟨hb_TB_at hi rfl, hb_wd_in h1.1, fun hs => ?_, fun hs => ?_⟩
  · have h2 := h1.2
    rw [hs] at h2
    exact hb_wd_in h2
  · have h2 := h1.2
    rw [hs] at h2
    simp only [Bool.and_eq_true] at h2
    exact ⟨hb_wd_in h2.1, hb_wd_in h2.2⟩
theorem hb_mt_y {a : Nat} (h : a < 207) : (hb_mt a).1.cls = hbOwn (hb_mt a).2.2.2.2.1 ∧ plainFor (hb_mt a).1 = true ∧ ((hb_mt a).1.cls ≠ "java/lang/invoke/MethodHandle" ∧ (hb_mt a).1.cls ≠ "java/lang/invoke/VarHandle") ∧ (parseMethodDescriptor (hb_mt a).1.desc).map (fun d => d.parameters.length) = some (hb_mt a).2.2.2.2.2.1 ∧ (hb_mt a).2.2.1 ≤ 41 := by
  rw [hb_mt_bs h]
  have h1 := List.all_eq_true.mp hb_y_all (hb_bs a) (List.mem_range.mpr hb_bs_lt)
  simp only [hb_yok, Bool.and_eq_true, decide_eq_true_eq] at h1
  exact ⟨h1.1, h1.2.1, h1.2.2.1, h1.2.2.2.1, h1.2.2.2.2⟩
theorem hb_fla_w {own i a b : Nat} (h : hb_fla own i a b = true) : ∃ c : vw_C, hbCl[a]? = some c ∧ b < c.2.2 ∧ Cond.fieldLink (hbOwn own) i (c.2.1 b).1 (c.2.1 b).2.1 (c.2.1 b).2.2.1 ∈ hbTB := by
  obtain ⟨q, hq, h1⟩ := List.any_eq_true.mp h
  simp only [Bool.and_eq_true, beq_iff_eq] at h1
  obtain ⟨e1, e2, e3, e4⟩ := h1
  have h2 := List.all_eq_true.mp hb_fl_all q hq
  subst e1; subst e2; subst e3; subst e4
  unfold hb_flok at h2
  cases hc : hbCl[q.2.2.1]? with
  | none => rw [hc] at h2; cases h2
  | some c =>
    rw [hc] at h2
    simp only [Bool.and_eq_true, decide_eq_true_eq] at h2
    exact ⟨c, rfl, h2.1, hb_wd_in h2.2⟩
theorem hb_csa_w {own i : Nat} {z : Int32} (h : hb_csa own i z = true) : Cond.constant (hbOwn own) i z ∈ hbTB := by
  obtain ⟨q, hq, h1⟩ := List.any_eq_true.mp h
  simp only [Bool.and_eq_true, beq_iff_eq, decide_eq_true_eq] at h1
  obtain ⟨e1, e2, e3⟩ := h1
  subst e1; subst e2; subst e3
  exact hb_wd_in (List.all_eq_true.mp hb_cs_all q hq)
theorem hb_cla_w {own i : Nat} {z : Int64} (h : hb_cla own i z = true) : Cond.constantLong (hbOwn own) i z ∈ hbTB := by
  obtain ⟨q, hq, h1⟩ := List.any_eq_true.mp h
  simp only [Bool.and_eq_true, beq_iff_eq, decide_eq_true_eq] at h1
  obtain ⟨e1, e2, e3⟩ := h1
  subst e1; subst e2; subst e3
  exact hb_wd_in (List.all_eq_true.mp hb_cl_all q hq)
theorem hb_mla_w {own i a : Nat} (h : hb_mla own i a = true) (ha : a < 207) : Cond.methodLink (hbOwn own) i (hb_mt a).1 ∈ hbTB := by
  obtain ⟨q, hq, h1⟩ := List.any_eq_true.mp h
  simp only [Bool.and_eq_true, beq_iff_eq] at h1
  obtain ⟨e1, e2, e3⟩ := h1
  subst e1; subst e2
  rw [hb_mt_bs ha, ← e3]
  exact hb_wd_in (List.all_eq_true.mp hb_ml_all q hq)
theorem hb_cl_in {ci : Nat} {c : vw_C} (h : hbCl[ci]? = some c) : ∀ w ∈ u_ws c.1 c.2.1 c.2.2, w ∈ hbTB := by
  have h1 := List.all_eq_true.mp hb_in_all c (List.mem_of_getElem? h)
  intro w hw
  simpa using List.all_eq_true.mp h1 w hw
theorem hb_cl_ty {ci : Nat} {c : vw_C} (h : hbCl[ci]? = some c) : (∃ ty : Nat → FieldType, ∀ k, k < c.2.2 → parseFieldDescriptor (c.2.1 k).2.2.1 = some (ty k)) ∧ ∀ a, a < c.2.2 → ∀ b, b < c.2.2 → a ≠ b → (c.2.1 a).2.1 ≠ (c.2.1 b).2.1 := by
  have hl : ci < 13 := (List.getElem?_eq_some_iff.mp h).1
  rcases (show ci = 0 ∨ ci = 1 ∨ ci = 2 ∨ ci = 3 ∨ ci = 4 ∨ ci = 5 ∨ ci = 6 ∨ ci = 7 ∨ ci = 8 ∨ ci = 9 ∨ ci = 10 ∨ ci = 11 ∨ ci = 12 by omega) with rfl | rfl | rfl | rfl | rfl | rfl | rfl | rfl | rfl | rfl | rfl | rfl | rfl <;> cases h
  · exact ⟨⟨tyX0, tyX0_ok⟩, nmX0⟩
  · exact ⟨⟨tyX1, tyX1_ok⟩, nmX1⟩
  · exact ⟨⟨tyX2, tyX2_ok⟩, nmX2⟩
  · exact ⟨⟨tyX3, tyX3_ok⟩, nmX3⟩
  · exact ⟨⟨tyX4, tyX4_ok⟩, nmX4⟩
  · exact ⟨⟨tyX5, tyX5_ok⟩, nmX5⟩
  · exact ⟨⟨tyX6, tyX6_ok⟩, nmX6⟩
  · exact ⟨⟨tyX7, tyX7_ok⟩, nmX7⟩
  · exact ⟨⟨tyX8, tyX8_ok⟩, nmX8⟩
  · exact ⟨⟨tyX9, tyX9_ok⟩, nmX9⟩
  · exact ⟨⟨tyX10, tyX10_ok⟩, nmX10⟩
  · exact ⟨⟨tyX11, tyX11_ok⟩, nmX11⟩
  · exact ⟨⟨tyX12, tyX12_ok⟩, nmX12⟩
end
section
/-! A STEP OF THE SMALL MACHINE IS A STEP OF THE MACHINE -/
abbrev hb_tys (cI cZ cS : ClassId) : List (ClassId × FieldType) := [(cI, .int), (cZ, .boolean), (cS, .object "HandBook$Sheet")]
def hb_nest : List Cond := hbMn.map (fun q => Cond.methodLinkNest (hbOwn q.1) q.2.1 (hb_mt q.2.2).1 "HandBook")
def hb_txt : String := "flow bad good step and up down open shut above below wait if go end "
def hb_Z (α : Nat → Nat) (ov : Value) (A : Nat → Prop) (U : State) (H : Heap) : Prop := vk_R "HandBook$Tape" 43 hb_txt (α 1000) U ∧ vk_S 1 [68] [hbW] (fun _ => α 1000) (fun _ => α 1001) A U H ∧ va_Z "java/lang/String" "COMPACT_STRINGS" "Z" (.int 1) A U H ∧ va_Z "jdk/internal/util/Preconditions" "SIOOBE_FORMATTER" "Ljava/util/function/BiFunction;" ov A U H
/-- what holds all through a method's body -/
def hb_Cx (p : Program) (s : State) (m : MethodId) (args : Array Value) (c : Code) (sh : List hbS) (α : Nat → Nat) (D : va_G) (cI cZ cS : ClassId) (ov : Value) (A : Nat → Prop) (mi : Nat) : Prop :=
  p.tables.exec = Jvm.exec ∧ c.code = (hb_mt mi).2.1 ∧ c.maxLocals = (hb_mt mi).2.2.1 ∧ s.vm.findClass (hbOwn (hb_mt mi).2.2.2.2.1) = some m.cls ∧ (∀ w ∈ hbTB, w.before args s = true) ∧ va_K D hbCl (hb_tys cI cZ cS) s ∧ (∀ w ∈ hb_nest, va_Nw w s) ∧ hb_Z α ov A s s.heap ∧ hb_inj α sh.length ∧ (∀ c, c < sh.length → A (α c)) ∧ ov.category = 1
/-- from this state of the small machine the machine comes to Q -/
def hb_AW (p : Program) (l : Launch) (e : Env) (R : Room) (s : State) (m : MethodId) (args : Array Value) (below : List Frame) (meth : Method) (c : Code) (cells slots : Nat) (Q : State → Prop) (sh : List hbS) (α : Nat → Nat) (D : va_G) (cI cZ cS : ClassId) (ov : Value) (A : Nat → Prop) (mi : Nat) (st : hbT) : Prop :=
  ∀ (H : Heap) (locs : List Loc) (ls : Array Slot), va_P D hbCl (hb_w α cI cZ cS st.2.2.2 sh) H → va_S A s.heap H locs → hb_LR α ov (hb_mt mi).2.2.1 ls st.2.1 → W p l e R s m args below meth c H locs cells slots Q (F0 m st.1 ls (st.2.2.1.map (hb_val α ov)))
theorem hb_in_vp {i : Int32} {n : Nat} (h : hb_in i n = true) : vp_in i n := by
  simp only [hb_in, Bool.not_eq_true', Bool.or_eq_false_iff, decide_eq_false_iff_not] at h
  exact fun q => q.elim h.1 h.2
theorem hb_01_nar {x : Int32} (h : hb_01 x = true) : narrow .boolean (.int x) = .int x ∧ fits .boolean (.int x) = true ∧ vp_nar .boolean x = x := by
  simp only [hb_01, Bool.or_eq_true, beq_iff_eq] at h
  rcases h with rfl | rfl <;> decide
def hb_xtra : List Cond := [.fieldLink "java/lang/String" 9 "java/lang/String" "value" "[B", .fieldLink "java/lang/String" 15 "java/lang/String" "coder" "B", .fieldLink "java/lang/String" 38 "java/lang/String" "COMPACT_STRINGS" "Z", .fieldLink "java/lang/String" 1053 "jdk/internal/util/Preconditions" "SIOOBE_FORMATTER" "Ljava/util/function/BiFunction;", .methodLink "HandBook" 119 arraycopyName, .native arraycopyName, .static arraycopyName, .initialized "java/lang/System"]
theorem hb_xtra_all : hb_xtra.all (fun w => decide (w ∈ hbTB)) = true := by decide +kernel
theorem hb_xtra_in {w : Cond} (h : w ∈ hb_xtra) : w ∈ hbTB := by simpa using List.all_eq_true.mp hb_xtra_all w h
section
variable {loc stk loc' stk' : List Value} {σ σ' : hbM} {gs : List Bool} {a b d : Nat} {z : Int32} {sh : List hbS}
theorem hb_ii_inv {g : Int32 → Int32 → List Bool} {f : Int32 → Int32 → Value} (h : hb_ii loc stk σ g f = some (gs, loc', stk', σ')) : ∃ x y t, stk = .int y :: .int x :: t ∧ gs = g x y ∧ loc' = loc ∧ stk' = f x y :: t ∧ σ' = σ := by
  unfold hb_ii at h
  split at h
  · cases h; exact ⟨_, _, _, rfl, rfl, rfl, rfl, rfl⟩
  · cases h
theorem hb_ll_inv {f : Int64 → Int64 → Value} (h : hb_ll loc stk σ f = some (gs, loc', stk', σ')) : ∃ x y t, stk = .long y :: .long x :: t ∧ loc' = loc ∧ stk' = f x y :: t ∧ σ' = σ := by
  unfold hb_ll at h
  split at h
  · cases h; exact ⟨_, _, _, rfl, rfl, rfl, rfl⟩
  · cases h
theorem hb_li_inv {f : Int64 → Int32 → Value} (h : hb_li loc stk σ f = some (gs, loc', stk', σ')) : ∃ x y t, stk = .int y :: .long x :: t ∧ loc' = loc ∧ stk' = f x y :: t ∧ σ' = σ := by
  unfold hb_li at h
  split at h
  · cases h; exact ⟨_, _, _, rfl, rfl, rfl, rfl⟩
  · cases h
theorem hb_i_inv {f : Int32 → Value} (h : hb_i loc stk σ f = some (gs, loc', stk', σ')) : ∃ x t, stk = .int x :: t ∧ loc' = loc ∧ stk' = f x :: t ∧ σ' = σ := by
  unfold hb_i at h
  split at h
  · cases h; exact ⟨_, _, rfl, rfl, rfl, rfl⟩
  · cases h
theorem hb_l_inv {f : Int64 → Value} (h : hb_l loc stk σ f = some (gs, loc', stk', σ')) : ∃ x t, stk = .long x :: t ∧ loc' = loc ∧ stk' = f x :: t ∧ σ' = σ := by
  unfold hb_l at h
  split at h
  · cases h; exact ⟨_, _, rfl, rfl, rfl, rfl⟩
  · cases h
theorem hb_ldi_inv (h : hb_ldi loc stk σ a = some (gs, loc', stk', σ')) : ∃ x, loc[a]? = some (.int x) ∧ loc' = loc ∧ stk' = .int x :: stk ∧ σ' = σ := by
  unfold hb_ldi at h
  split at h
  · rename_i x hv; cases h; exact ⟨x, hv, rfl, rfl, rfl⟩
  · cases h
theorem hb_ldl_inv (h : hb_ldl loc stk σ a = some (gs, loc', stk', σ')) : ∃ x, loc[a]? = some (.long x) ∧ loc' = loc ∧ stk' = .long x :: stk ∧ σ' = σ := by
  unfold hb_ldl at h
  split at h
  · rename_i x hv; cases h; exact ⟨x, hv, rfl, rfl, rfl⟩
  · cases h
theorem hb_lda_inv (h : hb_lda loc stk σ a = some (gs, loc', stk', σ')) : ∃ x, loc[a]? = some (.ref x) ∧ loc' = loc ∧ stk' = .ref x :: stk ∧ σ' = σ := by
  unfold hb_lda at h
  split at h
  · rename_i x hv; cases h; exact ⟨x, hv, rfl, rfl, rfl⟩
  · cases h
theorem hb_put_inv {o : Option (List Value)} (h : hb_put o stk σ = some (gs, loc', stk', σ')) : o = some loc' ∧ stk' = stk ∧ σ' = σ := by
  unfold hb_put at h
  split at h
  · cases h; exact ⟨rfl, rfl, rfl⟩
  · cases h
theorem hb_sti_inv (h : hb_sti loc stk σ a = some (gs, loc', stk', σ')) : ∃ x t, stk = .int x :: t ∧ hb_sto loc a (.int x) = some loc' ∧ stk' = t ∧ σ' = σ := by
  unfold hb_sti at h
  split at h
  · obtain ⟨h1, h2, h3⟩ := hb_put_inv h; exact ⟨_, _, rfl, h1, h2, h3⟩
  · cases h
theorem hb_sta_inv (h : hb_sta loc stk σ a = some (gs, loc', stk', σ')) : ∃ x t, stk = .ref x :: t ∧ hb_sto loc a (.ref x) = some loc' ∧ stk' = t ∧ σ' = σ := by
  unfold hb_sta at h
  split at h
  · obtain ⟨h1, h2, h3⟩ := hb_put_inv h; exact ⟨_, _, rfl, h1, h2, h3⟩
  · cases h
theorem hb_stl_inv (h : hb_stl loc stk σ a = some (gs, loc', stk', σ')) : ∃ x t l1, stk = .long x :: t ∧ hb_sto loc a (.long x) = some l1 ∧ hb_set l1 (a + 1) .null = some loc' ∧ stk' = t ∧ σ' = σ := by
  unfold hb_stl at h
  split at h
  · split at h
    · rename_i l1 e1
      obtain ⟨h1, h2, h3⟩ := hb_put_inv h
      exact ⟨_, _, l1, rfl, e1, h1, h2, h3⟩
    · cases h
  · cases h
theorem hb_inc_inv (h : hb_inc loc stk σ a z = some (gs, loc', stk', σ')) : ∃ x, loc[a]? = some (.int x) ∧ hb_sto loc a (.int (x + z)) = some loc' ∧ stk' = stk ∧ σ' = σ := by
  unfold hb_inc at h
  split at h
  · rename_i x hv
    obtain ⟨h1, h2, h3⟩ := hb_put_inv h
    exact ⟨x, hv, h1, h2, h3⟩
  · cases h
theorem hb_get_inv (h : hb_get sh loc stk σ a b = some (gs, loc', stk', σ')) : ∃ c t fs o, stk = .ref c :: t ∧ sh[c]? = some (0, a, fs) ∧ fs[b]? = some o ∧ loc' = loc ∧ σ' = σ ∧ ∀ α ov, stk'.map (hb_val α ov) = hb_fv α (σ c) b o :: t.map (hb_val α ov) := by
  unfold hb_get at h
  split at h
  · rename_i c t
    split at h
    · rename_i ci fs hs
      split at h
      · rename_i e
        subst e
        split at h
        · rename_i hf
          cases h
          exact ⟨c, t, fs, none, rfl, hs, hf, rfl, rfl, fun α ov => rfl⟩
        · rename_i k hf
          cases h
          exact ⟨c, t, fs, some k, rfl, hs, hf, rfl, rfl, fun α ov => rfl⟩
        · cases h
      · cases h
    · cases h
  · cases h
theorem hb_getS_inv (h : hb_getS loc stk σ b = some (gs, loc', stk', σ')) : ∃ t, stk = .ref 1000 :: t ∧ loc' = loc ∧ σ' = σ ∧ ((b = 0 ∧ stk' = .ref 1001 :: t) ∨ (b ≠ 0 ∧ stk' = .int 0 :: t)) := by
  unfold hb_getS at h
  split at h
  · split at h
    · cases h; exact ⟨_, rfl, rfl, rfl, Or.inl ⟨rfl, rfl⟩⟩
    · rename_i hb; cases h; exact ⟨_, rfl, rfl, rfl, Or.inr ⟨fun e => hb e, rfl⟩⟩
  · cases h
theorem hb_putf_inv (h : hb_putf sh loc stk σ a b d = some (gs, loc', stk', σ')) (hg : gs.all id = true) : ∃ x c t fs, stk = .int x :: .ref c :: t ∧ sh[c]? = some (0, a, fs) ∧ fs[b]? = some none ∧ loc' = loc ∧ stk' = t ∧ σ' = hb_up σ c b x ∧ (d ≠ 0 → hb_01 x = true) := by
  unfold hb_putf at h
  split at h
  · rename_i x c t
    split at h
    · rename_i ci fs hs
      split at h
      · rename_i e
        subst e
        split at h
        · rename_i hf
          split at h
          · cases h; exact ⟨x, c, _, fs, rfl, hs, hf, rfl, rfl, rfl, fun q => absurd rfl q⟩
          · cases h; exact ⟨x, c, _, fs, rfl, hs, hf, rfl, rfl, rfl, fun _ => by simpa using hg⟩
        · cases h
      · cases h
    · cases h
  · cases h
theorem hb_ald_inv {k : Nat} (h : hb_ald sh k loc stk σ = some (gs, loc', stk', σ')) (hg : gs.all id = true) : ∃ i c t n fs, stk = .int i :: .ref c :: t ∧ sh[c]? = some (k, n, fs) ∧ hb_in i n = true ∧ loc' = loc ∧ stk' = .int (σ c i.toNatClampNeg) :: t ∧ σ' = σ := by
  unfold hb_ald at h
  split at h
  · rename_i i c t
    split at h
    · rename_i k' n fs hs
      split at h
      · rename_i e
        subst e
        cases h
        exact ⟨i, c, t, n, fs, rfl, hs, by simpa using hg, rfl, rfl, rfl⟩
      · cases h
    · cases h
  · cases h
theorem hb_aldS_inv (h : hb_aldS loc stk σ = some (gs, loc', stk', σ')) (hg : gs.all id = true) : ∃ i t, stk = .int i :: .ref 1001 :: t ∧ hb_in i 68 = true ∧ loc' = loc ∧ stk' = .int (hbW.getD i.toNatClampNeg 0) :: t ∧ σ' = σ := by
  unfold hb_aldS at h
  split at h
  · cases h; exact ⟨_, _, rfl, by simpa using hg, rfl, rfl, rfl⟩
  · cases h
theorem hb_ast_inv {k : Nat} {g : Int32 → List Bool} (h : hb_ast sh k loc stk σ g = some (gs, loc', stk', σ')) (hg : gs.all id = true) : ∃ x i c t n fs, stk = .int x :: .int i :: .ref c :: t ∧ sh[c]? = some (k, n, fs) ∧ hb_in i n = true ∧ (g x).all id = true ∧ loc' = loc ∧ stk' = t ∧ σ' = hb_up σ c i.toNatClampNeg x := by
  unfold hb_ast at h
  split at h
  · rename_i x i c t
    split at h
    · rename_i k' n fs hs
      split at h
      · rename_i e
        subst e
        cases h
        simp only [List.all_cons, id, Bool.and_eq_true] at hg
        exact ⟨x, i, c, _, n, fs, rfl, hs, hg.1, hg.2, rfl, rfl, rfl⟩
      · cases h
    · cases h
  · cases h
theorem hb_aaq_inv (h : hb_aaq sh loc stk σ = some (gs, loc', stk', σ')) (hg : gs.all id = true) : ∃ i c t n fs k, stk = .int i :: .ref c :: t ∧ sh[c]? = some (3, n, fs) ∧ fs[i.toNatClampNeg]? = some (some k) ∧ hb_in i n = true ∧ loc' = loc ∧ stk' = .ref k :: t ∧ σ' = σ := by
  unfold hb_aaq at h
  split at h
  · rename_i i c t
    split at h
    · rename_i n fs hs
      split at h
      · rename_i k hf
        cases h
        exact ⟨i, c, t, n, fs, k, rfl, hs, hf, by simpa using hg, rfl, rfl, rfl⟩
      · cases h
    · cases h
  · cases h
theorem hb_len_inv (h : hb_len sh loc stk σ = some (gs, loc', stk', σ')) : ∃ c t n fs, stk = .ref c :: t ∧ sh[c]? = some (1, n, fs) ∧ loc' = loc ∧ stk' = .int (nI n) :: t ∧ σ' = σ := by
  unfold hb_len at h
  split at h
  · rename_i c t
    split at h
    · rename_i n fs hs
      cases h
      exact ⟨c, t, n, fs, rfl, hs, rfl, rfl, rfl⟩
    · cases h
  · cases h
theorem hb_lenS_inv (h : hb_lenS loc stk σ = some (gs, loc', stk', σ')) : ∃ t, stk = .ref 1001 :: t ∧ loc' = loc ∧ stk' = .int 68 :: t ∧ σ' = σ := by
  unfold hb_lenS at h
  split at h
  · cases h; exact ⟨_, rfl, rfl, rfl, rfl⟩
  · cases h
theorem hb_dup_inv (h : hb_dup loc stk σ = some (gs, loc', stk', σ')) : ∃ v t, stk = v :: t ∧ v.category = 1 ∧ loc' = loc ∧ stk' = v :: v :: t ∧ σ' = σ := by
  unfold hb_dup at h
  split at h
  · cases h; exact ⟨_, _, rfl, rfl, rfl, rfl, rfl⟩
  · cases h; exact ⟨_, _, rfl, rfl, rfl, rfl, rfl⟩
  · cases h
theorem hb_dup2_inv (h : hb_dup2 loc stk σ = some (gs, loc', stk', σ')) : ∃ x c t, stk = .int x :: .ref c :: t ∧ loc' = loc ∧ stk' = .int x :: .ref c :: .int x :: .ref c :: t ∧ σ' = σ := by
  unfold hb_dup2 at h
  split at h
  · cases h; exact ⟨_, _, _, rfl, rfl, rfl, rfl⟩
  · cases h
theorem hb_pop_inv (h : hb_pop loc stk σ = some (gs, loc', stk', σ')) : ∃ x t, stk = .int x :: t ∧ loc' = loc ∧ stk' = t ∧ σ' = σ := by
  unfold hb_pop at h
  split at h
  · cases h; exact ⟨_, _, rfl, rfl, rfl, rfl⟩
  · cases h
theorem hb_acp_inv (h : hb_acp sh loc stk σ = some (gs, loc', stk', σ')) (hg : gs.all id = true) : ∃ n dp c1 sp c0 n0 n1 f0 f1, stk = [.int n, .int dp, .ref c1, .int sp, .ref c0] ∧ sh[c0]? = some (1, n0, f0) ∧ sh[c1]? = some (1, n1, f1) ∧ (¬ sp < 0 ∧ ¬ dp < 0 ∧ ¬ n < 0 ∧ sp.toNatClampNeg + n.toNatClampNeg ≤ n0 ∧ dp.toNatClampNeg + n.toNatClampNeg ≤ n1) ∧ loc' = loc ∧ stk' = [] ∧ σ' = hb_cpy σ c0 c1 sp.toNatClampNeg dp.toNatClampNeg n.toNatClampNeg := by
  unfold hb_acp at h
  split at h
  · rename_i n dp c1 sp c0
    split at h
    · rename_i n0 f0 n1 f1 h0 h1
      cases h
      simp only [List.all_cons, List.all_nil, id, Bool.and_eq_true, decide_eq_true_eq, Bool.and_true] at hg
      exact ⟨n, dp, c1, sp, c0, n0, n1, f0, f1, rfl, h0, h1, ⟨hg.1, hg.2.1, hg.2.2.1, hg.2.2.2.1, hg.2.2.2.2⟩, rfl, rfl, rfl⟩
    · cases h
  · cases h
end
section
variable {p : Program} {l : Launch} {e : Env} {R : Room} {s : State} {m : MethodId} {args : Array Value} {below : List Frame} {meth : Method} {c : Code} {cells slots : Nat} {Q : State → Prop}
variable {sh : List hbS} {α : Nat → Nat} {D : va_G} {cI cZ cS : ClassId} {ov : Value} {A : Nat → Prop} {mi : Nat}
set_option maxHeartbeats 4000000 in
/-- a plain instruction -/
theorem hb_sx (C : hb_Cx p s m args c sh α D cI cZ cS ov A mi) {pc : Nat} {r : hbR} {loc stk loc' stk' : List Value} {σ σ' : hbM} {gs : List Bool} (hr : hb_rok mi pc r) (hx : hb_x sh r loc stk σ = some (gs, loc', stk', σ')) (hg : gs.all id = true) (hfr : 1 ≤ R.frames) (hlo : 30 ≤ R.locals)
    (k : hb_AW p l e R s m args below meth c cells slots Q sh α D cI cZ cS ov A mi (pc + r.2.1, loc', stk', σ')) : hb_AW p l e R s m args below meth c cells slots Q sh α D cI cZ cS ov A mi (pc, loc, stk, σ) := by
  obtain ⟨hX, hB, hml, hown, hts, hK, hN, hZ, hinj, hA, ho⟩ := C
  obtain ⟨op, len, a, b, d, z, w⟩ := r
  obtain ⟨hdg, hok⟩ := hr
  dsimp only at hdg hok k
  generalize hgo : (hb_mt mi).2.2.2.2.1 = own at hown hok
  intro H locs ls hP hS hl
  dsimp only at hP hl ⊢
  have hD : va_D A (hb_w α cI cZ cS σ sh) := hb_w_D hinj hA
  cases op with
  | iconst n =>
    cases hx
    simp only [hb_opok, Bool.and_eq_true, beq_iff_eq, decide_eq_true_eq] at hok
    obtain ⟨rfl, rfl⟩ := hok
    exact lv_iconst hX hB hdg rfl (k H locs ls hP hS hl)
  | bipush n =>
    cases hx
    simp only [hb_opok, Bool.and_eq_true, beq_iff_eq, decide_eq_true_eq] at hok
    obtain ⟨rfl, rfl⟩ := hok
    exact lv_bipush hX hB hdg rfl (k H locs ls hP hS hl)
  | sipush n =>
    cases hx
    simp only [hb_opok, Bool.and_eq_true, beq_iff_eq, decide_eq_true_eq] at hok
    obtain ⟨rfl, rfl⟩ := hok
    exact lv_sipush hX hB hdg rfl (k H locs ls hP hS hl)
  | lconst n =>
    cases hx
    simp only [hb_opok, Bool.and_eq_true, beq_iff_eq, decide_eq_true_eq] at hok
    obtain ⟨rfl, rfl⟩ := hok
    exact lv_lconst hX hB hdg rfl (k H locs ls hP hS hl)
  | ldc i =>
    simp only [hb_opok, Bool.and_eq_true, beq_iff_eq] at hok
    obtain ⟨rfl, hok⟩ := hok
    cases d with
    | zero =>
      cases hx
      exact lv_ldc hX hB hown (hts _ (hb_csa_w hok)) hdg (k H locs ls hP hS hl)
    | succ d =>
      cases hx
      simp only [Bool.and_eq_true, beq_iff_eq] at hok
      obtain ⟨rfl, rfl⟩ := hok
      exact va_ldcS hX hB hown hZ.1 hdg (k H locs ls hP hS hl)
  | ldc_w i =>
    cases hx
    simp only [hb_opok, Bool.and_eq_true, beq_iff_eq] at hok
    obtain ⟨rfl, hok⟩ := hok
    exact lv_ldcw hX hB hown (hts _ (hb_csa_w hok)) hdg (k H locs ls hP hS hl)
  | ldc2_w i =>
    cases hx
    simp only [hb_opok, Bool.and_eq_true, beq_iff_eq] at hok
    obtain ⟨rfl, hok⟩ := hok
    exact lv_ldc2 hX hB hown (hts _ (hb_cla_w hok)) hdg (k H locs ls hP hS hl)
  | iload_n kk =>
    obtain ⟨x, h1, rfl, rfl, rfl⟩ := hb_ldi_inv hx
    simp only [hb_opok, Bool.and_eq_true, beq_iff_eq] at hok
    obtain ⟨rfl, hi⟩ := hok
    exact lv_iload_n hX hB hdg hi (hl.get h1 (by simp)) (k H locs ls hP hS hl)
  | iload i =>
    obtain ⟨x, h1, rfl, rfl, rfl⟩ := hb_ldi_inv hx
    simp only [hb_opok, Bool.and_eq_true, beq_iff_eq] at hok
    obtain ⟨rfl, rfl⟩ := hok
    exact lv_iload hX hB hdg (hl.get h1 (by simp)) (k H locs ls hP hS hl)
  | lload_n kk =>
    obtain ⟨x, h1, rfl, rfl, rfl⟩ := hb_ldl_inv hx
    simp only [hb_opok, Bool.and_eq_true, beq_iff_eq] at hok
    obtain ⟨rfl, hi⟩ := hok
    exact lv_lload_n hX hB hdg hi (hl.get h1 (by simp)) (k H locs ls hP hS hl)
  | lload i =>
    obtain ⟨x, h1, rfl, rfl, rfl⟩ := hb_ldl_inv hx
    simp only [hb_opok, Bool.and_eq_true, beq_iff_eq] at hok
    obtain ⟨rfl, rfl⟩ := hok
    exact lv_lload hX hB hdg (hl.get h1 (by simp)) (k H locs ls hP hS hl)
  | aload_n kk =>
    obtain ⟨x, h1, rfl, rfl, rfl⟩ := hb_lda_inv hx
    simp only [hb_opok, Bool.and_eq_true, beq_iff_eq] at hok
    obtain ⟨rfl, hi⟩ := hok
    exact lv_aload_n hX hB hdg hi (hl.get h1 (by simp)) (k H locs ls hP hS hl)
  | aload i =>
    obtain ⟨x, h1, rfl, rfl, rfl⟩ := hb_lda_inv hx
    simp only [hb_opok, Bool.and_eq_true, beq_iff_eq] at hok
    obtain ⟨rfl, rfl⟩ := hok
    exact lv_aload hX hB hdg (hl.get h1 (by simp)) (k H locs ls hP hS hl)
  | istore_n kk =>
    obtain ⟨x, t, rfl, h1, rfl, rfl⟩ := hb_sti_inv hx
    simp only [hb_opok, Bool.and_eq_true, beq_iff_eq] at hok
    obtain ⟨rfl, hi⟩ := hok
    exact lv_istore_n hX hB hdg hi hl.2 (by have := (hb_sto_eq h1).1; rw [hl.1] at this; exact this) rfl (fun ls' h' => k H locs ls' hP hS (hb_LR.st1 ho hl h1 h'))
  | istore i =>
    obtain ⟨x, t, rfl, h1, rfl, rfl⟩ := hb_sti_inv hx
    simp only [hb_opok, Bool.and_eq_true, beq_iff_eq] at hok
    obtain ⟨rfl, rfl⟩ := hok
    exact lv_istore hX hB hdg hl.2 (by have := (hb_sto_eq h1).1; rw [hl.1] at this; exact this) rfl (fun ls' h' => k H locs ls' hP hS (hb_LR.st1 ho hl h1 h'))
  | astore_n kk =>
    obtain ⟨x, t, rfl, h1, rfl, rfl⟩ := hb_sta_inv hx
    simp only [hb_opok, Bool.and_eq_true, beq_iff_eq] at hok
    obtain ⟨rfl, hi⟩ := hok
    exact lv_astore_n hX hB hdg hi hl.2 (by have := (hb_sto_eq h1).1; rw [hl.1] at this; exact this) rfl (fun ls' h' => k H locs ls' hP hS (hb_LR.st1 ho hl h1 h'))
  | astore i =>
    obtain ⟨x, t, rfl, h1, rfl, rfl⟩ := hb_sta_inv hx
    simp only [hb_opok, Bool.and_eq_true, beq_iff_eq] at hok
    obtain ⟨rfl, rfl⟩ := hok
    exact lv_astore hX hB hdg hl.2 (by have := (hb_sto_eq h1).1; rw [hl.1] at this; exact this) rfl (fun ls' h' => k H locs ls' hP hS (hb_LR.st1 ho hl h1 h'))
  | lstore_n kk =>
    obtain ⟨x, t, l1, rfl, h1, h2, rfl, rfl⟩ := hb_stl_inv hx
    simp only [hb_opok, Bool.and_eq_true, beq_iff_eq] at hok
    obtain ⟨rfl, hi⟩ := hok
    have hn := (hb_set_eq h2).1
    have e1 := (hb_sto_eq h1).2.1
    rw [e1, List.length_set, hl.1] at hn
    exact lv_lstore_n hX hB hdg hi hl.2 hn rfl (fun ls' h' => k H locs ls' hP hS (hb_LR.st2 ho hl h1 h2 h'))
  | lstore i =>
    obtain ⟨x, t, l1, rfl, h1, h2, rfl, rfl⟩ := hb_stl_inv hx
    simp only [hb_opok, Bool.and_eq_true, beq_iff_eq] at hok
    obtain ⟨rfl, rfl⟩ := hok
    have hn := (hb_set_eq h2).1
    have e1 := (hb_sto_eq h1).2.1
    rw [e1, List.length_set, hl.1] at hn
    exact lv_lstore hX hB hdg hl.2 hn rfl (fun ls' h' => k H locs ls' hP hS (hb_LR.st2 ho hl h1 h2 h'))
  | iinc i n =>
    obtain ⟨x, h0, h1, rfl, rfl⟩ := hb_inc_inv hx
    simp only [hb_opok, Bool.and_eq_true, beq_iff_eq, decide_eq_true_eq] at hok
    obtain ⟨rfl, rfl, rfl⟩ := hok
    obtain ⟨kk, hkk⟩ := List.getElem?_of_mem (hb_prs_mem (α := α) (ov := ov) (q := (i, .int x)) |>.mpr ⟨_, h0, by simp, rfl⟩)
    exact lv_iinc hX hB hdg hl.2 (k := kk) hkk rfl (by have := (hb_sto_eq h1).1; rw [hl.1] at this; exact this) rfl (fun ls' h' => k H locs ls' hP hS (hb_LR.st1 ho hl h1 h'))
  | iadd =>
    have hlen : len = 1 := by simpa [hb_opok] using hok
    subst hlen
    obtain ⟨x, y, t, rfl, rfl, rfl, rfl, rfl⟩ := hb_ii_inv hx
    exact lv_iadd hX hB hdg (k H locs ls hP hS hl)
  | isub =>
    have hlen : len = 1 := by simpa [hb_opok] using hok
    subst hlen
    obtain ⟨x, y, t, rfl, rfl, rfl, rfl, rfl⟩ := hb_ii_inv hx
    exact lv_isub hX hB hdg (k H locs ls hP hS hl)
  | imul =>
    have hlen : len = 1 := by simpa [hb_opok] using hok
    subst hlen
    obtain ⟨x, y, t, rfl, rfl, rfl, rfl, rfl⟩ := hb_ii_inv hx
    exact lv_imul hX hB hdg (k H locs ls hP hS hl)
  | iand =>
    have hlen : len = 1 := by simpa [hb_opok] using hok
    subst hlen
    obtain ⟨x, y, t, rfl, rfl, rfl, rfl, rfl⟩ := hb_ii_inv hx
    exact lv_iand hX hB hdg (k H locs ls hP hS hl)
  | ior =>
    have hlen : len = 1 := by simpa [hb_opok] using hok
    subst hlen
    obtain ⟨x, y, t, rfl, rfl, rfl, rfl, rfl⟩ := hb_ii_inv hx
    exact lv_ior hX hB hdg (k H locs ls hP hS hl)
  | ixor =>
    have hlen : len = 1 := by simpa [hb_opok] using hok
    subst hlen
    obtain ⟨x, y, t, rfl, rfl, rfl, rfl, rfl⟩ := hb_ii_inv hx
    exact lv_ixor hX hB hdg (k H locs ls hP hS hl)
  | ishl =>
    have hlen : len = 1 := by simpa [hb_opok] using hok
    subst hlen
    obtain ⟨x, y, t, rfl, rfl, rfl, rfl, rfl⟩ := hb_ii_inv hx
    exact lv_ishl hX hB hdg (k H locs ls hP hS hl)
  | ishr =>
    have hlen : len = 1 := by simpa [hb_opok] using hok
    subst hlen
    obtain ⟨x, y, t, rfl, rfl, rfl, rfl, rfl⟩ := hb_ii_inv hx
    exact lv_ishr hX hB hdg (k H locs ls hP hS hl)
  | iushr =>
    have hlen : len = 1 := by simpa [hb_opok] using hok
    subst hlen
    obtain ⟨x, y, t, rfl, rfl, rfl, rfl, rfl⟩ := hb_ii_inv hx
    exact lv_iushr hX hB hdg rfl (k H locs ls hP hS hl)
  | idiv =>
    have hlen : len = 1 := by simpa [hb_opok] using hok
    subst hlen
    obtain ⟨x, y, t, rfl, rfl, rfl, rfl, rfl⟩ := hb_ii_inv hx
    exact lv_idiv hX hB hdg (by simpa using hg) (k H locs ls hP hS hl)
  | irem =>
    have hlen : len = 1 := by simpa [hb_opok] using hok
    subst hlen
    obtain ⟨x, y, t, rfl, rfl, rfl, rfl, rfl⟩ := hb_ii_inv hx
    exact lv_irem hX hB hdg (by simpa using hg) (k H locs ls hP hS hl)
  | ineg =>
    have hlen : len = 1 := by simpa [hb_opok] using hok
    subst hlen
    obtain ⟨x, t, rfl, rfl, rfl, rfl⟩ := hb_i_inv hx
    exact lv_ineg hX hB hdg (k H locs ls hP hS hl)
  | i2l =>
    have hlen : len = 1 := by simpa [hb_opok] using hok
    subst hlen
    obtain ⟨x, t, rfl, rfl, rfl, rfl⟩ := hb_i_inv hx
    exact lv_i2l hX hB hdg rfl (k H locs ls hP hS hl)
  | i2b =>
    have hlen : len = 1 := by simpa [hb_opok] using hok
    subst hlen
    obtain ⟨x, t, rfl, rfl, rfl, rfl⟩ := hb_i_inv hx
    exact lv_i2b hX hB hdg rfl (k H locs ls hP hS hl)
  | i2s =>
    have hlen : len = 1 := by simpa [hb_opok] using hok
    subst hlen
    obtain ⟨x, t, rfl, rfl, rfl, rfl⟩ := hb_i_inv hx
    exact lv_i2s hX hB hdg rfl (k H locs ls hP hS hl)
  | i2c =>
    have hlen : len = 1 := by simpa [hb_opok] using hok
    subst hlen
    obtain ⟨x, t, rfl, rfl, rfl, rfl⟩ := hb_i_inv hx
    exact lv_i2c hX hB hdg rfl (k H locs ls hP hS hl)
  | l2i =>
    have hlen : len = 1 := by simpa [hb_opok] using hok
    subst hlen
    obtain ⟨x, t, rfl, rfl, rfl, rfl⟩ := hb_l_inv hx
    exact lv_l2i hX hB hdg rfl (k H locs ls hP hS hl)
  | ladd =>
    have hlen : len = 1 := by simpa [hb_opok] using hok
    subst hlen
    obtain ⟨x, y, t, rfl, rfl, rfl, rfl⟩ := hb_ll_inv hx
    exact lv_ladd hX hB hdg (k H locs ls hP hS hl)
  | land =>
    have hlen : len = 1 := by simpa [hb_opok] using hok
    subst hlen
    obtain ⟨x, y, t, rfl, rfl, rfl, rfl⟩ := hb_ll_inv hx
    exact lv_land hX hB hdg (k H locs ls hP hS hl)
  | lor =>
    have hlen : len = 1 := by simpa [hb_opok] using hok
    subst hlen
    obtain ⟨x, y, t, rfl, rfl, rfl, rfl⟩ := hb_ll_inv hx
    exact lv_lor hX hB hdg (k H locs ls hP hS hl)
  | lcmp =>
    have hlen : len = 1 := by simpa [hb_opok] using hok
    subst hlen
    obtain ⟨x, y, t, rfl, rfl, rfl, rfl⟩ := hb_ll_inv hx
    exact W.lcmp hX hB hdg (k H locs ls hP hS hl)
  | lshl =>
    have hlen : len = 1 := by simpa [hb_opok] using hok
    subst hlen
    obtain ⟨x, y, t, rfl, rfl, rfl, rfl⟩ := hb_li_inv hx
    exact lv_lshl hX hB hdg rfl (k H locs ls hP hS hl)
  | lshr =>
    have hlen : len = 1 := by simpa [hb_opok] using hok
    subst hlen
    obtain ⟨x, y, t, rfl, rfl, rfl, rfl⟩ := hb_li_inv hx
    exact lv_lshr hX hB hdg rfl (k H locs ls hP hS hl)
  | dup =>
    have hlen : len = 1 := by simpa [hb_opok] using hok
    subst hlen
    obtain ⟨v, t, rfl, hc, rfl, rfl, rfl⟩ := hb_dup_inv hx
    exact lv_dup hX hB hdg (by rw [hb_val_cat ho]; exact hc) (k H locs ls hP hS hl)
  | dup2 =>
    have hlen : len = 1 := by simpa [hb_opok] using hok
    subst hlen
    obtain ⟨x, c0, t, rfl, rfl, rfl, rfl⟩ := hb_dup2_inv hx
    exact lv_dup2_11 hX hB hdg rfl rfl (k H locs ls hP hS hl)
  | pop =>
    have hlen : len = 1 := by simpa [hb_opok] using hok
    subst hlen
    obtain ⟨x, t, rfl, rfl, rfl, rfl⟩ := hb_pop_inv hx
    exact lv_pop hX hB hdg rfl (k H locs ls hP hS hl)
  | getfield i =>
    simp only [hb_opok, Bool.and_eq_true, beq_iff_eq] at hok
    obtain ⟨rfl, hok⟩ := hok
    cases d with
    | zero =>
      obtain ⟨c0, t, fs, o9, rfl, hs, hf, rfl, rfl, hst⟩ := hb_get_inv hx
      obtain ⟨⟨CC, TT, NN⟩, hc, hk, hlink⟩ := hb_fla_w hok
      refine va_get (D := D) hX hB hts (hb_cl_in hc) hown hK hP c0 (hb_w_at hs) hc b hk (hts _ hlink) (fun _ h9 => h9) (v := hb_fv α (σ' c0) b o9) (by rw [hb_fs_get, hf]; rfl) hdg ?_
      have k1 := k H locs ls hP hS hl
      dsimp only at k1
      rw [hst α ov] at k1
      exact k1
    | succ d =>
      obtain ⟨t, rfl, rfl, rfl, hst⟩ := hb_getS_inv hx
      simp only [Bool.and_eq_true, beq_iff_eq] at hok
      obtain ⟨rfl, hok⟩ := hok
      obtain ⟨hs1, hs2, hs3, hs4⟩ := hZ.2.1.1 0 (by decide)
      rcases hst with ⟨rfl, rfl⟩ | ⟨hb0, rfl⟩
      · have hi : i = 9 := by simpa using hok
        subst hi
        exact vk_getf hX hB hs3 hS hown (hts _ (hb_xtra_in (List.mem_of_getElem? (i := 0) rfl))) (fun _ h9 => h9) hdg (k H locs ls hP hS hl)
      · have hi : i = 15 := by
          cases b with
          | zero => exact absurd rfl hb0
          | succ b => simpa using hok
        subst hi
        exact vk_getf hX hB hs2 hS hown (hts _ (hb_xtra_in (List.mem_of_getElem? (i := 1) rfl))) (fun _ h9 => h9) hdg (k H locs ls hP hS hl)
  | putfield i =>
    simp only [hb_opok, Bool.and_eq_true, beq_iff_eq] at hok
    obtain ⟨rfl, hok, hft⟩ := hok
    obtain ⟨x, c0, t, fs, rfl, hs, hf, rfl, rfl, rfl, h01⟩ := hb_putf_inv hx hg
    obtain ⟨⟨CC, TT, NN⟩, hc, hk, hlink⟩ := hb_fla_w hok
    obtain ⟨⟨ty0, hty⟩, hnm⟩ := hb_cl_ty hc
    dsimp only at hty hnm hk hlink
    simp only [hb_fty, hc, Bool.and_eq_true, Bool.not_eq_true'] at hft
    have hlt : b < (hb_fs α (σ c0) fs).length := by rw [hb_fs_len]; exact (List.getElem?_eq_some_iff.mp hf).1
    have key : ∃ ty, parseFieldDescriptor (TT b).2.2.1 = some ty ∧ narrow ty (.int x) = .int x ∧ fits ty (.int x) = true := by
      cases d with
      | zero =>
        have h2 : (TT b).2.2.1 = "I" := by simpa using hft.2
        exact ⟨.int, by rw [h2]; decide +kernel, rfl, rfl⟩
      | succ d =>
        have h2 : (TT b).2.2.1 = "Z" := by simpa using hft.2
        have h3 := hb_01_nar (h01 (by omega))
        exact ⟨.boolean, by rw [h2]; decide +kernel, h3.1, h3.2.1⟩
    obtain ⟨ty, hd, hn, hfit⟩ := key
    refine va_put (D := D) hX hB hts (hb_cl_in hc) ty0 hty hnm hown hK hP hD hS c0 (hb_w_at hs) hc b hk (hts _ hlink) (fun _ h9 => h9) hft.1 hd hn hfit hlt hdg (fun H1 locs1 hP1 hD1 hS1 => ?_)
    refine k H1 locs1 ls ?_ hS1 hl
    have hP1 : va_P D hbCl (List.set (hb_w α cI cZ cS σ sh) c0 (α c0, Sum.inr (a, (hb_fs α (σ c0) fs).set b (.int x)))) H1 := hP1
    rw [hb_fs_set hf, hb_w_set (σ' := hb_up σ c0 b x) hs (by rw [hb_up_at]; rfl) (fun c' hc' => hb_up_ne σ b x hc')] at hP1
    exact hP1
  | getstatic i =>
    simp only [hb_opok, Bool.and_eq_true, beq_iff_eq] at hok
    obtain ⟨rfl, rfl, hok⟩ := hok
    cases b with
    | zero =>
      cases hx
      have hi : i = 38 := by simpa using hok
      subst hi
      exact va_gets hX hB hZ.2.2.1 hS hown (hts _ (hb_xtra_in (List.mem_of_getElem? (i := 2) rfl))) (fun _ h9 => h9) hdg (k H locs ls hP hS hl)
    | succ b =>
      cases hx
      have hi : i = 1053 := by simpa using hok
      subst hi
      exact va_gets hX hB hZ.2.2.2 hS hown (hts _ (hb_xtra_in (List.mem_of_getElem? (i := 3) rfl))) (fun _ h9 => h9) hdg (k H locs ls hP hS hl)
  | iaload =>
    have hlen : len = 1 := by simpa [hb_opok] using hok
    subst hlen
    obtain ⟨i, c0, t, n, fs, rfl, hs, hin, rfl, rfl, rfl⟩ := hb_ald_inv hx hg
    exact va_iald hX hB hK hP c0 0 (hb_w_at hs) rfl (hb_in_vp hin) hdg (k H locs ls hP hS hl)
  | baload =>
    have hlen : len = 1 := by simpa [hb_opok] using hok
    subst hlen
    cases d with
    | zero =>
      obtain ⟨i, c0, t, n, fs, rfl, hs, hin, rfl, rfl, rfl⟩ := hb_ald_inv hx hg
      exact va_zald hX hB hK hP c0 1 (hb_w_at hs) rfl (hb_in_vp hin) hdg (k H locs ls hP hS hl)
    | succ d =>
      obtain ⟨i, t, rfl, hin, rfl, rfl, rfl⟩ := hb_aldS_inv hx hg
      obtain ⟨hs1, hs2, hs3, hs4⟩ := hZ.2.1.1 0 (by decide)
      exact va_tb hX hB hs4 hS (hb_in_vp hin) rfl hdg (k H locs ls hP hS hl)
  | aaload =>
    have hlen : len = 1 := by simpa [hb_opok] using hok
    subst hlen
    obtain ⟨i, c0, t, n, fs, q, rfl, hs, hf, hin, rfl, rfl, rfl⟩ := hb_aaq_inv hx hg
    refine va_aldq hX hB hK hP c0 2 (hb_w_at hs) rfl (hb_in_vp hin) hdg ?_
    have e1 : va_rf (((fs[i.toNatClampNeg]?).getD none).map α) = .ref (α q) := by rw [hf]; rfl
    rw [e1]
    exact k H locs ls hP hS hl
  | iastore =>
    have hlen : len = 1 := by simpa [hb_opok] using hok
    subst hlen
    obtain ⟨x, i, c0, t, n, fs, rfl, hs, hin, -, rfl, rfl, rfl⟩ := hb_ast_inv hx hg
    refine va_iast hX hB hK hP hD hS c0 0 (hb_w_at hs) rfl (hb_in_vp hin) hdg (fun H1 locs1 hP1 hD1 hS1 => ?_)
    refine k H1 locs1 ls ?_ hS1 hl
    rw [hb_w_set (σ' := hb_up σ c0 i.toNatClampNeg x) hs (by rw [hb_up_at]; rfl) (fun c' hc' => hb_up_ne σ _ x hc')] at hP1
    exact hP1
  | bastore =>
    have hlen : len = 1 := by simpa [hb_opok] using hok
    subst hlen
    obtain ⟨x, i, c0, t, n, fs, rfl, hs, hin, h01, rfl, rfl, rfl⟩ := hb_ast_inv hx hg
    have h3 := (hb_01_nar (x := x) (by simpa using h01)).2.2
    refine va_zast hX hB hK hP hD hS c0 1 (hb_w_at hs) rfl (hb_in_vp hin) hdg (fun H1 locs1 hP1 hD1 hS1 => ?_)
    refine k H1 locs1 ls ?_ hS1 hl
    rw [h3, hb_w_set (σ' := hb_up σ c0 i.toNatClampNeg x) hs (by rw [hb_up_at]; rfl) (fun c' hc' => hb_up_ne σ _ x hc')] at hP1
    exact hP1
  | arraylength =>
    have hlen : len = 1 := by simpa [hb_opok] using hok
    subst hlen
    cases d with
    | zero =>
      obtain ⟨c0, t, n, fs, rfl, hs, rfl, rfl, rfl⟩ := hb_len_inv hx
      exact va_alen hX hB hK hP c0 0 (hb_w_at hs) rfl rfl hdg (k H locs ls hP hS hl)
    | succ d =>
      obtain ⟨t, rfl, rfl, rfl, rfl⟩ := hb_lenS_inv hx
      obtain ⟨hs1, hs2, hs3, hs4⟩ := hZ.2.1.1 0 (by decide)
      exact va_tlen hX hB hs4 hS rfl hdg (k H locs ls hP hS hl)
  | invokestatic i =>
    have hd3 : d = 3 := by
      by_cases h : d = 3
      · exact h
      · exfalso
        have e : hb_x sh (.invokestatic i, len, a, b, d, z, w) loc stk σ = none := by
          simp only [hb_x]
        rw [e] at hx
        cases hx
    subst hd3
    simp only [hb_opok, Bool.and_eq_true, beq_iff_eq] at hok
    obtain ⟨rfl, rfl, rfl⟩ := hok
    obtain ⟨n, dp, c1, sp, c0, n0, n1, f0, f1, rfl, h0, h1, ⟨g1, g2, g3, g4, g5⟩, rfl, rfl, rfl⟩ := hb_acp_inv hx hg
    have hnf0 : (([] : List Value).map fun v => v.category).sum + (nativeFrameWords "java/lang/System" "arraycopy" 5 + 11) ≤ 30 := by decide +kernel
    have hnf : (([] : List Value).map fun v => v.category).sum + (nativeFrameWords "java/lang/System" "arraycopy" 5 + 11) ≤ R.locals := Nat.le_trans hnf0 hlo
    refine va_copyi (rest := []) hX hB (by rw [hml]; exact hl.2.1.symm) hown (hts _ (hb_xtra_in (List.mem_of_getElem? (i := 4) rfl))) (hts _ (hb_xtra_in (List.mem_of_getElem? (i := 5) rfl))) (hts _ (hb_xtra_in (List.mem_of_getElem? (i := 6) rfl))) (hts _ (hb_xtra_in (List.mem_of_getElem? (i := 7) rfl))) hK hP hD hS c0 c1 0 0 (hb_w_at h0) (hb_w_at h1) rfl rfl rfl g1 g2 g3 g4 g5 (fun _ _ => rfl) hfr hnf hdg (fun H1 locs1 hP1 hD1 hS1 => ?_)
    refine k H1 locs1 ls ?_ hS1 hl
    rw [hb_w_set (σ' := hb_cpy σ c0 c1 sp.toNatClampNeg dp.toNatClampNeg n.toNatClampNeg) h1 (by simp [hb_cpy, hb_e]) (fun c' hc' => by simp [hb_cpy, hc'])] at hP1
    exact hP1
  | _ =>
    exact absurd (show (none : Option hbX) = some (gs, loc', stk', σ') from hx) (by simp)
end
end
section
/-! THE SMALL MACHINE IS TRUE TO THE MACHINE: branches, calls, ends; whole methods -/
def hb_rm (n : Nat) : Room := { frames := n, cells := 0, slots := 0, locals := 60 * n }
def hb_B (sh : List hbS) (α : Nat → Nat) (D : va_G) (cI cZ cS : ClassId) (ov : Value) (A : Nat → Prop) (σ : hbM) (U : State) : Prop :=
  va_P D hbCl (hb_w α cI cZ cS σ sh) U.heap ∧ va_K D hbCl (hb_tys cI cZ cS) U ∧ (∀ w ∈ hb_nest, va_Nw w U) ∧ hb_Z α ov A U U.heap
def hb_Qc (sh : List hbS) (α : Nat → Nat) (D : va_G) (cI cZ cS : ClassId) (ov : Value) (A : Nat → Prop) (r : Option Value) (σ' : hbM) : Array Value → State → Outcome → State → Prop := fun _ st oc t =>
  oc = .returned (r.map (hb_val α ov)) ∧ va_P D hbCl (hb_w α cI cZ cS σ' sh) t.heap ∧ va_F A st t
def hb_wsm (m : Nat) : List Cond := Cond.code (hb_mt m).1 (hb_mt m).2.1 (hb_mt m).2.2.1 (hb_mt m).2.2.2.1 :: hbTB
/-- method m, called with these arguments over this memory, returns r and leaves σ' -/
def hb_Ret (l : Launch) (sh : List hbS) (α : Nat → Nat) (D : va_G) (cI cZ cS : ClassId) (ov : Value) (A : Nat → Prop) (m : Nat) (as : List Value) (σ : hbM) (r : Option Value) (σ' : hbM) : Prop :=
  Met l (hb_mt m).1 (hb_wsm m) (hb_rm (hb_lv m)) (va_Pc (as.map (hb_val α ov)) (hb_B sh α D cI cZ cS ov A σ)) (hb_Qc sh α D cI cZ cS ov A r σ') 0 0 A
theorem hb_nest_form {w : Cond} (h : w ∈ hb_nest) : ∃ o i y hh, w = Cond.methodLinkNest o i y hh := by
  obtain ⟨q, -, rfl⟩ := List.mem_map.mp h
  exact ⟨_, _, _, _, rfl⟩
theorem hb_Z.moved {α : Nat → Nat} {ov : Value} {A : Nat → Prop} {s U : State} {H : Heap} (hW : s.WarmedH U.vm) (h : hb_Z α ov A s H) : hb_Z α ov A U H :=
  ⟨vk_R.warm hW h.1, h.2.1.moved hW.alike, h.2.2.1.moved hW.alike, h.2.2.2.moved hW.alike⟩
theorem hb_Z.kept {α : Nat → Nat} {ov : Value} {A : Nat → Prop} {U : State} {H H1 : Heap} (h : hb_Z α ov A U H) (hq : ∀ a : Nat, a < H.size → ¬ A a → H1[a]? = H[a]?) : hb_Z α ov A U H1 :=
  ⟨h.1, h.2.1.kept hq, h.2.2.1.kept hq, h.2.2.2.kept hq⟩
theorem hb_blind {sh : List hbS} {α : Nat → Nat} {D : va_G} {cI cZ cS : ClassId} {ov : Value} {A : Nat → Prop} {σ : hbM} {av : List Value} : FrameBlind (va_Pc av (hb_B sh α D cI cZ cS ov A σ)) := by
  intro a U g mk q
  obtain ⟨q0, qP, qK, qN, qZ⟩ := q
  refine ⟨q0, qP, va_K.moved (u := U) (U := U.calling g mk a) (Vm.Alike.refl U.vm) qK, fun w hw => ?_, ?_⟩
  · obtain ⟨o, i, y, hh, rfl⟩ := hb_nest_form hw
    exact va_Nw.same rfl (u := U) (U := U.calling g mk a) rfl (qN _ hw)
  · exact ⟨vk_R.same (u := U) (U := U.calling g mk a) rfl qZ.1, vk_S.moved (u := U) (U := U.calling g mk a) (Vm.Alike.refl U.vm) qZ.2.1, va_Z.moved (u := U) (U := U.calling g mk a) (Vm.Alike.refl U.vm) qZ.2.2.1, va_Z.moved (u := U) (U := U.calling g mk a) (Vm.Alike.refl U.vm) qZ.2.2.2⟩
theorem hb_arg_eq : ∀ (n : Nat) (acc stk as r : List Value), hb_arg n acc stk = some (as, r) → ∃ pre : List Value, stk = pre ++ r ∧ as = pre.reverse ++ acc ∧ pre.length = n
  | 0, acc, stk, as, r, h => by cases h; exact ⟨[], rfl, rfl, rfl⟩
  | n + 1, acc, [], as, r, h => by cases h
  | n + 1, acc, v :: stk, as, r, h => by
    obtain ⟨pre, h1, h2, h3⟩ := hb_arg_eq n (v :: acc) stk as r h
    exact ⟨v :: pre, by rw [h1]; rfl, by rw [h2]; simp, by simp [h3]⟩
theorem hb_arg_eq0 {n : Nat} {stk as r : List Value} (h : hb_arg n [] stk = some (as, r)) : stk = as.reverse ++ r ∧ as.length = n := by
  obtain ⟨pre, h1, h2, h3⟩ := hb_arg_eq n [] stk as r h
  rw [List.append_nil] at h2
  exact ⟨by rw [h2, List.reverse_reverse]; exact h1, by rw [h2, List.length_reverse]; exact h3⟩
theorem hb_sw_spec (x : Int32) (df : Nat) : ∀ (ts : List Nat) (lo : Int), -2147483648 ≤ lo → lo + (ts.length : Int) ≤ 2147483647 →
    ((x.toInt < lo ∨ lo + (ts.length : Int) ≤ x.toInt) → hb_sw x (Int32.ofInt lo) df ts = df) ∧ (lo ≤ x.toInt → x.toInt < lo + (ts.length : Int) → ts[(x.toInt - lo).toNat]? = some (hb_sw x (Int32.ofInt lo) df ts)) := by
  intro ts
  induction ts with
  | nil =>
    intro lo h1 h2
    refine ⟨fun _ => rfl, fun h3 h4 => ?_⟩
    simp at h4
    omega
  | cons t ts ih =>
    intro lo h1 h2
    simp only [List.length_cons, Int.natCast_add, Int.natCast_one] at h2 ⊢
    have hlo : (Int32.ofInt lo).toInt = lo := Int32.toInt_ofInt_of_le (by omega) (by omega)
    have e1 : Int32.ofInt lo + 1 = Int32.ofInt (lo + 1) := by
      rw [Int32.ofInt_add]; rfl
    obtain ⟨i1, i2⟩ := ih (lo + 1) (by omega) (by omega)
    simp only [hb_sw, e1]
    by_cases hx : x = Int32.ofInt lo
    · have hxl : x.toInt = lo := by rw [hx]; exact hlo
      rw [if_pos hx]
      refine ⟨fun h3 => by omega, fun _ _ => ?_⟩
      rw [hxl, Int.sub_self]
      rfl
    · have hxl : x.toInt ≠ lo := fun h3 => hx (by rw [← h3]; exact (Int32.ofInt_toInt x).symm)
      rw [if_neg hx]
      refine ⟨fun h3 => i1 (by omega), fun h3 h4 => ?_⟩
      have h5 := i2 (by omega) (by omega)
      rw [show (x.toInt - lo).toNat = (x.toInt - (lo + 1)).toNat + 1 by omega]
      exact h5
section
variable {p : Program} {l : Launch} {e : Env} {R : Room} {s : State} {m : MethodId} {args : Array Value} {below : List Frame} {meth : Method} {c : Code} {cells slots : Nat} {Q : State → Prop}
variable {sh : List hbS} {α : Nat → Nat} {D : va_G} {cI cZ cS : ClassId} {ov : Value} {A : Nat → Prop} {mi : Nat}
theorem hb_after {H : Heap} {locs : List Loc} {pc : Nat} {ls : Array Slot} {rest st0 : List Value} {r : Option Value} {σ1 : hbM} {a : Array Value} (hr : va_Run p l e R s m args below meth c H locs cells slots 0 0 (F0 m pc ls st0) rest (hb_Qc sh α D cI cZ cS ov A r σ1 a) A) (hS : va_S A s.heap H locs)
    (kk : ∀ (H1 : Heap) (locs1 : List Loc), va_P D hbCl (hb_w α cI cZ cS σ1 sh) H1 → va_S A s.heap H1 locs1 → W p l e R s m args below meth c H1 locs1 cells slots Q (F0 m (pc + 3) ls ((r.map (hb_val α ov)).toList ++ rest))) : W p l e R s m args below meth c H locs cells slots Q (F0 m pc ls st0) := by
  intro T hT X
  obtain ⟨v, st₀, t, T', L, h0, X', hL, e1, e2, ⟨hv, hp, hz, hk⟩, st⟩ := hr T hT X
  cases hv
  rw [h0] at hz hk
  obtain ⟨t2, a1, b1⟩ := kk T'.heap (locs ++ L) (by rw [e1]; exact hp)
    ⟨Nat.le_trans hS.1 (by rw [e1]; exact hz), fun q h1 h2 => by rw [e1, hk q (Nat.lt_of_lt_of_le h1 hS.1) h2]; exact hS.2.1 q h1 h2, fun q hq => by
      rcases List.mem_append.mp hq with h | h
      · exact hS.2.2 q h
      · exact hL q h⟩ T' rfl X'
  exact ⟨t2, st t2 a1, b1⟩
theorem hb_preB (C : hb_Cx p s m args c sh α D cI cZ cS ov A mi) {H : Heap} {locs : List Loc} {σ : hbM} (hP : va_P D hbCl (hb_w α cI cZ cS σ sh) H) (hS : va_S A s.heap H locs) (U : State) (hU : U.heap = H) (hW : s.WarmedH U.vm) : hb_B sh α D cI cZ cS ov A σ U := by
  obtain ⟨hX, hB, hml, hown, hts, hK, hN, hZ, hinj, hA, ho⟩ := C
  refine ⟨by rw [hU]; exact hP, va_K.moved hW.alike hK, fun w hw => ?_, ?_⟩
  · obtain ⟨o, i, y, hh, rfl⟩ := hb_nest_form hw
    exact va_Nw.warmM hW (hN _ hw)
  · rw [hU]
    exact (hZ.kept hS.2.1).moved hW
theorem hb_good_wsm {a : Nat} (ha : a < 207) : GoodIn hbTB (hb_wsm a) := by
  intro w hw
  rcases List.mem_cons.mp hw with rfl | h
  · exact hb_TB_good _ (hb_mt_words ha).1
  · exact hb_TB_good _ h
theorem hb_roomok {a : Nat} (ha : a < 207) (hl : hb_lv a < hb_lv mi) (hRf : hb_lv mi ≤ R.frames) (hRl : 60 * hb_lv mi ≤ R.locals) : (hb_rm (hb_lv a)).frames + 1 ≤ R.frames ∧ 8 + ((hb_mt a).2.2.1 + 11) + (hb_rm (hb_lv a)).locals ≤ R.locals := by
  have h1 := (hb_mt_y ha).2.2.2.2
  simp only [hb_rm]
  omega
set_option maxHeartbeats 4000000 in
theorem hb_callV (C : hb_Cx p s m args c sh α D cI cZ cS ov A mi) {pc i a d : Nat} {as rest loc : List Value} {v : Value} {r : Option Value} {σ σ1 : hbM} (hdg : decode (hb_mt mi).2.1 pc = .ok (.invokevirtual i, 3)) (ha : a < 207) (hn : as.length = (hb_mt a).2.2.2.2.2.1) (hst : (hb_mt a).2.2.2.2.2.2 = false) (hml : hb_mla (hb_mt mi).2.2.2.2.1 i a = true)
    (hd : (match d with
      | 2 => (hb_mt a).2.2.2.2.1 == 15
      | _ => decide ((hb_mt a).2.2.2.2.1 < 13)) = true) (hrc : hb_rcv sh d v (hb_mt a).2.2.2.2.1 = true) (hct : hb_cat rest ≤ 8) (hl : hb_lv a < hb_lv mi) (hRf : hb_lv mi ≤ R.frames) (hRl : 60 * hb_lv mi ≤ R.locals) (hcells : cells ≤ R.cells) (hslots : slots ≤ R.slots)
    (hR : hb_Ret l sh α D cI cZ cS ov A a (v :: as) σ r σ1) (k : hb_AW p l e R s m args below meth c cells slots Q sh α D cI cZ cS ov A mi (pc + 3, loc, r.toList ++ rest, σ1)) : hb_AW p l e R s m args below meth c cells slots Q sh α D cI cZ cS ov A mi (pc, loc, as.reverse ++ v :: rest, σ) := by
  intro H locs ls hP hS hlr
  dsimp only at hP hlr ⊢
  have hpre := fun U => hb_preB C hP hS U
  obtain ⟨hX, hB, hmL, hown, hts, hK, hN, hZ, hinj, hA, ho⟩ := C
  obtain ⟨hw1, hw2, -, hw4⟩ := hb_mt_words ha
  obtain ⟨hw5, hw6⟩ := hw4 hst
  obtain ⟨hy1, hy2, hy3, hy4, hy5⟩ := hb_mt_y ha
  have hrecv : ∃ c0, v = .ref c0 ∧ ∃ cell : Cell, H[α c0]? = some cell ∧ cell.vm.isStatics = false ∧ s.vm.findClass (hb_mt a).1.cls = some cell.cls := by
    cases v with
    | ref c0 =>
      refine ⟨c0, rfl, ?_⟩
      by_cases hd2 : d = 2
      · subst hd2
        simp only [hb_rcv, beq_iff_eq] at hrc hd
        subst hrc
        rw [hy1, hd]
        exact vk_recv (i := 0) (adK := fun _ => α 1000) hZ.2.1 (by decide) hS
      · have hd' : (hb_mt a).2.2.2.2.1 < 13 := by
          split at hd
          · exact absurd rfl hd2
          · simpa using hd
        have hrc' : ∃ fs, sh[c0]? = some (0, (hb_mt a).2.2.2.2.1, fs) := by
          simp only [hb_rcv] at hrc
          cases hs : sh[c0]? with
          | none => rw [hs] at hrc; cases hrc
          | some q =>
            rw [hs] at hrc
            split at hrc
            · rename_i cj fs he
              cases he
              have : cj = (hb_mt a).2.2.2.2.1 := by simpa using hrc
              subst this
              exact ⟨_, rfl⟩
            · cases hrc
        obtain ⟨fs, hs⟩ := hrc'
        obtain ⟨q, hq⟩ : ∃ q, hbCl[(hb_mt a).2.2.2.2.1]? = some q := ⟨_, List.getElem?_eq_getElem hd'⟩
        have hqn : q.1 = hbOwn (hb_mt a).2.2.2.2.1 := by
          have := hb_own_cl _ hd'
          rw [hq] at this
          exact Option.some.inj this
        have := va_recv hK hP hq (hb_w_at hs)
        rw [hqn] at this
        rw [hy1]
        exact this
    | int _ => cases hrc
    | long _ => cases hrc
    | float _ => cases hrc
    | double _ => cases hrc
    | null => cases hrc
    | retAddr _ => cases hrc
  obtain ⟨c0, rfl, hrecv⟩ := hrecv
  have hT : GoodIn hbTB (wsV (hbOwn (hb_mt mi).2.2.2.2.1) i (hb_mt a).1.cls (hb_mt a).1 (hb_wsm a)) := by
    intro w hw
    rcases List.mem_append.mp hw with h | h
    · simp only [List.mem_cons, List.not_mem_nil, or_false] at h
      rcases h with rfl | rfl | rfl | rfl
      · exact hb_TB_good _ (hb_mla_w hml ha)
      · exact hb_TB_good _ hw5
      · exact hb_TB_good _ hw6
      · exact hb_TB_good _ hw2
    · exact hb_good_wsm ha w h
  have hrun := va_runV (H := H) (locs := locs) (cells := cells) (slots := slots) (e := e) (R := R) (below := below) (meth := meth) (b := α c0) (As := as.map (hb_val α ov)) (rest := rest.map (hb_val α ov)) (g := F0 m pc ls ((as.reverse ++ .ref c0 :: rest).map (hb_val α ov)))
    ⟨hX, hB, hmL, hown, hts⟩ hR (cwV (hb_mt a).2.2.2.2.2.1 hts hT rfl rfl rfl ⟨rfl, hy3.1, hy3.2, hy4⟩ (hb_roomok ha hl hRf hRl)) ⟨hb_blind, hrecv, fun U hU hW => ⟨rfl, hpre U hU hW⟩⟩ rfl (by rw [List.length_map]; exact hn) hlr.2.1 (by simp [List.map_reverse, hb_val]) (lv_room (by rw [hb_cat_sum ho]; exact hct)) hdg ⟨hcells, hslots⟩
  refine hb_after hrun hS (fun H1 locs1 hP1 hS1 => ?_)
  have k1 := k H1 locs1 ls hP1 hS1 hlr
  dsimp only at k1
  rw [List.map_append] at k1
  cases r <;> exact k1
set_option maxHeartbeats 4000000 in
theorem hb_callS (C : hb_Cx p s m args c sh α D cI cZ cS ov A mi) {pc i a d : Nat} {as rest loc : List Value} {r : Option Value} {σ σ1 : hbM} (hdg : decode (hb_mt mi).2.1 pc = .ok (.invokestatic i, 3)) (ha : a < 207) (hn : as.length = (hb_mt a).2.2.2.2.2.1) (hst : (hb_mt a).2.2.2.2.2.2 = true)
    (hml : hb_mla (hb_mt mi).2.2.2.2.1 i a = true ∨ hb_mna (hb_mt mi).2.2.2.2.1 i a = true) (hct : hb_cat rest ≤ 8) (hl : hb_lv a < hb_lv mi) (hRf : hb_lv mi ≤ R.frames) (hRl : 60 * hb_lv mi ≤ R.locals) (hcells : cells ≤ R.cells) (hslots : slots ≤ R.slots)
    (hR : hb_Ret l sh α D cI cZ cS ov A a as σ r σ1) (k : hb_AW p l e R s m args below meth c cells slots Q sh α D cI cZ cS ov A mi (pc + 3, loc, r.toList ++ rest, σ1)) : hb_AW p l e R s m args below meth c cells slots Q sh α D cI cZ cS ov A mi (pc, loc, as.reverse ++ rest, σ) := by
  intro H locs ls hP hS hlr
  dsimp only at hP hlr ⊢
  have hpre := fun U => hb_preB C hP hS U
  obtain ⟨hX, hB, hmL, hown, hts, hK, hN, hZ, hinj, hA, ho⟩ := C
  obtain ⟨hw1, hw2, hw3, -⟩ := hb_mt_words ha
  have hw3 := hw3 hst
  obtain ⟨hy1, hy2, hy3, hy4, hy5⟩ := hb_mt_y ha
  have hrun : va_Run p l e R s m args below meth c H locs cells slots 0 0 (F0 m pc ls ((as.reverse ++ rest).map (hb_val α ov))) (rest.map (hb_val α ov)) (hb_Qc sh α D cI cZ cS ov A r σ1 (as.map (hb_val α ov)).toArray) A := by
    rcases hml with hml | hml
    · have hT : GoodIn hbTB (va_wsS (hbOwn (hb_mt mi).2.2.2.2.1) i (hb_mt a).1 (hb_wsm a)) := by
        intro w hw
        rcases List.mem_append.mp hw with h | h
        · simp only [List.mem_cons, List.not_mem_nil, or_false] at h
          rcases h with rfl | rfl | rfl
          · exact hb_TB_good _ (hb_mla_w hml ha)
          · exact hb_TB_good _ hw3
          · exact hb_TB_good _ hw2
        · exact hb_good_wsm ha w h
      exact va_runS ⟨hX, hB, hmL, hown, hts⟩ hR (va_cwS (hb_mt a).2.2.2.2.2.1 hts hT rfl rfl rfl ⟨hy3.1, hy3.2, hy4⟩ (hb_roomok ha hl hRf hRl)) ⟨hb_blind, fun U hU hW => ⟨rfl, hpre U hU hW⟩⟩ rfl (by rw [List.length_map]; exact hn) hlr.2.1 (by simp [List.map_reverse]) (lv_room (by rw [hb_cat_sum ho]; exact hct)) hdg ⟨hcells, hslots⟩
    · have hnw : va_Nw (.methodLinkNest (hbOwn (hb_mt mi).2.2.2.2.1) i (hb_mt a).1 "HandBook") s := by
        obtain ⟨q, hq, h1⟩ := List.any_eq_true.mp hml
        simp only [Bool.and_eq_true, beq_iff_eq] at h1
        obtain ⟨e1, e2, e3⟩ := h1
        have := hN _ (List.mem_map.mpr ⟨q, hq, rfl⟩)
        rw [e1, e2, e3] at this
        exact this
      exact va_runSN ⟨hX, hB, hmL, hown, hts⟩ hR ⟨va_cnB (hb_mt a).2.2.2.2.2.1 hts (hb_good_wsm ha) rfl rfl rfl hnw (hts _ hw2) ⟨hy3.1, hy3.2, hy4⟩ (hb_roomok ha hl hRf hRl), hts _ hw3, trivial⟩ ⟨hb_blind, fun U hU hW => ⟨rfl, hpre U hU hW⟩⟩ rfl (by rw [List.length_map]; exact hn) hlr.2.1 (by simp [List.map_reverse]) (lv_room (by rw [hb_cat_sum ho]; exact hct)) hdg ⟨hcells, hslots⟩
  refine hb_after hrun hS (fun H1 locs1 hP1 hS1 => ?_)
  have k1 := k H1 locs1 ls hP1 hS1 hlr
  dsimp only at k1
  rw [List.map_append] at k1
  cases r <;> exact k1
end
end
section
/-! a step, an end, a whole method -/
section
variable {p : Program} {l : Launch} {e : Env} {R : Room} {s : State} {m : MethodId} {args : Array Value} {below : List Frame} {meth : Method} {c : Code} {cells slots : Nat} {Q : State → Prop}
variable {sh : List hbS} {α : Nat → Nat} {D : va_G} {cI cZ cS : ClassId} {ov : Value} {A : Nat → Prop} {mi : Nat}
theorem hb_plain_inv {r : hbR} {pc : Nat} {loc stk : List Value} {σ : hbM} {q : hbT ⊕ hbO} {cal : Nat → List Value → hbM → Option hbO} (hf : hb_fetch mi pc = some r) (hp : hb_pl r = true) (h1 : hb_1 sh cal mi (pc, loc, stk, σ) = some q) : ∃ gs loc' stk' σ', hb_x sh r loc stk σ = some (gs, loc', stk', σ') ∧ gs.all id = true ∧ q = .inl (pc + r.2.1, loc', stk', σ') := by
  rw [hb_1_plain hf hp] at h1
  cases hx : hb_x sh r loc stk σ with
  | none => rw [hx] at h1; cases h1
  | some y =>
    obtain ⟨gs, loc', stk', σ'⟩ := y
    rw [hx] at h1
    dsimp only at h1
    split at h1
    · rename_i hg
      exact ⟨gs, loc', stk', σ', rfl, hg, (Option.some.inj h1).symm⟩
    · cases h1
set_option maxHeartbeats 4000000 in
theorem hb_s1 (C : hb_Cx p s m args c sh α D cI cZ cS ov A mi) {pc : Nat} {loc stk : List Value} {σ : hbM} {st' : hbT} (hlv : 1 ≤ hb_lv mi) (hRf : hb_lv mi ≤ R.frames) (hRl : 60 * hb_lv mi ≤ R.locals) (hcells : cells ≤ R.cells) (hslots : slots ≤ R.slots)
    (hcal : ∀ a as σ v σ', hb_lv a < hb_lv mi → hb_ev sh a as σ = some (v, σ') → hb_Ret l sh α D cI cZ cS ov A a as σ v σ')
    (h1 : hb_1 sh (hb_cal sh mi) mi (pc, loc, stk, σ) = some (.inl st')) (k : hb_AW p l e R s m args below meth c cells slots Q sh α D cI cZ cS ov A mi st') : hb_AW p l e R s m args below meth c cells slots Q sh α D cI cZ cS ov A mi (pc, loc, stk, σ) := by
  cases hf : hb_fetch mi pc with
  | none => simp only [hb_1, hf] at h1; cases h1
  | some r =>
    have hr := hb_rows_ok hf
    by_cases hp : hb_pl r = true
    · obtain ⟨gs, loc', stk', σ', hx, hg, e1⟩ := hb_plain_inv hf hp h1
      cases e1
      exact hb_sx C hr hx hg (by omega) (by omega) k
    · obtain ⟨op, len, a, b, d, z, w⟩ := r
      obtain ⟨hdg, hok⟩ := hr
      dsimp only at hdg hok
      simp only [hb_1, hf] at h1
      cases op with
      | goto o =>
        cases h1
        simp only [hb_opok, Bool.and_eq_true, beq_iff_eq, decide_eq_true_eq] at hok
        obtain ⟨rfl, ht⟩ := hok
        obtain ⟨hX, hB, -⟩ := C
        intro H locs ls hP hS hl
        exact lv_goto hX hB hdg ht (k H locs ls hP hS hl)
      | ifCond kc o =>
        simp only [hb_opok, Bool.and_eq_true, beq_iff_eq, decide_eq_true_eq] at hok
        obtain ⟨rfl, ht⟩ := hok
        obtain ⟨hX, hB, -⟩ := C
        dsimp only at h1
        split at h1
        · rename_i x t
          cases h1
          have kt : hb_cmp kc x 0 = true → hb_AW p l e R s m args below meth c cells slots Q sh α D cI cZ cS ov A mi (a, loc, t, σ) := fun h => by rw [if_pos h] at k; exact k
          have kf : ¬ hb_cmp kc x 0 = true → hb_AW p l e R s m args below meth c cells slots Q sh α D cI cZ cS ov A mi (pc + 3, loc, t, σ) := fun h => by rw [if_neg h] at k; exact k
          intro H locs ls hP hS hl
          cases kc with
          | eq => exact lv_if_eq hX hB hdg ht (fun hc => kt (decide_eq_true hc) H locs ls hP hS hl) (fun hc => kf (fun q => hc (of_decide_eq_true q)) H locs ls hP hS hl)
          | ne => exact lv_if_ne hX hB hdg ht (fun hc => kt (decide_eq_true hc) H locs ls hP hS hl) (fun hc => kf (fun q => (of_decide_eq_true q) hc) H locs ls hP hS hl)
          | lt => exact lv_if_lt hX hB hdg ht (fun hc => kt (decide_eq_true hc) H locs ls hP hS hl) (fun hc => kf (fun q => hc (of_decide_eq_true q)) H locs ls hP hS hl)
          | ge => exact lv_if_ge hX hB hdg ht (fun hc => kt (decide_eq_true hc) H locs ls hP hS hl) (fun hc => kf (fun q => hc (of_decide_eq_true q)) H locs ls hP hS hl)
          | gt => exact lv_if_gt hX hB hdg ht (fun hc => kt (decide_eq_true hc) H locs ls hP hS hl) (fun hc => kf (fun q => hc (of_decide_eq_true q)) H locs ls hP hS hl)
          | le => exact lv_if_le hX hB hdg ht (fun hc => kt (decide_eq_true hc) H locs ls hP hS hl) (fun hc => kf (fun q => hc (of_decide_eq_true q)) H locs ls hP hS hl)
        · cases h1
      | if_icmp kc o =>
        simp only [hb_opok, Bool.and_eq_true, beq_iff_eq, decide_eq_true_eq] at hok
        obtain ⟨rfl, ht⟩ := hok
        obtain ⟨hX, hB, -⟩ := C
        dsimp only at h1
        split at h1
        · rename_i y x t
          cases h1
          have kt : hb_cmp kc x y = true → hb_AW p l e R s m args below meth c cells slots Q sh α D cI cZ cS ov A mi (a, loc, t, σ) := fun h => by rw [if_pos h] at k; exact k
          have kf : ¬ hb_cmp kc x y = true → hb_AW p l e R s m args below meth c cells slots Q sh α D cI cZ cS ov A mi (pc + 3, loc, t, σ) := fun h => by rw [if_neg h] at k; exact k
          intro H locs ls hP hS hl
          cases kc with
          | eq => exact lv_icmp_eq hX hB hdg ht (fun hc => kt (decide_eq_true hc) H locs ls hP hS hl) (fun hc => kf (fun q => hc (of_decide_eq_true q)) H locs ls hP hS hl)
          | ne => exact lv_icmp_ne hX hB hdg ht (fun hc => kt (decide_eq_true hc) H locs ls hP hS hl) (fun hc => kf (fun q => (of_decide_eq_true q) hc) H locs ls hP hS hl)
          | lt => exact lv_icmp_lt hX hB hdg ht (fun hc => kt (decide_eq_true hc) H locs ls hP hS hl) (fun hc => kf (fun q => hc (of_decide_eq_true q)) H locs ls hP hS hl)
          | ge => exact lv_icmp_ge hX hB hdg ht (fun hc => kt (decide_eq_true hc) H locs ls hP hS hl) (fun hc => kf (fun q => hc (of_decide_eq_true q)) H locs ls hP hS hl)
          | gt => exact lv_icmp_gt hX hB hdg ht (fun hc => kt (decide_eq_true hc) H locs ls hP hS hl) (fun hc => kf (fun q => hc (of_decide_eq_true q)) H locs ls hP hS hl)
          | le => exact lv_icmp_le hX hB hdg ht (fun hc => kt (decide_eq_true hc) H locs ls hP hS hl) (fun hc => kf (fun q => hc (of_decide_eq_true q)) H locs ls hP hS hl)
        · cases h1
      | tableswitch df lo hi offs =>
        simp only [hb_opok, Bool.and_eq_true, decide_eq_true_eq, List.all_eq_true] at hok
        obtain ⟨ok1, ok2, ok3, ok4, ok5⟩ := hok
        obtain ⟨hX, hB, -⟩ := C
        dsimp only at h1
        split at h1
        · rename_i x t
          cases h1
          have hlen : ((offs.toList.map (hb_tgt pc)).length : Int) = (offs.size : Int) := by simp
          obtain ⟨s1, s2⟩ := hb_sw_spec x (hb_tgt pc df) (offs.toList.map (hb_tgt pc)) lo ok4 (by rw [hlen]; omega)
          rw [hlen] at s1 s2
          intro H locs ls hP hS hl
          have k1 := k H locs ls hP hS hl
          dsimp only at k1 ⊢
          by_cases hout : x.toInt < lo ∨ hi < x.toInt
          · rw [s1 (by omega)] at k1
            refine lv_tableOut hX hB hdg hout (tgt := hb_tgt pc df) ?_ k1
            unfold hb_tgt
            omega
          · have hin1 : lo ≤ x.toInt := by omega
            have s3 := s2 hin1 (by omega)
            rw [List.getElem?_map] at s3
            cases ho2 : offs.toList[(x.toInt - lo).toNat]? with
            | none => rw [ho2] at s3; cases s3
            | some off =>
              rw [ho2] at s3
              have s4 : hb_tgt pc off = hb_sw x (Int32.ofInt lo) (hb_tgt pc df) (offs.toList.map (hb_tgt pc)) := Option.some.inj s3
              rw [← s4] at k1
              have hoff : offs[(x.toInt - lo).toNat]? = some off := by rw [← ho2]; simp
              have hnn := ok2 off (List.mem_of_getElem? ho2)
              refine lv_tableIn hX hB hdg (by omega) (by omega) hoff (tgt := hb_tgt pc off) ?_ k1
              unfold hb_tgt
              omega
        · cases h1
      | invokevirtual i =>
        simp only [hb_opok, Bool.and_eq_true, beq_iff_eq, decide_eq_true_eq, Bool.not_eq_true'] at hok
        obtain ⟨rfl, ha, hb0, hst, hml, hd⟩ := hok
        dsimp only at h1
        split at h1
        · rename_i as v rest harg
          split at h1
          · rename_i hc
            obtain ⟨hs1, hs2⟩ := hb_arg_eq0 harg
            subst hs1
            cases hcv : hb_cal sh mi a (v :: as) σ with
            | none => rw [hcv] at h1; cases h1
            | some q =>
              obtain ⟨r, σ1⟩ := q
              rw [hcv] at h1
              cases h1
              unfold hb_cal at hcv
              split at hcv
              · rename_i hl
                exact hb_callV C hdg ha (hs2.trans hb0) hst hml hd hc.1 hc.2 hl hRf hRl hcells hslots (hcal a _ σ r σ1 hl hcv) k
              · cases hcv
          · cases h1
        · cases h1
      | invokestatic i =>
        have hd3 : d ≠ 3 := fun h => hp (by subst h; rfl)
        simp only [hb_opok, Bool.and_eq_true, beq_iff_eq] at hok
        obtain ⟨rfl, hok⟩ := hok
        have hok' : a < 207 ∧ b = (hb_mt a).2.2.2.2.2.1 ∧ (hb_mt a).2.2.2.2.2.2 = true ∧ (hb_mla (hb_mt mi).2.2.2.2.1 i a = true ∨ hb_mna (hb_mt mi).2.2.2.2.1 i a = true) := by
          split at hok
          · exact absurd rfl hd3
          · simp only [Bool.and_eq_true, beq_iff_eq, decide_eq_true_eq] at hok
            exact ⟨by omega, hok.2.1, hok.2.2.1, Or.inr hok.2.2.2⟩
          · simp only [Bool.and_eq_true, beq_iff_eq, decide_eq_true_eq] at hok
            exact ⟨hok.1, hok.2.1, hok.2.2.1, Or.inl hok.2.2.2⟩
        obtain ⟨ha, hb0, hst, hml⟩ := hok'
        dsimp only at h1
        split at h1
        · exact absurd rfl hd3
        · split at h1
          · rename_i as rest harg
            split at h1
            · rename_i hc
              obtain ⟨hs1, hs2⟩ := hb_arg_eq0 harg
              subst hs1
              cases hcv : hb_cal sh mi a as σ with
              | none => rw [hcv] at h1; cases h1
              | some q =>
                obtain ⟨r, σ1⟩ := q
                rw [hcv] at h1
                cases h1
                unfold hb_cal at hcv
                split at hcv
                · rename_i hl
                  exact hb_callS (d := d) C hdg ha (hs2.trans hb0) hst hml hc hl hRf hRl hcells hslots (hcal a _ σ r σ1 hl hcv) k
                · cases hcv
            · cases h1
          · cases h1
      | ireturn =>
        dsimp only at h1
        revert h1
        (repeat' split) <;> intro h1 <;> cases h1
      | lreturn =>
        dsimp only at h1
        revert h1
        (repeat' split) <;> intro h1 <;> cases h1
      | return_ =>
        dsimp only at h1
        revert h1
        (repeat' split) <;> intro h1 <;> cases h1
      | _ => exact absurd rfl hp
set_option maxHeartbeats 4000000 in
/-- an end -/
theorem hb_s2 (C : hb_Cx p s m args c sh α D cI cZ cS ov A mi) (hlocks : meth.locks = false) (hret : meth.sig.returnType = (hb_mt mi).2.2.2.1) {pc : Nat} {loc stk : List Value} {σ σ' : hbM} {v : Option Value} {cal : Nat → List Value → hbM → Option hbO}
    (h1 : hb_1 sh cal mi (pc, loc, stk, σ) = some (.inr (v, σ'))) : hb_AW p l e R s m args below meth c cells slots (MQ below (hb_Qc sh α D cI cZ cS ov A v σ') args s cells slots A) sh α D cI cZ cS ov A mi (pc, loc, stk, σ) := by
  cases hf : hb_fetch mi pc with
  | none => simp only [hb_1, hf] at h1; cases h1
  | some r =>
    have hr := hb_rows_ok hf
    by_cases hp : hb_pl r = true
    · obtain ⟨gs, loc', stk', σ', hx, hg, e1⟩ := hb_plain_inv hf hp h1
      cases e1
    · obtain ⟨op, len, a, b, d, z, w⟩ := r
      obtain ⟨hdg, hok⟩ := hr
      dsimp only at hdg hok
      simp only [hb_1, hf] at h1
      obtain ⟨hX, hB, -⟩ := C
      cases op with
      | ireturn =>
        simp only [hb_opok, Bool.and_eq_true, beq_iff_eq] at hok
        obtain ⟨rfl, hok⟩ := hok
        dsimp only at h1
        split at h1
        · rename_i x
          have key : v = some (.int x) ∧ σ' = σ ∧ ∃ ty, meth.sig.returnType = some ty ∧ narrow ty (.int x) = .int x := by
            split at h1
            · cases h1
              have hok : (hb_mt mi).2.2.2.1 = some .int := by simpa using hok
              exact ⟨rfl, rfl, .int, by rw [hret]; exact hok, rfl⟩
            · split at h1
              · rename_i hx
                cases h1
                have hok : (hb_mt mi).2.2.2.1 = some .boolean := by simpa using hok
                exact ⟨rfl, rfl, .boolean, by rw [hret]; exact hok, (hb_01_nar hx).1⟩
              · cases h1
            · split at h1
              · rename_i hx
                cases h1
                rename_i n0 n1
                obtain ⟨ty, hty⟩ : ∃ ty, (hb_mt mi).2.2.2.1 = some ty := by
                  cases hq : (hb_mt mi).2.2.2.1 with
                  | some ty => exact ⟨ty, rfl⟩
                  | none =>
                    rw [hq] at hok
                    split at hok
                    · exact absurd rfl n0
                    · exact absurd rfl n1
                    · cases hok
                rw [hty] at hx
                exact ⟨rfl, rfl, ty, by rw [hret]; exact hty, hx⟩
              · cases h1
          obtain ⟨rfl, rfl, ty, hty, hnr⟩ := key
          intro H locs ls hP hS hl
          exact W.zret hX hB hty hnr (fun t ht hW => ⟨rfl, by rw [ht]; exact hP, hS.F ht⟩) hS.2.2 hdg hlocks
        · cases h1
      | lreturn =>
        simp only [hb_opok, Bool.and_eq_true, beq_iff_eq, decide_eq_true_eq] at hok
        obtain ⟨rfl, hok⟩ := hok
        dsimp only at h1
        split at h1
        · cases h1
          intro H locs ls hP hS hl
          exact W.lret hX hB (by rw [hret]; exact hok) (fun t ht hW => ⟨rfl, by rw [ht]; exact hP, hS.F ht⟩) hS.2.2 hdg hlocks
        · cases h1
      | return_ =>
        simp only [hb_opok, Bool.and_eq_true, beq_iff_eq, decide_eq_true_eq] at hok
        obtain ⟨rfl, hok⟩ := hok
        dsimp only at h1
        split at h1
        · cases h1
          intro H locs ls hP hS hl
          exact W.vret hX hB (by rw [hret]; exact hok) (fun t ht hW => ⟨rfl, by rw [ht]; exact hP, hS.F ht⟩) hS.2.2 hdg hlocks
        · cases h1
      | goto o => cases h1
      | ifCond kc o =>
        dsimp only at h1
        revert h1
        (repeat' split) <;> intro h1 <;> cases h1
      | if_icmp kc o =>
        dsimp only at h1
        revert h1
        (repeat' split) <;> intro h1 <;> cases h1
      | tableswitch df lo hi offs =>
        dsimp only at h1
        revert h1
        (repeat' split) <;> intro h1 <;> cases h1
      | invokevirtual i =>
        dsimp only at h1
        revert h1
        simp only [hb_ret]
        (repeat' split) <;> intro h1 <;> cases h1
      | invokestatic i =>
        dsimp only at h1
        revert h1
        simp only [hb_ret]
        (repeat' split) <;> intro h1 <;> cases h1
      | _ => exact absurd rfl hp
theorem hb_run_AW (C : hb_Cx p s m args c sh α D cI cZ cS ov A mi) (hlv : 1 ≤ hb_lv mi) (hRf : hb_lv mi ≤ R.frames) (hRl : 60 * hb_lv mi ≤ R.locals) (hcells : cells ≤ R.cells) (hslots : slots ≤ R.slots)
    (hcal : ∀ a as σ v σ', hb_lv a < hb_lv mi → hb_ev sh a as σ = some (v, σ') → hb_Ret l sh α D cI cZ cS ov A a as σ v σ')
    (hlocks : meth.locks = false) (hret : meth.sig.returnType = (hb_mt mi).2.2.2.1) {st : hbT} {σ' : hbM} {v : Option Value} (h : hb_run sh mi st = some (v, σ')) : hb_AW p l e R s m args below meth c cells slots (MQ below (hb_Qc sh α D cI cZ cS ov A v σ') args s cells slots A) sh α D cI cZ cS ov A mi st := by
  obtain ⟨n, hn⟩ := hb_lim_iff.mp h
  clear h
  induction n generalizing st with
  | zero => simp [hb_it] at hn
  | succ n ih =>
    simp only [hb_it] at hn
    obtain ⟨pc, loc, stk, σ⟩ := st
    cases h1 : hb_1 sh (hb_cal sh mi) mi (pc, loc, stk, σ) with
    | none => rw [h1] at hn; cases hn
    | some q =>
      rw [h1] at hn
      cases q with
      | inl st' => exact hb_s1 C hlv hRf hRl hcells hslots hcal h1 (ih hn)
      | inr r =>
        cases hn
        exact hb_s2 C hlocks hret h1
end
/-- THE SMALL MACHINE'S ANSWER IS THE MACHINE'S -/
theorem hb_sound {l : Launch} {sh : List hbS} {α : Nat → Nat} {D : va_G} {cI cZ cS : ClassId} {ov : Value} {A : Nat → Prop} (hinj : hb_inj α sh.length) (hA : ∀ c, c < sh.length → A (α c)) (ho : ov.category = 1) (hall : ∀ m, 1 ≤ hb_lv m → m < 207) :
    ∀ (n m : Nat) (as : List Value) (σ : hbM) (v : Option Value) (σ' : hbM), hb_lv m < n → 1 ≤ hb_lv m → hb_ev sh m as σ = some (v, σ') → hb_Ret l sh α D cI cZ cS ov A m as σ v σ' := by
  intro n
  induction n with
  | zero => intro m as σ v σ' h; omega
  | succ n ih =>
    intro m as σ v σ' hlt hlv hev
    rw [hb_ev_if] at hev
    split at hev
    · rename_i hlen
      have hm := hall m hlv
      obtain ⟨hy1, hy2, hy3, hy4, hy5⟩ := hb_mt_y hm
      refine va_MetF (cc := (hb_mt m).2.1) (maxL := (hb_mt m).2.2.1) (ret := (hb_mt m).2.2.2.1) hy2 rfl ?_
      intro p e s mm args below meth c s₁ B hml hv
      obtain ⟨rfl, hP, hK, hN, hZ⟩ := hv
      have hts : ∀ w ∈ hbTB, w.before (as.map (hb_val α ov)).toArray s = true := fun w hw => atoms_spec (ws := hb_wsm m) B.pre w (List.mem_cons_of_mem _ hw)
      have hown : s.vm.findClass (hbOwn (hb_mt m).2.2.2.2.1) = some mm.cls := by rw [← hy1]; exact findClass_of_methodNamed B.named
      have C : hb_Cx p s mm (as.map (hb_val α ov)).toArray c sh α D cI cZ cS ov A m := ⟨B.exec, B.bytes, hml, hown, hts, hK, hN, hZ, hinj, hA, ho⟩
      rw [lg_entry_eq]
      have hcal : ∀ a as σ v σ', hb_lv a < hb_lv m → hb_ev sh a as σ = some (v, σ') → hb_Ret l sh α D cI cZ cS ov A a as σ v σ' := by
        intro a as σ v σ' h1 h2
        by_cases h0 : 1 ≤ hb_lv a
        · exact ih a as σ v σ' (by omega) h0 h2
        · exfalso
          have hz : hb_code a = [] := by
            by_cases ha : a < 207
            · have : (List.range 207).all (fun a => decide (1 ≤ hb_lv a)) = true := by decide +kernel
              have := List.all_eq_true.mp this a (List.mem_range.mpr ha)
              simp only [decide_eq_true_eq] at this
              exact absurd this h0
            · have hl : hbKs.length = 207 := by decide +kernel
              unfold hb_code
              rw [List.getD_eq_getElem?_getD, List.getElem?_eq_none (by omega)]
              rfl
          rw [hb_ev_if] at h2
          split at h2
          · rw [show hb_run sh a (0, hb_start a as, [], σ) = none from hb_lim_n (by simp only [hb_1, hb_fetch, hz, List.lookup])] at h2
            cases h2
          · cases h2
      exact hb_run_AW (R := (headSpec (hb_wsm m) (hb_rm (hb_lv m))).room) C hlv (Nat.le_refl _) (Nat.le_refl _) (Nat.le_refl 0) (Nat.le_refl 0) hcal B.notSynchronized B.returns hev s.heap [] _ hP va_S.rf (hb_entry ho hlen)
    · cases hev
end
