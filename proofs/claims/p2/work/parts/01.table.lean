-- ===== PART A: goes FIRST, ahead of the names: the tables' words, and 'selects' of the private methods out of them =====
/-- a private method of a class that the tables say can be made, by its rows of tables_1 -/
def lw_okq (q : MethodName × Nat) : Prop := (q.1.cls ≠ "java/lang/invoke/MethodHandle" ∧ q.1.cls ≠ "java/lang/invoke/VarHandle") ∧ Cond.instantiable q.1.cls q.2 ∈ tables_1 ∧ Cond.privateMethod q.1 ∈ tables_1 ∧ Cond.instanceMethod q.1 ∈ tables_1
theorem lw_p0 : lw_okq (⟨"HintTeam$Reader", "readStatement", "()V"⟩, 9) := ⟨⟨by decide +kernel, by decide +kernel⟩, List.mem_of_getElem? (i := 33) (by decide +kernel), List.mem_of_getElem? (i := 400) (by decide +kernel), List.mem_of_getElem? (i := 401) (by decide +kernel)⟩
theorem lw_p1 : lw_okq (⟨"HintTeam$Reader", "skipSpaces", "()V"⟩, 9) := ⟨⟨by decide +kernel, by decide +kernel⟩, List.mem_of_getElem? (i := 33) (by decide +kernel), List.mem_of_getElem? (i := 404) (by decide +kernel), List.mem_of_getElem? (i := 405) (by decide +kernel)⟩
theorem lw_p2 : lw_okq (⟨"HintTeam$Reader", "signAt", "(I)I"⟩, 9) := ⟨⟨by decide +kernel, by decide +kernel⟩, List.mem_of_getElem? (i := 33) (by decide +kernel), List.mem_of_getElem? (i := 408) (by decide +kernel), List.mem_of_getElem? (i := 409) (by decide +kernel)⟩
theorem lw_p3 : lw_okq (⟨"HintTeam$Reader", "skipLetters", "()V"⟩, 9) := ⟨⟨by decide +kernel, by decide +kernel⟩, List.mem_of_getElem? (i := 33) (by decide +kernel), List.mem_of_getElem? (i := 412) (by decide +kernel), List.mem_of_getElem? (i := 413) (by decide +kernel)⟩
theorem lw_p4 : lw_okq (⟨"HintTeam$Reader", "isWord", "(Ljava/lang/String;I)Z"⟩, 9) := ⟨⟨by decide +kernel, by decide +kernel⟩, List.mem_of_getElem? (i := 33) (by decide +kernel), List.mem_of_getElem? (i := 420) (by decide +kernel), List.mem_of_getElem? (i := 421) (by decide +kernel)⟩
theorem lw_p5 : lw_okq (⟨"HintTeam$Reader", "readGame", "()V"⟩, 9) := ⟨⟨by decide +kernel, by decide +kernel⟩, List.mem_of_getElem? (i := 33) (by decide +kernel), List.mem_of_getElem? (i := 472) (by decide +kernel), List.mem_of_getElem? (i := 473) (by decide +kernel)⟩
theorem lw_p6 : lw_okq (⟨"HintTeam$Reader", "readNumber", "(II)I"⟩, 9) := ⟨⟨by decide +kernel, by decide +kernel⟩, List.mem_of_getElem? (i := 33) (by decide +kernel), List.mem_of_getElem? (i := 476) (by decide +kernel), List.mem_of_getElem? (i := 477) (by decide +kernel)⟩
theorem lw_p7 : lw_okq (⟨"HintTeam$Reader", "skipDigits", "()V"⟩, 9) := ⟨⟨by decide +kernel, by decide +kernel⟩, List.mem_of_getElem? (i := 33) (by decide +kernel), List.mem_of_getElem? (i := 480) (by decide +kernel), List.mem_of_getElem? (i := 481) (by decide +kernel)⟩
theorem lw_p8 : lw_okq (⟨"HintTeam$Reader", "fail", "(II)V"⟩, 9) := ⟨⟨by decide +kernel, by decide +kernel⟩, List.mem_of_getElem? (i := 33) (by decide +kernel), List.mem_of_getElem? (i := 487) (by decide +kernel), List.mem_of_getElem? (i := 488) (by decide +kernel)⟩
theorem lw_p9 : lw_okq (⟨"HintTeam$Reader", "readDeck", "()V"⟩, 9) := ⟨⟨by decide +kernel, by decide +kernel⟩, List.mem_of_getElem? (i := 33) (by decide +kernel), List.mem_of_getElem? (i := 493) (by decide +kernel), List.mem_of_getElem? (i := 494) (by decide +kernel)⟩
theorem lw_p10 : lw_okq (⟨"HintTeam$Reader", "readCard", "()V"⟩, 9) := ⟨⟨by decide +kernel, by decide +kernel⟩, List.mem_of_getElem? (i := 33) (by decide +kernel), List.mem_of_getElem? (i := 497) (by decide +kernel), List.mem_of_getElem? (i := 498) (by decide +kernel)⟩
theorem lw_p11 : lw_okq (⟨"HintTeam$Reader", "readTokens", "()V"⟩, 9) := ⟨⟨by decide +kernel, by decide +kernel⟩, List.mem_of_getElem? (i := 33) (by decide +kernel), List.mem_of_getElem? (i := 506) (by decide +kernel), List.mem_of_getElem? (i := 507) (by decide +kernel)⟩
theorem lw_p12 : lw_okq (⟨"HintTeam$Reader", "readTimes", "(III)V"⟩, 9) := ⟨⟨by decide +kernel, by decide +kernel⟩, List.mem_of_getElem? (i := 33) (by decide +kernel), List.mem_of_getElem? (i := 512) (by decide +kernel), List.mem_of_getElem? (i := 513) (by decide +kernel)⟩
theorem lw_p13 : lw_okq (⟨"HintTeam$Game", "drawCard", "(I)V"⟩, 16) := ⟨⟨by decide +kernel, by decide +kernel⟩, List.mem_of_getElem? (i := 266) (by decide +kernel), List.mem_of_getElem? (i := 542) (by decide +kernel), List.mem_of_getElem? (i := 543) (by decide +kernel)⟩
theorem lw_p14 : lw_okq (⟨"HintTeam", "remember", "()V"⟩, 15) := ⟨⟨by decide +kernel, by decide +kernel⟩, List.mem_of_getElem? (i := 25) (by decide +kernel), List.mem_of_getElem? (i := 596) (by decide +kernel), List.mem_of_getElem? (i := 597) (by decide +kernel)⟩
theorem lw_p15 : lw_okq (⟨"HintTeam$Game", "writeLog", "(III)V"⟩, 16) := ⟨⟨by decide +kernel, by decide +kernel⟩, List.mem_of_getElem? (i := 266) (by decide +kernel), List.mem_of_getElem? (i := 609) (by decide +kernel), List.mem_of_getElem? (i := 610) (by decide +kernel)⟩
def lw_privs_1 : List (MethodName × Nat) := [(⟨"HintTeam$Reader", "readStatement", "()V"⟩, 9), (⟨"HintTeam$Reader", "skipSpaces", "()V"⟩, 9), (⟨"HintTeam$Reader", "signAt", "(I)I"⟩, 9), (⟨"HintTeam$Reader", "skipLetters", "()V"⟩, 9), (⟨"HintTeam$Reader", "isWord", "(Ljava/lang/String;I)Z"⟩, 9), (⟨"HintTeam$Reader", "readGame", "()V"⟩, 9), (⟨"HintTeam$Reader", "readNumber", "(II)I"⟩, 9), (⟨"HintTeam$Reader", "skipDigits", "()V"⟩, 9), (⟨"HintTeam$Reader", "fail", "(II)V"⟩, 9), (⟨"HintTeam$Reader", "readDeck", "()V"⟩, 9), (⟨"HintTeam$Reader", "readCard", "()V"⟩, 9), (⟨"HintTeam$Reader", "readTokens", "()V"⟩, 9), (⟨"HintTeam$Reader", "readTimes", "(III)V"⟩, 9), (⟨"HintTeam$Game", "drawCard", "(I)V"⟩, 16), (⟨"HintTeam", "remember", "()V"⟩, 15), (⟨"HintTeam$Game", "writeLog", "(III)V"⟩, 16)]
theorem lw_r1 : ∀ q ∈ lw_privs_1, lw_okq q := List.forall_mem_cons.mpr ⟨lw_p0, List.forall_mem_cons.mpr ⟨lw_p1, List.forall_mem_cons.mpr ⟨lw_p2, List.forall_mem_cons.mpr ⟨lw_p3, List.forall_mem_cons.mpr ⟨lw_p4, List.forall_mem_cons.mpr ⟨lw_p5, List.forall_mem_cons.mpr ⟨lw_p6, List.forall_mem_cons.mpr ⟨lw_p7, List.forall_mem_cons.mpr ⟨lw_p8, List.forall_mem_cons.mpr ⟨lw_p9, List.forall_mem_cons.mpr ⟨lw_p10, List.forall_mem_cons.mpr ⟨lw_p11, List.forall_mem_cons.mpr ⟨lw_p12, List.forall_mem_cons.mpr ⟨lw_p13, List.forall_mem_cons.mpr ⟨lw_p14, List.forall_mem_cons.mpr ⟨lw_p15, fun _ h => absurd h List.not_mem_nil⟩⟩⟩⟩⟩⟩⟩⟩⟩⟩⟩⟩⟩⟩⟩⟩
theorem lw_p16 : lw_okq (⟨"HintTeam$Game", "endTurn", "()V"⟩, 16) := ⟨⟨by decide +kernel, by decide +kernel⟩, List.mem_of_getElem? (i := 266) (by decide +kernel), List.mem_of_getElem? (i := 613) (by decide +kernel), List.mem_of_getElem? (i := 614) (by decide +kernel)⟩
theorem lw_p17 : lw_okq (⟨"HintTeam$Advisor", "firstKnown", "(LHintTeam$Game;I)I"⟩, 6) := ⟨⟨by decide +kernel, by decide +kernel⟩, List.mem_of_getElem? (i := 161) (by decide +kernel), List.mem_of_getElem? (i := 633) (by decide +kernel), List.mem_of_getElem? (i := 634) (by decide +kernel)⟩
theorem lw_p18 : lw_okq (⟨"HintTeam$Advisor", "choose", "(II)V"⟩, 6) := ⟨⟨by decide +kernel, by decide +kernel⟩, List.mem_of_getElem? (i := 161) (by decide +kernel), List.mem_of_getElem? (i := 668) (by decide +kernel), List.mem_of_getElem? (i := 669) (by decide +kernel)⟩
theorem lw_p19 : lw_okq (⟨"HintTeam$Advisor", "chooseHint", "(LHintTeam$Game;)V"⟩, 6) := ⟨⟨by decide +kernel, by decide +kernel⟩, List.mem_of_getElem? (i := 161) (by decide +kernel), List.mem_of_getElem? (i := 672) (by decide +kernel), List.mem_of_getElem? (i := 673) (by decide +kernel)⟩
theorem lw_p20 : lw_okq (⟨"HintTeam$Advisor", "weighHint", "(LHintTeam$Game;IIII)V"⟩, 6) := ⟨⟨by decide +kernel, by decide +kernel⟩, List.mem_of_getElem? (i := 161) (by decide +kernel), List.mem_of_getElem? (i := 676) (by decide +kernel), List.mem_of_getElem? (i := 677) (by decide +kernel)⟩
theorem lw_p21 : lw_okq (⟨"HintTeam$Game", "reachableTop", "(I)I"⟩, 16) := ⟨⟨by decide +kernel, by decide +kernel⟩, List.mem_of_getElem? (i := 266) (by decide +kernel), List.mem_of_getElem? (i := 715) (by decide +kernel), List.mem_of_getElem? (i := 716) (by decide +kernel)⟩
theorem lw_p22 : lw_okq (⟨"HintTeam$Advisor", "firstUntouched", "(LHintTeam$Game;)I"⟩, 6) := ⟨⟨by decide +kernel, by decide +kernel⟩, List.mem_of_getElem? (i := 161) (by decide +kernel), List.mem_of_getElem? (i := 719) (by decide +kernel), List.mem_of_getElem? (i := 720) (by decide +kernel)⟩
theorem lw_p23 : lw_okq (⟨"HintTeam$Game", "takeCard", "(I)I"⟩, 16) := ⟨⟨by decide +kernel, by decide +kernel⟩, List.mem_of_getElem? (i := 266) (by decide +kernel), List.mem_of_getElem? (i := 735) (by decide +kernel), List.mem_of_getElem? (i := 736) (by decide +kernel)⟩
theorem lw_p24 : lw_okq (⟨"HintTeam$Game", "returnToken", "()V"⟩, 16) := ⟨⟨by decide +kernel, by decide +kernel⟩, List.mem_of_getElem? (i := 266) (by decide +kernel), List.mem_of_getElem? (i := 743) (by decide +kernel), List.mem_of_getElem? (i := 744) (by decide +kernel)⟩
theorem lw_p25 : lw_okq (⟨"HintTeam$Game", "putOnHeap", "(I)V"⟩, 16) := ⟨⟨by decide +kernel, by decide +kernel⟩, List.mem_of_getElem? (i := 266) (by decide +kernel), List.mem_of_getElem? (i := 748) (by decide +kernel), List.mem_of_getElem? (i := 749) (by decide +kernel)⟩
theorem lw_p26 : lw_okq (⟨"HintTeam$Game", "notInHeap", "(I)I"⟩, 16) := ⟨⟨by decide +kernel, by decide +kernel⟩, List.mem_of_getElem? (i := 266) (by decide +kernel), List.mem_of_getElem? (i := 756) (by decide +kernel), List.mem_of_getElem? (i := 757) (by decide +kernel)⟩
theorem lw_p27 : lw_okq (⟨"HintTeam$Game", "learn", "(II)Z"⟩, 16) := ⟨⟨by decide +kernel, by decide +kernel⟩, List.mem_of_getElem? (i := 266) (by decide +kernel), List.mem_of_getElem? (i := 772) (by decide +kernel), List.mem_of_getElem? (i := 773) (by decide +kernel)⟩
theorem lw_p28 : lw_okq (⟨"HintTeam$Search", "clear", "(LHintTeam$Rules;)V"⟩, 10) := ⟨⟨by decide +kernel, by decide +kernel⟩, List.mem_of_getElem? (i := 190) (by decide +kernel), List.mem_of_getElem? (i := 798) (by decide +kernel), List.mem_of_getElem? (i := 799) (by decide +kernel)⟩
theorem lw_p29 : lw_okq (⟨"HintTeam$Search", "add", "()V"⟩, 10) := ⟨⟨by decide +kernel, by decide +kernel⟩, List.mem_of_getElem? (i := 190) (by decide +kernel), List.mem_of_getElem? (i := 810) (by decide +kernel), List.mem_of_getElem? (i := 811) (by decide +kernel)⟩
theorem lw_p30 : lw_okq (⟨"HintTeam$Search", "slotOf", "(I)I"⟩, 10) := ⟨⟨by decide +kernel, by decide +kernel⟩, List.mem_of_getElem? (i := 190) (by decide +kernel), List.mem_of_getElem? (i := 818) (by decide +kernel), List.mem_of_getElem? (i := 819) (by decide +kernel)⟩
theorem lw_p31 : lw_okq (⟨"HintTeam$Search", "store", "(II)V"⟩, 10) := ⟨⟨by decide +kernel, by decide +kernel⟩, List.mem_of_getElem? (i := 190) (by decide +kernel), List.mem_of_getElem? (i := 823) (by decide +kernel), List.mem_of_getElem? (i := 824) (by decide +kernel)⟩
def lw_privs_2 : List (MethodName × Nat) := [(⟨"HintTeam$Game", "endTurn", "()V"⟩, 16), (⟨"HintTeam$Advisor", "firstKnown", "(LHintTeam$Game;I)I"⟩, 6), (⟨"HintTeam$Advisor", "choose", "(II)V"⟩, 6), (⟨"HintTeam$Advisor", "chooseHint", "(LHintTeam$Game;)V"⟩, 6), (⟨"HintTeam$Advisor", "weighHint", "(LHintTeam$Game;IIII)V"⟩, 6), (⟨"HintTeam$Game", "reachableTop", "(I)I"⟩, 16), (⟨"HintTeam$Advisor", "firstUntouched", "(LHintTeam$Game;)I"⟩, 6), (⟨"HintTeam$Game", "takeCard", "(I)I"⟩, 16), (⟨"HintTeam$Game", "returnToken", "()V"⟩, 16), (⟨"HintTeam$Game", "putOnHeap", "(I)V"⟩, 16), (⟨"HintTeam$Game", "notInHeap", "(I)I"⟩, 16), (⟨"HintTeam$Game", "learn", "(II)Z"⟩, 16), (⟨"HintTeam$Search", "clear", "(LHintTeam$Rules;)V"⟩, 10), (⟨"HintTeam$Search", "add", "()V"⟩, 10), (⟨"HintTeam$Search", "slotOf", "(I)I"⟩, 10), (⟨"HintTeam$Search", "store", "(II)V"⟩, 10)]
theorem lw_r2 : ∀ q ∈ lw_privs_2, lw_okq q := List.forall_mem_cons.mpr ⟨lw_p16, List.forall_mem_cons.mpr ⟨lw_p17, List.forall_mem_cons.mpr ⟨lw_p18, List.forall_mem_cons.mpr ⟨lw_p19, List.forall_mem_cons.mpr ⟨lw_p20, List.forall_mem_cons.mpr ⟨lw_p21, List.forall_mem_cons.mpr ⟨lw_p22, List.forall_mem_cons.mpr ⟨lw_p23, List.forall_mem_cons.mpr ⟨lw_p24, List.forall_mem_cons.mpr ⟨lw_p25, List.forall_mem_cons.mpr ⟨lw_p26, List.forall_mem_cons.mpr ⟨lw_p27, List.forall_mem_cons.mpr ⟨lw_p28, List.forall_mem_cons.mpr ⟨lw_p29, List.forall_mem_cons.mpr ⟨lw_p30, List.forall_mem_cons.mpr ⟨lw_p31, fun _ h => absurd h List.not_mem_nil⟩⟩⟩⟩⟩⟩⟩⟩⟩⟩⟩⟩⟩⟩⟩⟩
theorem lw_p32 : lw_okq (⟨"HintTeam$Search", "isStored", "(II)Z"⟩, 10) := ⟨⟨by decide +kernel, by decide +kernel⟩, List.mem_of_getElem? (i := 190) (by decide +kernel), List.mem_of_getElem? (i := 828) (by decide +kernel), List.mem_of_getElem? (i := 829) (by decide +kernel)⟩
theorem lw_p33 : lw_okq (⟨"HintTeam$Search", "spread", "(II)V"⟩, 10) := ⟨⟨by decide +kernel, by decide +kernel⟩, List.mem_of_getElem? (i := 190) (by decide +kernel), List.mem_of_getElem? (i := 834) (by decide +kernel), List.mem_of_getElem? (i := 835) (by decide +kernel)⟩
theorem lw_p34 : lw_okq (⟨"HintTeam$Search", "addBehind", "(II)V"⟩, 10) := ⟨⟨by decide +kernel, by decide +kernel⟩, List.mem_of_getElem? (i := 190) (by decide +kernel), List.mem_of_getElem? (i := 864) (by decide +kernel), List.mem_of_getElem? (i := 865) (by decide +kernel)⟩
theorem lw_p35 : lw_okq (⟨"HintTeam$Position", "holds", "(I)Z"⟩, 7) := ⟨⟨by decide +kernel, by decide +kernel⟩, List.mem_of_getElem? (i := 198) (by decide +kernel), List.mem_of_getElem? (i := 872) (by decide +kernel), List.mem_of_getElem? (i := 873) (by decide +kernel)⟩
theorem lw_p36 : lw_okq (⟨"HintTeam$Position", "isNext", "(I)Z"⟩, 7) := ⟨⟨by decide +kernel, by decide +kernel⟩, List.mem_of_getElem? (i := 198) (by decide +kernel), List.mem_of_getElem? (i := 876) (by decide +kernel), List.mem_of_getElem? (i := 877) (by decide +kernel)⟩
theorem lw_p37 : lw_okq (⟨"HintTeam$Position", "putOnPile", "(I)V"⟩, 7) := ⟨⟨by decide +kernel, by decide +kernel⟩, List.mem_of_getElem? (i := 198) (by decide +kernel), List.mem_of_getElem? (i := 889) (by decide +kernel), List.mem_of_getElem? (i := 890) (by decide +kernel)⟩
theorem lw_p38 : lw_okq (⟨"HintTeam$Position", "exchangeCard", "(I)V"⟩, 7) := ⟨⟨by decide +kernel, by decide +kernel⟩, List.mem_of_getElem? (i := 198) (by decide +kernel), List.mem_of_getElem? (i := 894) (by decide +kernel), List.mem_of_getElem? (i := 895) (by decide +kernel)⟩
theorem lw_p39 : lw_okq (⟨"java/lang/Throwable", "fillInStackTrace", "(I)Ljava/lang/Throwable;"⟩, 6) := ⟨⟨by decide +kernel, by decide +kernel⟩, List.mem_of_getElem? (i := 956) (by decide +kernel), List.mem_of_getElem? (i := 954) (by decide +kernel), List.mem_of_getElem? (i := 955) (by decide +kernel)⟩
theorem lw_p40 : lw_okq (⟨"HintTeam", "needPlayer", "(I)V"⟩, 15) := ⟨⟨by decide +kernel, by decide +kernel⟩, List.mem_of_getElem? (i := 25) (by decide +kernel), List.mem_of_getElem? (i := 1017) (by decide +kernel), List.mem_of_getElem? (i := 1018) (by decide +kernel)⟩
theorem lw_p41 : lw_okq (⟨"HintTeam", "needCard", "(II)I"⟩, 15) := ⟨⟨by decide +kernel, by decide +kernel⟩, List.mem_of_getElem? (i := 25) (by decide +kernel), List.mem_of_getElem? (i := 1029) (by decide +kernel), List.mem_of_getElem? (i := 1030) (by decide +kernel)⟩
theorem lw_p42 : lw_okq (⟨"HintTeam", "needKind", "(II)I"⟩, 15) := ⟨⟨by decide +kernel, by decide +kernel⟩, List.mem_of_getElem? (i := 25) (by decide +kernel), List.mem_of_getElem? (i := 1042) (by decide +kernel), List.mem_of_getElem? (i := 1043) (by decide +kernel)⟩
theorem lw_p43 : lw_okq (⟨"HintTeam", "possibleKinds", "(II)I"⟩, 15) := ⟨⟨by decide +kernel, by decide +kernel⟩, List.mem_of_getElem? (i := 25) (by decide +kernel), List.mem_of_getElem? (i := 1110) (by decide +kernel), List.mem_of_getElem? (i := 1111) (by decide +kernel)⟩
theorem lw_p44 : lw_okq (⟨"HintTeam", "needWord", "(II)V"⟩, 15) := ⟨⟨by decide +kernel, by decide +kernel⟩, List.mem_of_getElem? (i := 25) (by decide +kernel), List.mem_of_getElem? (i := 1146) (by decide +kernel), List.mem_of_getElem? (i := 1147) (by decide +kernel)⟩
theorem lw_p45 : lw_okq (⟨"HintTeam$Search", "step", "(LHintTeam$Game;II)Z"⟩, 10) := ⟨⟨by decide +kernel, by decide +kernel⟩, List.mem_of_getElem? (i := 190) (by decide +kernel), List.mem_of_getElem? (i := 1222) (by decide +kernel), List.mem_of_getElem? (i := 1223) (by decide +kernel)⟩
theorem lw_p46 : lw_okq (⟨"HintTeam$Search", "reaches", "(I)Z"⟩, 10) := ⟨⟨by decide +kernel, by decide +kernel⟩, List.mem_of_getElem? (i := 190) (by decide +kernel), List.mem_of_getElem? (i := 1240) (by decide +kernel), List.mem_of_getElem? (i := 1241) (by decide +kernel)⟩
theorem lw_p47 : lw_okq (⟨"HintTeam", "write", "(I)V"⟩, 15) := ⟨⟨by decide +kernel, by decide +kernel⟩, List.mem_of_getElem? (i := 25) (by decide +kernel), List.mem_of_getElem? (i := 1271) (by decide +kernel), List.mem_of_getElem? (i := 1272) (by decide +kernel)⟩
def lw_privs_3 : List (MethodName × Nat) := [(⟨"HintTeam$Search", "isStored", "(II)Z"⟩, 10), (⟨"HintTeam$Search", "spread", "(II)V"⟩, 10), (⟨"HintTeam$Search", "addBehind", "(II)V"⟩, 10), (⟨"HintTeam$Position", "holds", "(I)Z"⟩, 7), (⟨"HintTeam$Position", "isNext", "(I)Z"⟩, 7), (⟨"HintTeam$Position", "putOnPile", "(I)V"⟩, 7), (⟨"HintTeam$Position", "exchangeCard", "(I)V"⟩, 7), (⟨"java/lang/Throwable", "fillInStackTrace", "(I)Ljava/lang/Throwable;"⟩, 6), (⟨"HintTeam", "needPlayer", "(I)V"⟩, 15), (⟨"HintTeam", "needCard", "(II)I"⟩, 15), (⟨"HintTeam", "needKind", "(II)I"⟩, 15), (⟨"HintTeam", "possibleKinds", "(II)I"⟩, 15), (⟨"HintTeam", "needWord", "(II)V"⟩, 15), (⟨"HintTeam$Search", "step", "(LHintTeam$Game;II)Z"⟩, 10), (⟨"HintTeam$Search", "reaches", "(I)Z"⟩, 10), (⟨"HintTeam", "write", "(I)V"⟩, 15)]
theorem lw_r3 : ∀ q ∈ lw_privs_3, lw_okq q := List.forall_mem_cons.mpr ⟨lw_p32, List.forall_mem_cons.mpr ⟨lw_p33, List.forall_mem_cons.mpr ⟨lw_p34, List.forall_mem_cons.mpr ⟨lw_p35, List.forall_mem_cons.mpr ⟨lw_p36, List.forall_mem_cons.mpr ⟨lw_p37, List.forall_mem_cons.mpr ⟨lw_p38, List.forall_mem_cons.mpr ⟨lw_p39, List.forall_mem_cons.mpr ⟨lw_p40, List.forall_mem_cons.mpr ⟨lw_p41, List.forall_mem_cons.mpr ⟨lw_p42, List.forall_mem_cons.mpr ⟨lw_p43, List.forall_mem_cons.mpr ⟨lw_p44, List.forall_mem_cons.mpr ⟨lw_p45, List.forall_mem_cons.mpr ⟨lw_p46, List.forall_mem_cons.mpr ⟨lw_p47, fun _ h => absurd h List.not_mem_nil⟩⟩⟩⟩⟩⟩⟩⟩⟩⟩⟩⟩⟩⟩⟩⟩
theorem lw_p48 : lw_okq (⟨"HintTeam", "writeOnly", "(CI)V"⟩, 15) := ⟨⟨by decide +kernel, by decide +kernel⟩, List.mem_of_getElem? (i := 25) (by decide +kernel), List.mem_of_getElem? (i := 1275) (by decide +kernel), List.mem_of_getElem? (i := 1276) (by decide +kernel)⟩
theorem lw_p49 : lw_okq (⟨"HintTeam", "needSlot", "(I)V"⟩, 15) := ⟨⟨by decide +kernel, by decide +kernel⟩, List.mem_of_getElem? (i := 25) (by decide +kernel), List.mem_of_getElem? (i := 1286) (by decide +kernel), List.mem_of_getElem? (i := 1287) (by decide +kernel)⟩
theorem lw_p50 : lw_okq (⟨"HintTeamModel", "statement", "()V"⟩, 31) := ⟨⟨by decide +kernel, by decide +kernel⟩, List.mem_of_getElem? (i := 1298) (by decide +kernel), List.mem_of_getElem? (i := 1413) (by decide +kernel), List.mem_of_getElem? (i := 1414) (by decide +kernel)⟩
theorem lw_p51 : lw_okq (⟨"HintTeamModel", "reads", "()V"⟩, 31) := ⟨⟨by decide +kernel, by decide +kernel⟩, List.mem_of_getElem? (i := 1298) (by decide +kernel), List.mem_of_getElem? (i := 1417) (by decide +kernel), List.mem_of_getElem? (i := 1418) (by decide +kernel)⟩
theorem lw_p52 : lw_okq (⟨"HintTeamModel", "next", "()I"⟩, 31) := ⟨⟨by decide +kernel, by decide +kernel⟩, List.mem_of_getElem? (i := 1298) (by decide +kernel), List.mem_of_getElem? (i := 1421) (by decide +kernel), List.mem_of_getElem? (i := 1422) (by decide +kernel)⟩
theorem lw_p53 : lw_okq (⟨"HintTeamModel", "here", "()I"⟩, 31) := ⟨⟨by decide +kernel, by decide +kernel⟩, List.mem_of_getElem? (i := 1298) (by decide +kernel), List.mem_of_getElem? (i := 1425) (by decide +kernel), List.mem_of_getElem? (i := 1426) (by decide +kernel)⟩
theorem lw_p54 : lw_okq (⟨"HintTeamModel", "isWord", "(Ljava/lang/String;)Z"⟩, 31) := ⟨⟨by decide +kernel, by decide +kernel⟩, List.mem_of_getElem? (i := 1298) (by decide +kernel), List.mem_of_getElem? (i := 1430) (by decide +kernel), List.mem_of_getElem? (i := 1431) (by decide +kernel)⟩
theorem lw_p55 : lw_okq (⟨"HintTeamModel", "gamePart", "()V"⟩, 31) := ⟨⟨by decide +kernel, by decide +kernel⟩, List.mem_of_getElem? (i := 1298) (by decide +kernel), List.mem_of_getElem? (i := 1436) (by decide +kernel), List.mem_of_getElem? (i := 1437) (by decide +kernel)⟩
theorem lw_p56 : lw_okq (⟨"HintTeamModel", "fails", "(I)V"⟩, 31) := ⟨⟨by decide +kernel, by decide +kernel⟩, List.mem_of_getElem? (i := 1298) (by decide +kernel), List.mem_of_getElem? (i := 1440) (by decide +kernel), List.mem_of_getElem? (i := 1441) (by decide +kernel)⟩
theorem lw_p57 : lw_okq (⟨"HintTeamModel", "number", "(II)I"⟩, 31) := ⟨⟨by decide +kernel, by decide +kernel⟩, List.mem_of_getElem? (i := 1298) (by decide +kernel), List.mem_of_getElem? (i := 1444) (by decide +kernel), List.mem_of_getElem? (i := 1445) (by decide +kernel)⟩
theorem lw_p58 : lw_okq (⟨"HintTeamModel", "digits", "()I"⟩, 31) := ⟨⟨by decide +kernel, by decide +kernel⟩, List.mem_of_getElem? (i := 1298) (by decide +kernel), List.mem_of_getElem? (i := 1448) (by decide +kernel), List.mem_of_getElem? (i := 1449) (by decide +kernel)⟩
theorem lw_p59 : lw_okq (⟨"HintTeamModel", "deckPart", "()V"⟩, 31) := ⟨⟨by decide +kernel, by decide +kernel⟩, List.mem_of_getElem? (i := 1298) (by decide +kernel), List.mem_of_getElem? (i := 1455) (by decide +kernel), List.mem_of_getElem? (i := 1456) (by decide +kernel)⟩
theorem lw_p60 : lw_okq (⟨"HintTeamModel", "cardPart", "()V"⟩, 31) := ⟨⟨by decide +kernel, by decide +kernel⟩, List.mem_of_getElem? (i := 1298) (by decide +kernel), List.mem_of_getElem? (i := 1459) (by decide +kernel), List.mem_of_getElem? (i := 1460) (by decide +kernel)⟩
theorem lw_p61 : lw_okq (⟨"HintTeamModel", "wordPart", "(Z)V"⟩, 31) := ⟨⟨by decide +kernel, by decide +kernel⟩, List.mem_of_getElem? (i := 1298) (by decide +kernel), List.mem_of_getElem? (i := 1469) (by decide +kernel), List.mem_of_getElem? (i := 1470) (by decide +kernel)⟩
theorem lw_p62 : lw_okq (⟨"HintTeamModel", "isMore", "()Z"⟩, 31) := ⟨⟨by decide +kernel, by decide +kernel⟩, List.mem_of_getElem? (i := 1298) (by decide +kernel), List.mem_of_getElem? (i := 1479) (by decide +kernel), List.mem_of_getElem? (i := 1480) (by decide +kernel)⟩
theorem lw_p63 : lw_okq (⟨"HintTeamModel", "shuffles", "()V"⟩, 31) := ⟨⟨by decide +kernel, by decide +kernel⟩, List.mem_of_getElem? (i := 1298) (by decide +kernel), List.mem_of_getElem? (i := 1483) (by decide +kernel), List.mem_of_getElem? (i := 1484) (by decide +kernel)⟩
def lw_privs_4 : List (MethodName × Nat) := [(⟨"HintTeam", "writeOnly", "(CI)V"⟩, 15), (⟨"HintTeam", "needSlot", "(I)V"⟩, 15), (⟨"HintTeamModel", "statement", "()V"⟩, 31), (⟨"HintTeamModel", "reads", "()V"⟩, 31), (⟨"HintTeamModel", "next", "()I"⟩, 31), (⟨"HintTeamModel", "here", "()I"⟩, 31), (⟨"HintTeamModel", "isWord", "(Ljava/lang/String;)Z"⟩, 31), (⟨"HintTeamModel", "gamePart", "()V"⟩, 31), (⟨"HintTeamModel", "fails", "(I)V"⟩, 31), (⟨"HintTeamModel", "number", "(II)I"⟩, 31), (⟨"HintTeamModel", "digits", "()I"⟩, 31), (⟨"HintTeamModel", "deckPart", "()V"⟩, 31), (⟨"HintTeamModel", "cardPart", "()V"⟩, 31), (⟨"HintTeamModel", "wordPart", "(Z)V"⟩, 31), (⟨"HintTeamModel", "isMore", "()Z"⟩, 31), (⟨"HintTeamModel", "shuffles", "()V"⟩, 31)]
theorem lw_r4 : ∀ q ∈ lw_privs_4, lw_okq q := List.forall_mem_cons.mpr ⟨lw_p48, List.forall_mem_cons.mpr ⟨lw_p49, List.forall_mem_cons.mpr ⟨lw_p50, List.forall_mem_cons.mpr ⟨lw_p51, List.forall_mem_cons.mpr ⟨lw_p52, List.forall_mem_cons.mpr ⟨lw_p53, List.forall_mem_cons.mpr ⟨lw_p54, List.forall_mem_cons.mpr ⟨lw_p55, List.forall_mem_cons.mpr ⟨lw_p56, List.forall_mem_cons.mpr ⟨lw_p57, List.forall_mem_cons.mpr ⟨lw_p58, List.forall_mem_cons.mpr ⟨lw_p59, List.forall_mem_cons.mpr ⟨lw_p60, List.forall_mem_cons.mpr ⟨lw_p61, List.forall_mem_cons.mpr ⟨lw_p62, List.forall_mem_cons.mpr ⟨lw_p63, fun _ h => absurd h List.not_mem_nil⟩⟩⟩⟩⟩⟩⟩⟩⟩⟩⟩⟩⟩⟩⟩⟩
theorem lw_p64 : lw_okq (⟨"HintTeamModel", "draws", "(I)V"⟩, 31) := ⟨⟨by decide +kernel, by decide +kernel⟩, List.mem_of_getElem? (i := 1298) (by decide +kernel), List.mem_of_getElem? (i := 1494) (by decide +kernel), List.mem_of_getElem? (i := 1495) (by decide +kernel)⟩
theorem lw_p65 : lw_okq (⟨"HintTeamModel", "isThrown", "(ZI)Z"⟩, 31) := ⟨⟨by decide +kernel, by decide +kernel⟩, List.mem_of_getElem? (i := 1298) (by decide +kernel), List.mem_of_getElem? (i := 1510) (by decide +kernel), List.mem_of_getElem? (i := 1511) (by decide +kernel)⟩
theorem lw_p66 : lw_okq (⟨"HintTeamModel", "score", "()I"⟩, 31) := ⟨⟨by decide +kernel, by decide +kernel⟩, List.mem_of_getElem? (i := 1298) (by decide +kernel), List.mem_of_getElem? (i := 1514) (by decide +kernel), List.mem_of_getElem? (i := 1515) (by decide +kernel)⟩
theorem lw_p67 : lw_okq (⟨"HintTeamModel", "isPlayer", "(I)Z"⟩, 31) := ⟨⟨by decide +kernel, by decide +kernel⟩, List.mem_of_getElem? (i := 1298) (by decide +kernel), List.mem_of_getElem? (i := 1534) (by decide +kernel), List.mem_of_getElem? (i := 1535) (by decide +kernel)⟩
theorem lw_p68 : lw_okq (⟨"HintTeamModel", "isPlace", "(II)Z"⟩, 31) := ⟨⟨by decide +kernel, by decide +kernel⟩, List.mem_of_getElem? (i := 1298) (by decide +kernel), List.mem_of_getElem? (i := 1542) (by decide +kernel), List.mem_of_getElem? (i := 1543) (by decide +kernel)⟩
theorem lw_p69 : lw_okq (⟨"HintTeamModel", "held", "(II)I"⟩, 31) := ⟨⟨by decide +kernel, by decide +kernel⟩, List.mem_of_getElem? (i := 1298) (by decide +kernel), List.mem_of_getElem? (i := 1546) (by decide +kernel), List.mem_of_getElem? (i := 1547) (by decide +kernel)⟩
theorem lw_p70 : lw_okq (⟨"HintTeamModel", "isKind", "(II)Z"⟩, 31) := ⟨⟨by decide +kernel, by decide +kernel⟩, List.mem_of_getElem? (i := 1298) (by decide +kernel), List.mem_of_getElem? (i := 1567) (by decide +kernel), List.mem_of_getElem? (i := 1568) (by decide +kernel)⟩
theorem lw_p71 : lw_okq (⟨"HintTeamModel", "inDeck", "(II)I"⟩, 31) := ⟨⟨by decide +kernel, by decide +kernel⟩, List.mem_of_getElem? (i := 1298) (by decide +kernel), List.mem_of_getElem? (i := 1571) (by decide +kernel), List.mem_of_getElem? (i := 1572) (by decide +kernel)⟩
theorem lw_p72 : lw_okq (⟨"HintTeamModel", "inHands", "(II)I"⟩, 31) := ⟨⟨by decide +kernel, by decide +kernel⟩, List.mem_of_getElem? (i := 1298) (by decide +kernel), List.mem_of_getElem? (i := 1575) (by decide +kernel), List.mem_of_getElem? (i := 1576) (by decide +kernel)⟩
theorem lw_p73 : lw_okq (⟨"HintTeamModel", "isUselessKind", "(I)Z"⟩, 31) := ⟨⟨by decide +kernel, by decide +kernel⟩, List.mem_of_getElem? (i := 1298) (by decide +kernel), List.mem_of_getElem? (i := 1583) (by decide +kernel), List.mem_of_getElem? (i := 1584) (by decide +kernel)⟩
theorem lw_p74 : lw_okq (⟨"HintTeamModel", "isGone", "(I)Z"⟩, 31) := ⟨⟨by decide +kernel, by decide +kernel⟩, List.mem_of_getElem? (i := 1298) (by decide +kernel), List.mem_of_getElem? (i := 1587) (by decide +kernel), List.mem_of_getElem? (i := 1588) (by decide +kernel)⟩
theorem lw_p75 : lw_okq (⟨"HintTeamModel", "isCriticalKind", "(I)Z"⟩, 31) := ⟨⟨by decide +kernel, by decide +kernel⟩, List.mem_of_getElem? (i := 1298) (by decide +kernel), List.mem_of_getElem? (i := 1595) (by decide +kernel), List.mem_of_getElem? (i := 1596) (by decide +kernel)⟩
theorem lw_p76 : lw_okq (⟨"HintTeamModel", "thoughtAt", "(III)I"⟩, 31) := ⟨⟨by decide +kernel, by decide +kernel⟩, List.mem_of_getElem? (i := 1298) (by decide +kernel), List.mem_of_getElem? (i := 1615) (by decide +kernel), List.mem_of_getElem? (i := 1616) (by decide +kernel)⟩
theorem lw_p77 : lw_okq (⟨"HintTeamModel", "isThought", "(IIII)Z"⟩, 31) := ⟨⟨by decide +kernel, by decide +kernel⟩, List.mem_of_getElem? (i := 1298) (by decide +kernel), List.mem_of_getElem? (i := 1619) (by decide +kernel), List.mem_of_getElem? (i := 1620) (by decide +kernel)⟩
theorem lw_p78 : lw_okq (⟨"HintTeamModel", "known", "(II)I"⟩, 31) := ⟨⟨by decide +kernel, by decide +kernel⟩, List.mem_of_getElem? (i := 1298) (by decide +kernel), List.mem_of_getElem? (i := 1631) (by decide +kernel), List.mem_of_getElem? (i := 1632) (by decide +kernel)⟩
theorem lw_p79 : lw_okq (⟨"HintTeamModel", "knownOf", "(III)I"⟩, 31) := ⟨⟨by decide +kernel, by decide +kernel⟩, List.mem_of_getElem? (i := 1298) (by decide +kernel), List.mem_of_getElem? (i := 1635) (by decide +kernel), List.mem_of_getElem? (i := 1636) (by decide +kernel)⟩
def lw_privs_5 : List (MethodName × Nat) := [(⟨"HintTeamModel", "draws", "(I)V"⟩, 31), (⟨"HintTeamModel", "isThrown", "(ZI)Z"⟩, 31), (⟨"HintTeamModel", "score", "()I"⟩, 31), (⟨"HintTeamModel", "isPlayer", "(I)Z"⟩, 31), (⟨"HintTeamModel", "isPlace", "(II)Z"⟩, 31), (⟨"HintTeamModel", "held", "(II)I"⟩, 31), (⟨"HintTeamModel", "isKind", "(II)Z"⟩, 31), (⟨"HintTeamModel", "inDeck", "(II)I"⟩, 31), (⟨"HintTeamModel", "inHands", "(II)I"⟩, 31), (⟨"HintTeamModel", "isUselessKind", "(I)Z"⟩, 31), (⟨"HintTeamModel", "isGone", "(I)Z"⟩, 31), (⟨"HintTeamModel", "isCriticalKind", "(I)Z"⟩, 31), (⟨"HintTeamModel", "thoughtAt", "(III)I"⟩, 31), (⟨"HintTeamModel", "isThought", "(IIII)Z"⟩, 31), (⟨"HintTeamModel", "known", "(II)I"⟩, 31), (⟨"HintTeamModel", "knownOf", "(III)I"⟩, 31)]
theorem lw_r5 : ∀ q ∈ lw_privs_5, lw_okq q := List.forall_mem_cons.mpr ⟨lw_p64, List.forall_mem_cons.mpr ⟨lw_p65, List.forall_mem_cons.mpr ⟨lw_p66, List.forall_mem_cons.mpr ⟨lw_p67, List.forall_mem_cons.mpr ⟨lw_p68, List.forall_mem_cons.mpr ⟨lw_p69, List.forall_mem_cons.mpr ⟨lw_p70, List.forall_mem_cons.mpr ⟨lw_p71, List.forall_mem_cons.mpr ⟨lw_p72, List.forall_mem_cons.mpr ⟨lw_p73, List.forall_mem_cons.mpr ⟨lw_p74, List.forall_mem_cons.mpr ⟨lw_p75, List.forall_mem_cons.mpr ⟨lw_p76, List.forall_mem_cons.mpr ⟨lw_p77, List.forall_mem_cons.mpr ⟨lw_p78, List.forall_mem_cons.mpr ⟨lw_p79, fun _ h => absurd h List.not_mem_nil⟩⟩⟩⟩⟩⟩⟩⟩⟩⟩⟩⟩⟩⟩⟩⟩
theorem lw_p80 : lw_okq (⟨"HintTeamModel", "isNext", "(I)Z"⟩, 31) := ⟨⟨by decide +kernel, by decide +kernel⟩, List.mem_of_getElem? (i := 1298) (by decide +kernel), List.mem_of_getElem? (i := 1639) (by decide +kernel), List.mem_of_getElem? (i := 1640) (by decide +kernel)⟩
theorem lw_p81 : lw_okq (⟨"HintTeamModel", "isWordOf", "(II)Z"⟩, 31) := ⟨⟨by decide +kernel, by decide +kernel⟩, List.mem_of_getElem? (i := 1298) (by decide +kernel), List.mem_of_getElem? (i := 1647) (by decide +kernel), List.mem_of_getElem? (i := 1648) (by decide +kernel)⟩
theorem lw_p82 : lw_okq (⟨"HintTeamModel", "touched", "(III)I"⟩, 31) := ⟨⟨by decide +kernel, by decide +kernel⟩, List.mem_of_getElem? (i := 1298) (by decide +kernel), List.mem_of_getElem? (i := 1655) (by decide +kernel), List.mem_of_getElem? (i := 1656) (by decide +kernel)⟩
theorem lw_p83 : lw_okq (⟨"HintTeamModel", "isTouchedBy", "(III)Z"⟩, 31) := ⟨⟨by decide +kernel, by decide +kernel⟩, List.mem_of_getElem? (i := 1298) (by decide +kernel), List.mem_of_getElem? (i := 1659) (by decide +kernel), List.mem_of_getElem? (i := 1660) (by decide +kernel)⟩
theorem lw_p84 : lw_okq (⟨"HintTeamModel", "telling", "(III)I"⟩, 31) := ⟨⟨by decide +kernel, by decide +kernel⟩, List.mem_of_getElem? (i := 1298) (by decide +kernel), List.mem_of_getElem? (i := 1667) (by decide +kernel), List.mem_of_getElem? (i := 1668) (by decide +kernel)⟩
theorem lw_p85 : lw_okq (⟨"HintTeamModel", "colorsBehind", "(III)I"⟩, 31) := ⟨⟨by decide +kernel, by decide +kernel⟩, List.mem_of_getElem? (i := 1298) (by decide +kernel), List.mem_of_getElem? (i := 1671) (by decide +kernel), List.mem_of_getElem? (i := 1672) (by decide +kernel)⟩
theorem lw_p86 : lw_okq (⟨"HintTeamModel", "leaves", "(IIZ)I"⟩, 31) := ⟨⟨by decide +kernel, by decide +kernel⟩, List.mem_of_getElem? (i := 1298) (by decide +kernel), List.mem_of_getElem? (i := 1675) (by decide +kernel), List.mem_of_getElem? (i := 1676) (by decide +kernel)⟩
theorem lw_p87 : lw_okq (⟨"HintTeamModel", "ranksBehind", "(III)I"⟩, 31) := ⟨⟨by decide +kernel, by decide +kernel⟩, List.mem_of_getElem? (i := 1298) (by decide +kernel), List.mem_of_getElem? (i := 1679) (by decide +kernel), List.mem_of_getElem? (i := 1680) (by decide +kernel)⟩
theorem lw_p88 : lw_okq (⟨"HintTeamModel", "isOver", "()Z"⟩, 31) := ⟨⟨by decide +kernel, by decide +kernel⟩, List.mem_of_getElem? (i := 1298) (by decide +kernel), List.mem_of_getElem? (i := 1691) (by decide +kernel), List.mem_of_getElem? (i := 1692) (by decide +kernel)⟩
theorem lw_p89 : lw_okq (⟨"HintTeamModel", "keeps", "()V"⟩, 31) := ⟨⟨by decide +kernel, by decide +kernel⟩, List.mem_of_getElem? (i := 1298) (by decide +kernel), List.mem_of_getElem? (i := 1695) (by decide +kernel), List.mem_of_getElem? (i := 1696) (by decide +kernel)⟩
theorem lw_p90 : lw_okq (⟨"HintTeamModel", "plays", "(I)V"⟩, 31) := ⟨⟨by decide +kernel, by decide +kernel⟩, List.mem_of_getElem? (i := 1298) (by decide +kernel), List.mem_of_getElem? (i := 1699) (by decide +kernel), List.mem_of_getElem? (i := 1700) (by decide +kernel)⟩
theorem lw_p91 : lw_okq (⟨"HintTeamModel", "logs", "(III)V"⟩, 31) := ⟨⟨by decide +kernel, by decide +kernel⟩, List.mem_of_getElem? (i := 1298) (by decide +kernel), List.mem_of_getElem? (i := 1703) (by decide +kernel), List.mem_of_getElem? (i := 1704) (by decide +kernel)⟩
theorem lw_p92 : lw_okq (⟨"HintTeamModel", "takesOut", "(I)I"⟩, 31) := ⟨⟨by decide +kernel, by decide +kernel⟩, List.mem_of_getElem? (i := 1298) (by decide +kernel), List.mem_of_getElem? (i := 1707) (by decide +kernel), List.mem_of_getElem? (i := 1708) (by decide +kernel)⟩
theorem lw_p93 : lw_okq (⟨"HintTeamModel", "tokenBack", "()V"⟩, 31) := ⟨⟨by decide +kernel, by decide +kernel⟩, List.mem_of_getElem? (i := 1298) (by decide +kernel), List.mem_of_getElem? (i := 1711) (by decide +kernel), List.mem_of_getElem? (i := 1712) (by decide +kernel)⟩
theorem lw_p94 : lw_okq (⟨"HintTeamModel", "toHeap", "(I)V"⟩, 31) := ⟨⟨by decide +kernel, by decide +kernel⟩, List.mem_of_getElem? (i := 1298) (by decide +kernel), List.mem_of_getElem? (i := 1715) (by decide +kernel), List.mem_of_getElem? (i := 1716) (by decide +kernel)⟩
theorem lw_p95 : lw_okq (⟨"HintTeamModel", "endsTurn", "(Z)V"⟩, 31) := ⟨⟨by decide +kernel, by decide +kernel⟩, List.mem_of_getElem? (i := 1298) (by decide +kernel), List.mem_of_getElem? (i := 1719) (by decide +kernel), List.mem_of_getElem? (i := 1720) (by decide +kernel)⟩
def lw_privs_6 : List (MethodName × Nat) := [(⟨"HintTeamModel", "isNext", "(I)Z"⟩, 31), (⟨"HintTeamModel", "isWordOf", "(II)Z"⟩, 31), (⟨"HintTeamModel", "touched", "(III)I"⟩, 31), (⟨"HintTeamModel", "isTouchedBy", "(III)Z"⟩, 31), (⟨"HintTeamModel", "telling", "(III)I"⟩, 31), (⟨"HintTeamModel", "colorsBehind", "(III)I"⟩, 31), (⟨"HintTeamModel", "leaves", "(IIZ)I"⟩, 31), (⟨"HintTeamModel", "ranksBehind", "(III)I"⟩, 31), (⟨"HintTeamModel", "isOver", "()Z"⟩, 31), (⟨"HintTeamModel", "keeps", "()V"⟩, 31), (⟨"HintTeamModel", "plays", "(I)V"⟩, 31), (⟨"HintTeamModel", "logs", "(III)V"⟩, 31), (⟨"HintTeamModel", "takesOut", "(I)I"⟩, 31), (⟨"HintTeamModel", "tokenBack", "()V"⟩, 31), (⟨"HintTeamModel", "toHeap", "(I)V"⟩, 31), (⟨"HintTeamModel", "endsTurn", "(Z)V"⟩, 31)]
theorem lw_r6 : ∀ q ∈ lw_privs_6, lw_okq q := List.forall_mem_cons.mpr ⟨lw_p80, List.forall_mem_cons.mpr ⟨lw_p81, List.forall_mem_cons.mpr ⟨lw_p82, List.forall_mem_cons.mpr ⟨lw_p83, List.forall_mem_cons.mpr ⟨lw_p84, List.forall_mem_cons.mpr ⟨lw_p85, List.forall_mem_cons.mpr ⟨lw_p86, List.forall_mem_cons.mpr ⟨lw_p87, List.forall_mem_cons.mpr ⟨lw_p88, List.forall_mem_cons.mpr ⟨lw_p89, List.forall_mem_cons.mpr ⟨lw_p90, List.forall_mem_cons.mpr ⟨lw_p91, List.forall_mem_cons.mpr ⟨lw_p92, List.forall_mem_cons.mpr ⟨lw_p93, List.forall_mem_cons.mpr ⟨lw_p94, List.forall_mem_cons.mpr ⟨lw_p95, fun _ h => absurd h List.not_mem_nil⟩⟩⟩⟩⟩⟩⟩⟩⟩⟩⟩⟩⟩⟩⟩⟩
theorem lw_p96 : lw_okq (⟨"HintTeamModel", "areWhole", "()Z"⟩, 31) := ⟨⟨by decide +kernel, by decide +kernel⟩, List.mem_of_getElem? (i := 1298) (by decide +kernel), List.mem_of_getElem? (i := 1723) (by decide +kernel), List.mem_of_getElem? (i := 1724) (by decide +kernel)⟩
theorem lw_p97 : lw_okq (⟨"HintTeamModel", "discards", "(I)V"⟩, 31) := ⟨⟨by decide +kernel, by decide +kernel⟩, List.mem_of_getElem? (i := 1298) (by decide +kernel), List.mem_of_getElem? (i := 1731) (by decide +kernel), List.mem_of_getElem? (i := 1732) (by decide +kernel)⟩
theorem lw_p98 : lw_okq (⟨"HintTeamModel", "canSay", "(III)Z"⟩, 31) := ⟨⟨by decide +kernel, by decide +kernel⟩, List.mem_of_getElem? (i := 1298) (by decide +kernel), List.mem_of_getElem? (i := 1739) (by decide +kernel), List.mem_of_getElem? (i := 1740) (by decide +kernel)⟩
theorem lw_p99 : lw_okq (⟨"HintTeamModel", "hints", "(III)I"⟩, 31) := ⟨⟨by decide +kernel, by decide +kernel⟩, List.mem_of_getElem? (i := 1298) (by decide +kernel), List.mem_of_getElem? (i := 1743) (by decide +kernel), List.mem_of_getElem? (i := 1744) (by decide +kernel)⟩
theorem lw_p100 : lw_okq (⟨"HintTeamModel", "passes", "()V"⟩, 31) := ⟨⟨by decide +kernel, by decide +kernel⟩, List.mem_of_getElem? (i := 1298) (by decide +kernel), List.mem_of_getElem? (i := 1751) (by decide +kernel), List.mem_of_getElem? (i := 1752) (by decide +kernel)⟩
theorem lw_p101 : lw_okq (⟨"HintTeamModel", "findsAdvice", "()V"⟩, 31) := ⟨⟨by decide +kernel, by decide +kernel⟩, List.mem_of_getElem? (i := 1298) (by decide +kernel), List.mem_of_getElem? (i := 1759) (by decide +kernel), List.mem_of_getElem? (i := 1760) (by decide +kernel)⟩
theorem lw_p102 : lw_okq (⟨"HintTeamModel", "placeWith", "(I)I"⟩, 31) := ⟨⟨by decide +kernel, by decide +kernel⟩, List.mem_of_getElem? (i := 1298) (by decide +kernel), List.mem_of_getElem? (i := 1763) (by decide +kernel), List.mem_of_getElem? (i := 1764) (by decide +kernel)⟩
theorem lw_p103 : lw_okq (⟨"HintTeamModel", "advises", "(IIII)V"⟩, 31) := ⟨⟨by decide +kernel, by decide +kernel⟩, List.mem_of_getElem? (i := 1298) (by decide +kernel), List.mem_of_getElem? (i := 1767) (by decide +kernel), List.mem_of_getElem? (i := 1768) (by decide +kernel)⟩
theorem lw_p104 : lw_okq (⟨"HintTeamModel", "findsHint", "(Z)Z"⟩, 31) := ⟨⟨by decide +kernel, by decide +kernel⟩, List.mem_of_getElem? (i := 1298) (by decide +kernel), List.mem_of_getElem? (i := 1771) (by decide +kernel), List.mem_of_getElem? (i := 1772) (by decide +kernel)⟩
theorem lw_p105 : lw_okq (⟨"HintTeamModel", "follows", "()V"⟩, 31) := ⟨⟨by decide +kernel, by decide +kernel⟩, List.mem_of_getElem? (i := 1298) (by decide +kernel), List.mem_of_getElem? (i := 1779) (by decide +kernel), List.mem_of_getElem? (i := 1780) (by decide +kernel)⟩
theorem lw_p106 : lw_okq (⟨"HintTeamModel", "boundOf", "()I"⟩, 31) := ⟨⟨by decide +kernel, by decide +kernel⟩, List.mem_of_getElem? (i := 1298) (by decide +kernel), List.mem_of_getElem? (i := 1791) (by decide +kernel), List.mem_of_getElem? (i := 1792) (by decide +kernel)⟩
theorem lw_p107 : lw_okq (⟨"HintTeamModel", "valueNow", "()I"⟩, 31) := ⟨⟨by decide +kernel, by decide +kernel⟩, List.mem_of_getElem? (i := 1298) (by decide +kernel), List.mem_of_getElem? (i := 1803) (by decide +kernel), List.mem_of_getElem? (i := 1804) (by decide +kernel)⟩
theorem lw_p108 : lw_okq (⟨"HintTeamModel", "makesPresent", "()V"⟩, 31) := ⟨⟨by decide +kernel, by decide +kernel⟩, List.mem_of_getElem? (i := 1298) (by decide +kernel), List.mem_of_getElem? (i := 1807) (by decide +kernel), List.mem_of_getElem? (i := 1808) (by decide +kernel)⟩
theorem lw_p109 : lw_okq (⟨"HintTeamModel", "searches", "()I"⟩, 31) := ⟨⟨by decide +kernel, by decide +kernel⟩, List.mem_of_getElem? (i := 1298) (by decide +kernel), List.mem_of_getElem? (i := 1811) (by decide +kernel), List.mem_of_getElem? (i := 1812) (by decide +kernel)⟩
theorem lw_p110 : lw_okq (⟨"HintTeamModel", "adds", "()V"⟩, 31) := ⟨⟨by decide +kernel, by decide +kernel⟩, List.mem_of_getElem? (i := 1298) (by decide +kernel), List.mem_of_getElem? (i := 1815) (by decide +kernel), List.mem_of_getElem? (i := 1816) (by decide +kernel)⟩
theorem lw_p111 : lw_okq (⟨"HintTeamModel", "packed", "()I"⟩, 31) := ⟨⟨by decide +kernel, by decide +kernel⟩, List.mem_of_getElem? (i := 1298) (by decide +kernel), List.mem_of_getElem? (i := 1819) (by decide +kernel), List.mem_of_getElem? (i := 1820) (by decide +kernel)⟩
def lw_privs_7 : List (MethodName × Nat) := [(⟨"HintTeamModel", "areWhole", "()Z"⟩, 31), (⟨"HintTeamModel", "discards", "(I)V"⟩, 31), (⟨"HintTeamModel", "canSay", "(III)Z"⟩, 31), (⟨"HintTeamModel", "hints", "(III)I"⟩, 31), (⟨"HintTeamModel", "passes", "()V"⟩, 31), (⟨"HintTeamModel", "findsAdvice", "()V"⟩, 31), (⟨"HintTeamModel", "placeWith", "(I)I"⟩, 31), (⟨"HintTeamModel", "advises", "(IIII)V"⟩, 31), (⟨"HintTeamModel", "findsHint", "(Z)Z"⟩, 31), (⟨"HintTeamModel", "follows", "()V"⟩, 31), (⟨"HintTeamModel", "boundOf", "()I"⟩, 31), (⟨"HintTeamModel", "valueNow", "()I"⟩, 31), (⟨"HintTeamModel", "makesPresent", "()V"⟩, 31), (⟨"HintTeamModel", "searches", "()I"⟩, 31), (⟨"HintTeamModel", "adds", "()V"⟩, 31), (⟨"HintTeamModel", "packed", "()I"⟩, 31)]
theorem lw_r7 : ∀ q ∈ lw_privs_7, lw_okq q := List.forall_mem_cons.mpr ⟨lw_p96, List.forall_mem_cons.mpr ⟨lw_p97, List.forall_mem_cons.mpr ⟨lw_p98, List.forall_mem_cons.mpr ⟨lw_p99, List.forall_mem_cons.mpr ⟨lw_p100, List.forall_mem_cons.mpr ⟨lw_p101, List.forall_mem_cons.mpr ⟨lw_p102, List.forall_mem_cons.mpr ⟨lw_p103, List.forall_mem_cons.mpr ⟨lw_p104, List.forall_mem_cons.mpr ⟨lw_p105, List.forall_mem_cons.mpr ⟨lw_p106, List.forall_mem_cons.mpr ⟨lw_p107, List.forall_mem_cons.mpr ⟨lw_p108, List.forall_mem_cons.mpr ⟨lw_p109, List.forall_mem_cons.mpr ⟨lw_p110, List.forall_mem_cons.mpr ⟨lw_p111, fun _ h => absurd h List.not_mem_nil⟩⟩⟩⟩⟩⟩⟩⟩⟩⟩⟩⟩⟩⟩⟩⟩
theorem lw_p112 : lw_okq (⟨"HintTeamModel", "isSame", "(II)Z"⟩, 31) := ⟨⟨by decide +kernel, by decide +kernel⟩, List.mem_of_getElem? (i := 1298) (by decide +kernel), List.mem_of_getElem? (i := 1825) (by decide +kernel), List.mem_of_getElem? (i := 1826) (by decide +kernel)⟩
theorem lw_p113 : lw_okq (⟨"HintTeamModel", "goesOn", "(I)V"⟩, 31) := ⟨⟨by decide +kernel, by decide +kernel⟩, List.mem_of_getElem? (i := 1298) (by decide +kernel), List.mem_of_getElem? (i := 1829) (by decide +kernel), List.mem_of_getElem? (i := 1830) (by decide +kernel)⟩
theorem lw_p114 : lw_okq (⟨"HintTeamModel", "unpacks", "(I)V"⟩, 31) := ⟨⟨by decide +kernel, by decide +kernel⟩, List.mem_of_getElem? (i := 1298) (by decide +kernel), List.mem_of_getElem? (i := 1833) (by decide +kernel), List.mem_of_getElem? (i := 1834) (by decide +kernel)⟩
theorem lw_p115 : lw_okq (⟨"HintTeamModel", "isFinal", "()Z"⟩, 31) := ⟨⟨by decide +kernel, by decide +kernel⟩, List.mem_of_getElem? (i := 1298) (by decide +kernel), List.mem_of_getElem? (i := 1837) (by decide +kernel), List.mem_of_getElem? (i := 1838) (by decide +kernel)⟩
theorem lw_p116 : lw_okq (⟨"HintTeamModel", "canPlay", "(I)Z"⟩, 31) := ⟨⟨by decide +kernel, by decide +kernel⟩, List.mem_of_getElem? (i := 1298) (by decide +kernel), List.mem_of_getElem? (i := 1841) (by decide +kernel), List.mem_of_getElem? (i := 1842) (by decide +kernel)⟩
theorem lw_p117 : lw_okq (⟨"HintTeamModel", "moves", "(II)V"⟩, 31) := ⟨⟨by decide +kernel, by decide +kernel⟩, List.mem_of_getElem? (i := 1298) (by decide +kernel), List.mem_of_getElem? (i := 1845) (by decide +kernel), List.mem_of_getElem? (i := 1846) (by decide +kernel)⟩
theorem lw_p118 : lw_okq (⟨"HintTeamModel", "scoreMade", "()I"⟩, 31) := ⟨⟨by decide +kernel, by decide +kernel⟩, List.mem_of_getElem? (i := 1298) (by decide +kernel), List.mem_of_getElem? (i := 1850) (by decide +kernel), List.mem_of_getElem? (i := 1851) (by decide +kernel)⟩
theorem lw_p119 : lw_okq (⟨"HintTeamModel", "valueWith", "(II)I"⟩, 31) := ⟨⟨by decide +kernel, by decide +kernel⟩, List.mem_of_getElem? (i := 1298) (by decide +kernel), List.mem_of_getElem? (i := 1863) (by decide +kernel), List.mem_of_getElem? (i := 1864) (by decide +kernel)⟩
theorem lw_p120 : lw_okq (⟨"HintTeamModel", "puts", "(I)V"⟩, 31) := ⟨⟨by decide +kernel, by decide +kernel⟩, List.mem_of_getElem? (i := 1298) (by decide +kernel), List.mem_of_getElem? (i := 1886) (by decide +kernel), List.mem_of_getElem? (i := 1887) (by decide +kernel)⟩
def lw_privs_8 : List (MethodName × Nat) := [(⟨"HintTeamModel", "isSame", "(II)Z"⟩, 31), (⟨"HintTeamModel", "goesOn", "(I)V"⟩, 31), (⟨"HintTeamModel", "unpacks", "(I)V"⟩, 31), (⟨"HintTeamModel", "isFinal", "()Z"⟩, 31), (⟨"HintTeamModel", "canPlay", "(I)Z"⟩, 31), (⟨"HintTeamModel", "moves", "(II)V"⟩, 31), (⟨"HintTeamModel", "scoreMade", "()I"⟩, 31), (⟨"HintTeamModel", "valueWith", "(II)I"⟩, 31), (⟨"HintTeamModel", "puts", "(I)V"⟩, 31)]
theorem lw_r8 : ∀ q ∈ lw_privs_8, lw_okq q := List.forall_mem_cons.mpr ⟨lw_p112, List.forall_mem_cons.mpr ⟨lw_p113, List.forall_mem_cons.mpr ⟨lw_p114, List.forall_mem_cons.mpr ⟨lw_p115, List.forall_mem_cons.mpr ⟨lw_p116, List.forall_mem_cons.mpr ⟨lw_p117, List.forall_mem_cons.mpr ⟨lw_p118, List.forall_mem_cons.mpr ⟨lw_p119, List.forall_mem_cons.mpr ⟨lw_p120, fun _ h => absurd h List.not_mem_nil⟩⟩⟩⟩⟩⟩⟩⟩⟩
def lw_privs : List (MethodName × Nat) := lw_privs_1 ++ (lw_privs_2 ++ (lw_privs_3 ++ (lw_privs_4 ++ (lw_privs_5 ++ (lw_privs_6 ++ (lw_privs_7 ++ (lw_privs_8)))))))
def lw_tbl : List Cond := k2_sels lw_privs ++ tables_1
theorem lw_privs_ok : ∀ q ∈ lw_privs, lw_okq q := by
  show ∀ q ∈ lw_privs_1 ++ (lw_privs_2 ++ (lw_privs_3 ++ (lw_privs_4 ++ (lw_privs_5 ++ (lw_privs_6 ++ (lw_privs_7 ++ (lw_privs_8))))))), lw_okq q
  exact List.forall_mem_append.mpr ⟨lw_r1, List.forall_mem_append.mpr ⟨lw_r2, List.forall_mem_append.mpr ⟨lw_r3, List.forall_mem_append.mpr ⟨lw_r4, List.forall_mem_append.mpr ⟨lw_r5, List.forall_mem_append.mpr ⟨lw_r6, List.forall_mem_append.mpr ⟨lw_r7, lw_r8⟩⟩⟩⟩⟩⟩⟩
-- ===== end of PART A; then your names; then what follows =====
/-! names: of NAMES.whole, classes, fields and methods alone -/
def RX0 : String := "HintTeam$Advisor"
def TX0 : u_T := fun k => match k with
  | 0 => ("HintTeam$Advisor", "kind", "I", false)
  | 1 => ("HintTeam$Advisor", "target", "I", false)
  | 2 => ("HintTeam$Advisor", "word", "I", false)
  | 3 => ("HintTeam$Advisor", "value", "I", false)
  | 4 => ("HintTeam$Advisor", "mind", "LHintTeam$Mind;", true)
  | _ => ("HintTeam$Advisor", "told", "I", false)
def tyX0 : Nat → FieldType := fun k => match k with
  | 0 => .int
  | 1 => .int
  | 2 => .int
  | 3 => .int
  | 4 => .object "HintTeam$Mind"
  | _ => .int
theorem nmX0 : ∀ a, a < 6 → ∀ b, b < 6 → a ≠ b → (TX0 a).2.1 ≠ (TX0 b).2.1 := by decide +kernel
theorem tyX0_ok : ∀ k, k < 6 → parseFieldDescriptor (TX0 k).2.2.1 = some (tyX0 k) := by decide +kernel
abbrev cX0_init : ByteArray := prog_2_method_1_code
def yX0_init : MethodName := ⟨RX0, "<init>", "(LHintTeam$Mind;)V"⟩
abbrev cX0_takeTurn : ByteArray := prog_2_method_2_code
def yX0_takeTurn : MethodName := ⟨RX0, "takeTurn", "(LHintTeam$Game;)V"⟩
abbrev cX0_advise : ByteArray := prog_2_method_3_code
def yX0_advise : MethodName := ⟨RX0, "advise", "(LHintTeam$Game;)V"⟩
abbrev cX0_choose : ByteArray := prog_2_method_4_code
def yX0_choose : MethodName := ⟨RX0, "choose", "(II)V"⟩
abbrev cX0_chooseHint : ByteArray := prog_2_method_5_code
def yX0_chooseHint : MethodName := ⟨RX0, "chooseHint", "(LHintTeam$Game;)V"⟩
abbrev cX0_weighHint : ByteArray := prog_2_method_6_code
def yX0_weighHint : MethodName := ⟨RX0, "weighHint", "(LHintTeam$Game;IIII)V"⟩
abbrev cX0_firstKnown : ByteArray := prog_2_method_7_code
def yX0_firstKnown : MethodName := ⟨RX0, "firstKnown", "(LHintTeam$Game;I)I"⟩
abbrev cX0_firstUntouched : ByteArray := prog_2_method_8_code
def yX0_firstUntouched : MethodName := ⟨RX0, "firstUntouched", "(LHintTeam$Game;)I"⟩
def RX1 : String := "HintTeam$Game"
def TX1 : u_T := fun k => match k with
  | 0 => ("HintTeam$Game", "rules", "LHintTeam$Rules;", false)
  | 1 => ("HintTeam$Game", "drawnCards", "I", false)
  | 2 => ("HintTeam$Game", "tokens", "I", false)
  | 3 => ("HintTeam$Game", "lives", "I", false)
  | 4 => ("HintTeam$Game", "turn", "I", false)
  | 5 => ("HintTeam$Game", "turnsTaken", "I", false)
  | 6 => ("HintTeam$Game", "turnsLeft", "I", false)
  | 7 => ("HintTeam$Game", "totals", "[I", true)
  | 8 => ("HintTeam$Game", "touchedCards", "J", false)
  | 9 => ("HintTeam$Game", "hands", "[I", true)
  | 10 => ("HintTeam$Game", "handSizes", "[I", true)
  | 11 => ("HintTeam$Game", "tops", "[I", true)
  | 12 => ("HintTeam$Game", "heap", "[I", true)
  | 13 => ("HintTeam$Game", "times", "[I", true)
  | 14 => ("HintTeam$Game", "kindsLeft", "[I", true)
  | _ => ("HintTeam$Game", "log", "[I", true)
def tyX1 : Nat → FieldType := fun k => match k with
  | 0 => .object "HintTeam$Rules"
  | 1 => .int
  | 2 => .int
  | 3 => .int
  | 4 => .int
  | 5 => .int
  | 6 => .int
  | 7 => .array .int
  | 8 => .long
  | 9 => .array .int
  | 10 => .array .int
  | 11 => .array .int
  | 12 => .array .int
  | 13 => .array .int
  | 14 => .array .int
  | _ => .array .int
theorem nmX1 : ∀ a, a < 16 → ∀ b, b < 16 → a ≠ b → (TX1 a).2.1 ≠ (TX1 b).2.1 := by decide +kernel
theorem tyX1_ok : ∀ k, k < 16 → parseFieldDescriptor (TX1 k).2.2.1 = some (tyX1 k) := by decide +kernel
abbrev cX1_init : ByteArray := prog_3_method_1_code
def yX1_init : MethodName := ⟨RX1, "<init>", "(LHintTeam$Rules;)V"⟩
abbrev cX1_copyFrom : ByteArray := prog_3_method_2_code
def yX1_copyFrom : MethodName := ⟨RX1, "copyFrom", "(LHintTeam$Game;)V"⟩
abbrev cX1_begin : ByteArray := prog_3_method_3_code
def yX1_begin : MethodName := ⟨RX1, "begin", "(LHintTeam$Rules;)V"⟩
abbrev cX1_ending : ByteArray := prog_3_method_4_code
def yX1_ending : MethodName := ⟨RX1, "ending", "()I"⟩
abbrev cX1_isEnded : ByteArray := prog_3_method_5_code
def yX1_isEnded : MethodName := ⟨RX1, "isEnded", "()Z"⟩
abbrev cX1_score : ByteArray := prog_3_method_6_code
def yX1_score : MethodName := ⟨RX1, "score", "()I"⟩
abbrev cX1_topOf : ByteArray := prog_3_method_7_code
def yX1_topOf : MethodName := ⟨RX1, "topOf", "(I)I"⟩
abbrev cX1_sizeOf : ByteArray := prog_3_method_8_code
def yX1_sizeOf : MethodName := ⟨RX1, "sizeOf", "(I)I"⟩
abbrev cX1_cardAt : ByteArray := prog_3_method_9_code
def yX1_cardAt : MethodName := ⟨RX1, "cardAt", "(II)I"⟩
abbrev cX1_kindOf : ByteArray := prog_3_method_10_code
def yX1_kindOf : MethodName := ⟨RX1, "kindOf", "(I)I"⟩
abbrev cX1_kindsLeftFor : ByteArray := prog_3_method_11_code
def yX1_kindsLeftFor : MethodName := ⟨RX1, "kindsLeftFor", "(I)I"⟩
abbrev cX1_wasTouched : ByteArray := prog_3_method_12_code
def yX1_wasTouched : MethodName := ⟨RX1, "wasTouched", "(I)Z"⟩
abbrev cX1_timesLeft : ByteArray := prog_3_method_13_code
def yX1_timesLeft : MethodName := ⟨RX1, "timesLeft", "(II)I"⟩
abbrev cX1_inHeap : ByteArray := prog_3_method_14_code
def yX1_inHeap : MethodName := ⟨RX1, "inHeap", "(I)I"⟩
abbrev cX1_inHands : ByteArray := prog_3_method_15_code
def yX1_inHands : MethodName := ⟨RX1, "inHands", "(I)I"⟩
abbrev cX1_toBeDrawn : ByteArray := prog_3_method_16_code
def yX1_toBeDrawn : MethodName := ⟨RX1, "toBeDrawn", "(I)I"⟩
abbrev cX1_notInHeap : ByteArray := prog_3_method_17_code
def yX1_notInHeap : MethodName := ⟨RX1, "notInHeap", "(I)I"⟩
abbrev cX1_canGoOnPile : ByteArray := prog_3_method_18_code
def yX1_canGoOnPile : MethodName := ⟨RX1, "canGoOnPile", "(I)Z"⟩
abbrev cX1_isOnPile : ByteArray := prog_3_method_19_code
def yX1_isOnPile : MethodName := ⟨RX1, "isOnPile", "(I)Z"⟩
abbrev cX1_isOfUse : ByteArray := prog_3_method_20_code
def yX1_isOfUse : MethodName := ⟨RX1, "isOfUse", "(I)Z"⟩
abbrev cX1_isLastOne : ByteArray := prog_3_method_21_code
def yX1_isLastOne : MethodName := ⟨RX1, "isLastOne", "(I)Z"⟩
abbrev cX1_reachableTop : ByteArray := prog_3_method_22_code
def yX1_reachableTop : MethodName := ⟨RX1, "reachableTop", "(I)I"⟩
abbrev cX1_reachableScore : ByteArray := prog_3_method_23_code
def yX1_reachableScore : MethodName := ⟨RX1, "reachableScore", "()I"⟩
abbrev cX1_playableKinds : ByteArray := prog_3_method_24_code
def yX1_playableKinds : MethodName := ⟨RX1, "playableKinds", "()I"⟩
abbrev cX1_uselessKinds : ByteArray := prog_3_method_25_code
def yX1_uselessKinds : MethodName := ⟨RX1, "uselessKinds", "()I"⟩
abbrev cX1_touchedPlaces : ByteArray := prog_3_method_26_code
def yX1_touchedPlaces : MethodName := ⟨RX1, "touchedPlaces", "(II)I"⟩
abbrev cX1_canBeGiven : ByteArray := prog_3_method_27_code
def yX1_canBeGiven : MethodName := ⟨RX1, "canBeGiven", "(III)Z"⟩
abbrev cX1_playCard : ByteArray := prog_3_method_28_code
def yX1_playCard : MethodName := ⟨RX1, "playCard", "(I)V"⟩
abbrev cX1_discardCard : ByteArray := prog_3_method_29_code
def yX1_discardCard : MethodName := ⟨RX1, "discardCard", "(I)V"⟩
abbrev cX1_giveHint : ByteArray := prog_3_method_30_code
def yX1_giveHint : MethodName := ⟨RX1, "giveHint", "(III)I"⟩
abbrev cX1_passTurn : ByteArray := prog_3_method_31_code
def yX1_passTurn : MethodName := ⟨RX1, "passTurn", "()V"⟩
abbrev cX1_learn : ByteArray := prog_3_method_32_code
def yX1_learn : MethodName := ⟨RX1, "learn", "(II)Z"⟩
abbrev cX1_takeCard : ByteArray := prog_3_method_33_code
def yX1_takeCard : MethodName := ⟨RX1, "takeCard", "(I)I"⟩
abbrev cX1_drawCard : ByteArray := prog_3_method_34_code
def yX1_drawCard : MethodName := ⟨RX1, "drawCard", "(I)V"⟩
abbrev cX1_putOnHeap : ByteArray := prog_3_method_35_code
def yX1_putOnHeap : MethodName := ⟨RX1, "putOnHeap", "(I)V"⟩
abbrev cX1_returnToken : ByteArray := prog_3_method_36_code
def yX1_returnToken : MethodName := ⟨RX1, "returnToken", "()V"⟩
abbrev cX1_endTurn : ByteArray := prog_3_method_37_code
def yX1_endTurn : MethodName := ⟨RX1, "endTurn", "()V"⟩
abbrev cX1_writeLog : ByteArray := prog_3_method_38_code
def yX1_writeLog : MethodName := ⟨RX1, "writeLog", "(III)V"⟩
abbrev cX1_loggedPart : ByteArray := prog_3_method_39_code
def yX1_loggedPart : MethodName := ⟨RX1, "loggedPart", "(II)I"⟩
def RX2 : String := "HintTeam$Mind"
def TX2 : u_T := fun k => match k with
  | _ => ("HintTeam$Mind", "unseen", "[I", true)
def tyX2 : Nat → FieldType := fun k => match k with
  | _ => .array .int
theorem nmX2 : ∀ a, a < 1 → ∀ b, b < 1 → a ≠ b → (TX2 a).2.1 ≠ (TX2 b).2.1 := by decide +kernel
theorem tyX2_ok : ∀ k, k < 1 → parseFieldDescriptor (TX2 k).2.2.1 = some (tyX2 k) := by decide +kernel
abbrev cX2_init : ByteArray := prog_4_method_1_code
def yX2_init : MethodName := ⟨RX2, "<init>", "()V"⟩
abbrev cX2_unseenKinds : ByteArray := prog_4_method_2_code
def yX2_unseenKinds : MethodName := ⟨RX2, "unseenKinds", "(LHintTeam$Game;I)I"⟩
abbrev cX2_newlyPlayable : ByteArray := prog_4_method_3_code
def yX2_newlyPlayable : MethodName := ⟨RX2, "newlyPlayable", "(LHintTeam$Game;III)I"⟩
def RX3 : String := "HintTeam$Position"
def TX3 : u_T := fun k => match k with
  | 0 => ("HintTeam$Position", "rules", "LHintTeam$Rules;", false)
  | 1 => ("HintTeam$Position", "hands", "[J", true)
  | 2 => ("HintTeam$Position", "tops", "[I", true)
  | 3 => ("HintTeam$Position", "tokens", "I", false)
  | 4 => ("HintTeam$Position", "drawnCards", "I", false)
  | 5 => ("HintTeam$Position", "turn", "I", false)
  | _ => ("HintTeam$Position", "turnsLeft", "I", false)
def tyX3 : Nat → FieldType := fun k => match k with
  | 0 => .object "HintTeam$Rules"
  | 1 => .array .long
  | 2 => .array .int
  | 3 => .int
  | 4 => .int
  | 5 => .int
  | _ => .int
theorem nmX3 : ∀ a, a < 7 → ∀ b, b < 7 → a ≠ b → (TX3 a).2.1 ≠ (TX3 b).2.1 := by decide +kernel
theorem tyX3_ok : ∀ k, k < 7 → parseFieldDescriptor (TX3 k).2.2.1 = some (tyX3 k) := by decide +kernel
abbrev cX3_init : ByteArray := prog_5_method_1_code
def yX3_init : MethodName := ⟨RX3, "<init>", "(LHintTeam$Rules;)V"⟩
abbrev cX3_copyFrom : ByteArray := prog_5_method_2_code
def yX3_copyFrom : MethodName := ⟨RX3, "copyFrom", "(LHintTeam$Position;)V"⟩
abbrev cX3_takeFrom : ByteArray := prog_5_method_3_code
def yX3_takeFrom : MethodName := ⟨RX3, "takeFrom", "(LHintTeam$Game;)V"⟩
abbrev cX3_packed : ByteArray := prog_5_method_4_code
def yX3_packed : MethodName := ⟨RX3, "packed", "()I"⟩
abbrev cX3_unpack : ByteArray := prog_5_method_5_code
def yX3_unpack : MethodName := ⟨RX3, "unpack", "(I)V"⟩
abbrev cX3_points : ByteArray := prog_5_method_6_code
def yX3_points : MethodName := ⟨RX3, "points", "()I"⟩
abbrev cX3_isLast : ByteArray := prog_5_method_7_code
def yX3_isLast : MethodName := ⟨RX3, "isLast", "()Z"⟩
abbrev cX3_cardsInTurn : ByteArray := prog_5_method_8_code
def yX3_cardsInTurn : MethodName := ⟨RX3, "cardsInTurn", "()J"⟩
abbrev cX3_holds : ByteArray := prog_5_method_9_code
def yX3_holds : MethodName := ⟨RX3, "holds", "(I)Z"⟩
abbrev cX3_isSensible : ByteArray := prog_5_method_10_code
def yX3_isSensible : MethodName := ⟨RX3, "isSensible", "(II)Z"⟩
abbrev cX3_isNext : ByteArray := prog_5_method_11_code
def yX3_isNext : MethodName := ⟨RX3, "isNext", "(I)Z"⟩
abbrev cX3_move : ByteArray := prog_5_method_12_code
def yX3_move : MethodName := ⟨RX3, "move", "(II)V"⟩
abbrev cX3_putOnPile : ByteArray := prog_5_method_13_code
def yX3_putOnPile : MethodName := ⟨RX3, "putOnPile", "(I)V"⟩
abbrev cX3_exchangeCard : ByteArray := prog_5_method_14_code
def yX3_exchangeCard : MethodName := ⟨RX3, "exchangeCard", "(I)V"⟩
def RX4 : String := "HintTeam$Reader"
def TX4 : u_T := fun k => match k with
  | 0 => ("HintTeam$Reader", "rules", "LHintTeam$Rules;", false)
  | 1 => ("HintTeam$Reader", "error", "I", false)
  | 2 => ("HintTeam$Reader", "errorAt", "I", false)
  | 3 => ("HintTeam$Reader", "errorStatement", "I", false)
  | 4 => ("HintTeam$Reader", "text", "[I", true)
  | 5 => ("HintTeam$Reader", "length", "I", false)
  | 6 => ("HintTeam$Reader", "at", "I", false)
  | 7 => ("HintTeam$Reader", "statement", "I", false)
  | _ => ("HintTeam$Reader", "seed", "I", false)
def tyX4 : Nat → FieldType := fun k => match k with
  | 0 => .object "HintTeam$Rules"
  | 1 => .int
  | 2 => .int
  | 3 => .int
  | 4 => .array .int
  | 5 => .int
  | 6 => .int
  | 7 => .int
  | _ => .int
theorem nmX4 : ∀ a, a < 9 → ∀ b, b < 9 → a ≠ b → (TX4 a).2.1 ≠ (TX4 b).2.1 := by decide +kernel
theorem tyX4_ok : ∀ k, k < 9 → parseFieldDescriptor (TX4 k).2.2.1 = some (tyX4 k) := by decide +kernel
abbrev cX4_init : ByteArray := prog_6_method_1_code
def yX4_init : MethodName := ⟨RX4, "<init>", "([I)V"⟩
abbrev cX4_readText : ByteArray := prog_6_method_2_code
def yX4_readText : MethodName := ⟨RX4, "readText", "(I)V"⟩
abbrev cX4_readStatement : ByteArray := prog_6_method_3_code
def yX4_readStatement : MethodName := ⟨RX4, "readStatement", "()V"⟩
abbrev cX4_readGame : ByteArray := prog_6_method_4_code
def yX4_readGame : MethodName := ⟨RX4, "readGame", "()V"⟩
abbrev cX4_readTokens : ByteArray := prog_6_method_5_code
def yX4_readTokens : MethodName := ⟨RX4, "readTokens", "()V"⟩
abbrev cX4_readTimes : ByteArray := prog_6_method_6_code
def yX4_readTimes : MethodName := ⟨RX4, "readTimes", "(III)V"⟩
abbrev cX4_readDeck : ByteArray := prog_6_method_7_code
def yX4_readDeck : MethodName := ⟨RX4, "readDeck", "()V"⟩
abbrev cX4_readCard : ByteArray := prog_6_method_8_code
def yX4_readCard : MethodName := ⟨RX4, "readCard", "()V"⟩
abbrev cX4_readNumber : ByteArray := prog_6_method_9_code
def yX4_readNumber : MethodName := ⟨RX4, "readNumber", "(II)I"⟩
abbrev cX4_fail : ByteArray := prog_6_method_10_code
def yX4_fail : MethodName := ⟨RX4, "fail", "(II)V"⟩
abbrev cX4_isWord : ByteArray := prog_6_method_11_code
def yX4_isWord : MethodName := ⟨RX4, "isWord", "(Ljava/lang/String;I)Z"⟩
abbrev cX4_skipSpaces : ByteArray := prog_6_method_12_code
def yX4_skipSpaces : MethodName := ⟨RX4, "skipSpaces", "()V"⟩
abbrev cX4_skipLetters : ByteArray := prog_6_method_13_code
def yX4_skipLetters : MethodName := ⟨RX4, "skipLetters", "()V"⟩
abbrev cX4_skipDigits : ByteArray := prog_6_method_14_code
def yX4_skipDigits : MethodName := ⟨RX4, "skipDigits", "()V"⟩
abbrev cX4_isLetter : ByteArray := prog_6_method_15_code
def yX4_isLetter : MethodName := ⟨RX4, "isLetter", "(I)Z"⟩
abbrev cX4_isDigit : ByteArray := prog_6_method_16_code
def yX4_isDigit : MethodName := ⟨RX4, "isDigit", "(I)Z"⟩
abbrev cX4_signAt : ByteArray := prog_6_method_17_code
def yX4_signAt : MethodName := ⟨RX4, "signAt", "(I)I"⟩
def RX5 : String := "HintTeam$Rules"
def TX5 : u_T := fun k => match k with
  | 0 => ("HintTeam$Rules", "colors", "I", false)
  | 1 => ("HintTeam$Rules", "ranks", "I", false)
  | 2 => ("HintTeam$Rules", "players", "I", false)
  | 3 => ("HintTeam$Rules", "handSize", "I", false)
  | 4 => ("HintTeam$Rules", "mostTokens", "I", false)
  | 5 => ("HintTeam$Rules", "startTokens", "I", false)
  | 6 => ("HintTeam$Rules", "startLives", "I", false)
  | 7 => ("HintTeam$Rules", "cardCount", "I", false)
  | 8 => ("HintTeam$Rules", "kinds", "[I", true)
  | 9 => ("HintTeam$Rules", "copies", "[I", true)
  | _ => ("HintTeam$Rules", "times", "[I", true)
def tyX5 : Nat → FieldType := fun k => match k with
  | 0 => .int
  | 1 => .int
  | 2 => .int
  | 3 => .int
  | 4 => .int
  | 5 => .int
  | 6 => .int
  | 7 => .int
  | 8 => .array .int
  | 9 => .array .int
  | _ => .array .int
theorem nmX5 : ∀ a, a < 11 → ∀ b, b < 11 → a ≠ b → (TX5 a).2.1 ≠ (TX5 b).2.1 := by decide +kernel
theorem tyX5_ok : ∀ k, k < 11 → parseFieldDescriptor (TX5 k).2.2.1 = some (tyX5 k) := by decide +kernel
abbrev cX5_init : ByteArray := prog_7_method_1_code
def yX5_init : MethodName := ⟨RX5, "<init>", "()V"⟩
abbrev cX5_addCard : ByteArray := prog_7_method_2_code
def yX5_addCard : MethodName := ⟨RX5, "addCard", "(I)V"⟩
abbrev cX5_copiesOf : ByteArray := prog_7_method_3_code
def yX5_copiesOf : MethodName := ⟨RX5, "copiesOf", "(I)I"⟩
abbrev cX5_exchangeCards : ByteArray := prog_7_method_4_code
def yX5_exchangeCards : MethodName := ⟨RX5, "exchangeCards", "(I)V"⟩
abbrev cX5_allKinds : ByteArray := prog_7_method_5_code
def yX5_allKinds : MethodName := ⟨RX5, "allKinds", "()I"⟩
abbrev cX5_indexOfWord : ByteArray := prog_7_method_6_code
def yX5_indexOfWord : MethodName := ⟨RX5, "indexOfWord", "(II)I"⟩
def RX6 : String := "HintTeam$Search"
def TX6 : u_T := fun k => match k with
  | 0 => ("HintTeam$Search", "tooMany", "Z", false)
  | 1 => ("HintTeam$Search", "best", "I", false)
  | 2 => ("HintTeam$Search", "found", "I", false)
  | 3 => ("HintTeam$Search", "moveKind", "I", false)
  | 4 => ("HintTeam$Search", "movePlace", "I", false)
  | 5 => ("HintTeam$Search", "hands", "[J", true)
  | 6 => ("HintTeam$Search", "rests", "[I", true)
  | 7 => ("HintTeam$Search", "table", "[I", true)
  | 8 => ("HintTeam$Search", "here", "LHintTeam$Position;", true)
  | _ => ("HintTeam$Search", "next", "LHintTeam$Position;", true)
def tyX6 : Nat → FieldType := fun k => match k with
  | 0 => .boolean
  | 1 => .int
  | 2 => .int
  | 3 => .int
  | 4 => .int
  | 5 => .array .long
  | 6 => .array .int
  | 7 => .array .int
  | 8 => .object "HintTeam$Position"
  | _ => .object "HintTeam$Position"
theorem nmX6 : ∀ a, a < 10 → ∀ b, b < 10 → a ≠ b → (TX6 a).2.1 ≠ (TX6 b).2.1 := by decide +kernel
theorem tyX6_ok : ∀ k, k < 10 → parseFieldDescriptor (TX6 k).2.2.1 = some (tyX6 k) := by decide +kernel
abbrev cX6_init : ByteArray := prog_8_method_1_code
def yX6_init : MethodName := ⟨RX6, "<init>", "()V"⟩
abbrev cX6_survey : ByteArray := prog_8_method_2_code
def yX6_survey : MethodName := ⟨RX6, "survey", "(LHintTeam$Game;)V"⟩
abbrev cX6_surveyBehind : ByteArray := prog_8_method_3_code
def yX6_surveyBehind : MethodName := ⟨RX6, "surveyBehind", "(LHintTeam$Game;II)Z"⟩
abbrev cX6_findMove : ByteArray := prog_8_method_4_code
def yX6_findMove : MethodName := ⟨RX6, "findMove", "(LHintTeam$Game;I)V"⟩
abbrev cX6_reaches : ByteArray := prog_8_method_5_code
def yX6_reaches : MethodName := ⟨RX6, "reaches", "(I)Z"⟩
abbrev cX6_clear : ByteArray := prog_8_method_6_code
def yX6_clear : MethodName := ⟨RX6, "clear", "(LHintTeam$Rules;)V"⟩
abbrev cX6_step : ByteArray := prog_8_method_7_code
def yX6_step : MethodName := ⟨RX6, "step", "(LHintTeam$Game;II)Z"⟩
abbrev cX6_spread : ByteArray := prog_8_method_8_code
def yX6_spread : MethodName := ⟨RX6, "spread", "(II)V"⟩
abbrev cX6_addBehind : ByteArray := prog_8_method_9_code
def yX6_addBehind : MethodName := ⟨RX6, "addBehind", "(II)V"⟩
abbrev cX6_add : ByteArray := prog_8_method_10_code
def yX6_add : MethodName := ⟨RX6, "add", "()V"⟩
abbrev cX6_slotOf : ByteArray := prog_8_method_11_code
def yX6_slotOf : MethodName := ⟨RX6, "slotOf", "(I)I"⟩
abbrev cX6_isStored : ByteArray := prog_8_method_12_code
def yX6_isStored : MethodName := ⟨RX6, "isStored", "(II)Z"⟩
abbrev cX6_store : ByteArray := prog_8_method_13_code
def yX6_store : MethodName := ⟨RX6, "store", "(II)V"⟩
def RX7 : String := "HintTeam"
def TX7 : u_T := fun k => match k with
  | 0 => ("HintTeam", "input", "[I", true)
  | 1 => ("HintTeam", "inputLength", "I", false)
  | 2 => ("HintTeam", "reader", "LHintTeam$Reader;", true)
  | 3 => ("HintTeam", "game", "LHintTeam$Game;", true)
  | 4 => ("HintTeam", "past", "[LHintTeam$Game;", true)
  | 5 => ("HintTeam", "pastCount", "I", false)
  | 6 => ("HintTeam", "pastEnd", "I", false)
  | 7 => ("HintTeam", "saved", "[LHintTeam$Game;", true)
  | 8 => ("HintTeam", "isSaved", "[Z", true)
  | 9 => ("HintTeam", "prediction", "LHintTeam$Game;", true)
  | 10 => ("HintTeam", "mind", "LHintTeam$Mind;", true)
  | 11 => ("HintTeam", "advisor", "LHintTeam$Advisor;", true)
  | 12 => ("HintTeam", "search", "LHintTeam$Search;", true)
  | 13 => ("HintTeam", "output", "[I", true)
  | _ => ("HintTeam", "outputLength", "I", false)
def tyX7 : Nat → FieldType := fun k => match k with
  | 0 => .array .int
  | 1 => .int
  | 2 => .object "HintTeam$Reader"
  | 3 => .object "HintTeam$Game"
  | 4 => .array (.object "HintTeam$Game")
  | 5 => .int
  | 6 => .int
  | 7 => .array (.object "HintTeam$Game")
  | 8 => .array .boolean
  | 9 => .object "HintTeam$Game"
  | 10 => .object "HintTeam$Mind"
  | 11 => .object "HintTeam$Advisor"
  | 12 => .object "HintTeam$Search"
  | 13 => .array .int
  | _ => .int
theorem nmX7 : ∀ a, a < 15 → ∀ b, b < 15 → a ≠ b → (TX7 a).2.1 ≠ (TX7 b).2.1 := by decide +kernel
theorem tyX7_ok : ∀ k, k < 15 → parseFieldDescriptor (TX7 k).2.2.1 = some (tyX7 k) := by decide +kernel
abbrev cX7_init : ByteArray := prog_1_method_1_code
def yX7_init : MethodName := ⟨RX7, "<init>", "()V"⟩
abbrev cX7_append : ByteArray := prog_1_method_2_code
def yX7_append : MethodName := ⟨RX7, "append", "(J)I"⟩
abbrev cX7_load : ByteArray := prog_1_method_3_code
def yX7_load : MethodName := ⟨RX7, "load", "()I"⟩
abbrev cX7_loadError : ByteArray := prog_1_method_4_code
def yX7_loadError : MethodName := ⟨RX7, "loadError", "()I"⟩
abbrev cX7_loadStatement : ByteArray := prog_1_method_5_code
def yX7_loadStatement : MethodName := ⟨RX7, "loadStatement", "()I"⟩
abbrev cX7_count : ByteArray := prog_1_method_6_code
def yX7_count : MethodName := ⟨RX7, "count", "(I)I"⟩
abbrev cX7_turnOf : ByteArray := prog_1_method_7_code
def yX7_turnOf : MethodName := ⟨RX7, "turnOf", "()I"⟩
abbrev cX7_over : ByteArray := prog_1_method_8_code
def yX7_over : MethodName := ⟨RX7, "over", "()I"⟩
abbrev cX7_pile : ByteArray := prog_1_method_9_code
def yX7_pile : MethodName := ⟨RX7, "pile", "(I)I"⟩
abbrev cX7_hand : ByteArray := prog_1_method_10_code
def yX7_hand : MethodName := ⟨RX7, "hand", "(I)I"⟩
abbrev cX7_card : ByteArray := prog_1_method_11_code
def yX7_card : MethodName := ⟨RX7, "card", "(II)I"⟩
abbrev cX7_drawn : ByteArray := prog_1_method_12_code
def yX7_drawn : MethodName := ⟨RX7, "drawn", "(I)I"⟩
abbrev cX7_copies : ByteArray := prog_1_method_13_code
def yX7_copies : MethodName := ⟨RX7, "copies", "(III)I"⟩
abbrev cX7_isUseless : ByteArray := prog_1_method_14_code
def yX7_isUseless : MethodName := ⟨RX7, "isUseless", "(II)Z"⟩
abbrev cX7_isCritical : ByteArray := prog_1_method_15_code
def yX7_isCritical : MethodName := ⟨RX7, "isCritical", "(II)Z"⟩
abbrev cX7_colorsOf : ByteArray := prog_1_method_16_code
def yX7_colorsOf : MethodName := ⟨RX7, "colorsOf", "(II)I"⟩
abbrev cX7_ranksOf : ByteArray := prog_1_method_17_code
def yX7_ranksOf : MethodName := ⟨RX7, "ranksOf", "(II)I"⟩
abbrev cX7_isTouched : ByteArray := prog_1_method_18_code
def yX7_isTouched : MethodName := ⟨RX7, "isTouched", "(II)Z"⟩
abbrev cX7_thinks : ByteArray := prog_1_method_19_code
def yX7_thinks : MethodName := ⟨RX7, "thinks", "(II)I"⟩
abbrev cX7_thought : ByteArray := prog_1_method_20_code
def yX7_thought : MethodName := ⟨RX7, "thought", "(III)I"⟩
abbrev cX7_knows : ByteArray := prog_1_method_21_code
def yX7_knows : MethodName := ⟨RX7, "knows", "(II)I"⟩
abbrev cX7_wordsLeft : ByteArray := prog_1_method_22_code
def yX7_wordsLeft : MethodName := ⟨RX7, "wordsLeft", "(II)I"⟩
abbrev cX7_touches : ByteArray := prog_1_method_23_code
def yX7_touches : MethodName := ⟨RX7, "touches", "(III)I"⟩
abbrev cX7_tells : ByteArray := prog_1_method_24_code
def yX7_tells : MethodName := ⟨RX7, "tells", "(III)I"⟩
abbrev cX7_play : ByteArray := prog_1_method_25_code
def yX7_play : MethodName := ⟨RX7, "play", "(I)I"⟩
abbrev cX7_discard : ByteArray := prog_1_method_26_code
def yX7_discard : MethodName := ⟨RX7, "discard", "(I)I"⟩
abbrev cX7_hint : ByteArray := prog_1_method_27_code
def yX7_hint : MethodName := ⟨RX7, "hint", "(III)I"⟩
abbrev cX7_pass : ByteArray := prog_1_method_28_code
def yX7_pass : MethodName := ⟨RX7, "pass", "()I"⟩
abbrev cX7_advice : ByteArray := prog_1_method_29_code
def yX7_advice : MethodName := ⟨RX7, "advice", "(I)I"⟩
abbrev cX7_follow : ByteArray := prog_1_method_30_code
def yX7_follow : MethodName := ⟨RX7, "follow", "(I)I"⟩
abbrev cX7_foreseen : ByteArray := prog_1_method_31_code
def yX7_foreseen : MethodName := ⟨RX7, "foreseen", "()I"⟩
abbrev cX7_bound : ByteArray := prog_1_method_32_code
def yX7_bound : MethodName := ⟨RX7, "bound", "()I"⟩
abbrev cX7_pace : ByteArray := prog_1_method_33_code
def yX7_pace : MethodName := ⟨RX7, "pace", "()I"⟩
abbrev cX7_value : ByteArray := prog_1_method_34_code
def yX7_value : MethodName := ⟨RX7, "value", "()I"⟩
abbrev cX7_positions : ByteArray := prog_1_method_35_code
def yX7_positions : MethodName := ⟨RX7, "positions", "()I"⟩
abbrev cX7_valueBehind : ByteArray := prog_1_method_36_code
def yX7_valueBehind : MethodName := ⟨RX7, "valueBehind", "(II)I"⟩
abbrev cX7_bestMove : ByteArray := prog_1_method_37_code
def yX7_bestMove : MethodName := ⟨RX7, "bestMove", "(I)I"⟩
abbrev cX7_total : ByteArray := prog_1_method_38_code
def yX7_total : MethodName := ⟨RX7, "total", "(I)I"⟩
abbrev cX7_logPart : ByteArray := prog_1_method_39_code
def yX7_logPart : MethodName := ⟨RX7, "logPart", "(II)I"⟩
abbrev cX7_undo : ByteArray := prog_1_method_40_code
def yX7_undo : MethodName := ⟨RX7, "undo", "()I"⟩
abbrev cX7_writeHand : ByteArray := prog_1_method_41_code
def yX7_writeHand : MethodName := ⟨RX7, "writeHand", "(IZ)I"⟩
abbrev cX7_outputByte : ByteArray := prog_1_method_42_code
def yX7_outputByte : MethodName := ⟨RX7, "outputByte", "(I)I"⟩
abbrev cX7_saveSnapshot : ByteArray := prog_1_method_43_code
def yX7_saveSnapshot : MethodName := ⟨RX7, "saveSnapshot", "(I)I"⟩
abbrev cX7_restoreSnapshot : ByteArray := prog_1_method_44_code
def yX7_restoreSnapshot : MethodName := ⟨RX7, "restoreSnapshot", "(I)I"⟩
abbrev cX7_needPlayer : ByteArray := prog_1_method_45_code
def yX7_needPlayer : MethodName := ⟨RX7, "needPlayer", "(I)V"⟩
abbrev cX7_needCard : ByteArray := prog_1_method_46_code
def yX7_needCard : MethodName := ⟨RX7, "needCard", "(II)I"⟩
abbrev cX7_needKind : ByteArray := prog_1_method_47_code
def yX7_needKind : MethodName := ⟨RX7, "needKind", "(II)I"⟩
abbrev cX7_needWord : ByteArray := prog_1_method_48_code
def yX7_needWord : MethodName := ⟨RX7, "needWord", "(II)V"⟩
abbrev cX7_needSlot : ByteArray := prog_1_method_49_code
def yX7_needSlot : MethodName := ⟨RX7, "needSlot", "(I)V"⟩
abbrev cX7_possibleKinds : ByteArray := prog_1_method_50_code
def yX7_possibleKinds : MethodName := ⟨RX7, "possibleKinds", "(II)I"⟩
abbrev cX7_remember : ByteArray := prog_1_method_51_code
def yX7_remember : MethodName := ⟨RX7, "remember", "()V"⟩
abbrev cX7_writeOnly : ByteArray := prog_1_method_52_code
def yX7_writeOnly : MethodName := ⟨RX7, "writeOnly", "(CI)V"⟩
abbrev cX7_write : ByteArray := prog_1_method_53_code
def yX7_write : MethodName := ⟨RX7, "write", "(I)V"⟩
abbrev cX7_codeOf : ByteArray := prog_1_method_54_code
def yX7_codeOf : MethodName := ⟨RX7, "codeOf", "(I)I"⟩
abbrev cX7_isIn : ByteArray := prog_1_method_55_code
def yX7_isIn : MethodName := ⟨RX7, "isIn", "(II)Z"⟩
abbrev cX7_areAllIn : ByteArray := prog_1_method_56_code
def yX7_areAllIn : MethodName := ⟨RX7, "areAllIn", "(II)Z"⟩
abbrev cX7_colorsIn : ByteArray := prog_1_method_57_code
def yX7_colorsIn : MethodName := ⟨RX7, "colorsIn", "(I)I"⟩
abbrev cX7_ranksIn : ByteArray := prog_1_method_58_code
def yX7_ranksIn : MethodName := ⟨RX7, "ranksIn", "(I)I"⟩
abbrev cX7_kindsOfWord : ByteArray := prog_1_method_59_code
def yX7_kindsOfWord : MethodName := ⟨RX7, "kindsOfWord", "(II)I"⟩
def RX8 : String := "HintTeamModel"
def TX8 : u_T := fun k => match k with
  | 0 => ("HintTeamModel", "now", "[I", true)
  | 1 => ("HintTeamModel", "read", "[I", true)
  | 2 => ("HintTeamModel", "aside", "[I", true)
  | 3 => ("HintTeamModel", "past", "[I", true)
  | 4 => ("HintTeamModel", "copies", "[I", true)
  | 5 => ("HintTeamModel", "isSaved", "[Z", true)
  | 6 => ("HintTeamModel", "pastMany", "I", false)
  | 7 => ("HintTeamModel", "thrown", "I", false)
  | 8 => ("HintTeamModel", "buffer", "[B", true)
  | 9 => ("HintTeamModel", "length", "I", false)
  | 10 => ("HintTeamModel", "at", "I", false)
  | 11 => ("HintTeamModel", "begin", "I", false)
  | 12 => ("HintTeamModel", "error", "I", false)
  | 13 => ("HintTeamModel", "errorAt", "I", false)
  | 14 => ("HintTeamModel", "statement", "I", false)
  | 15 => ("HintTeamModel", "seed", "I", false)
  | 16 => ("HintTeamModel", "lastError", "I", false)
  | 17 => ("HintTeamModel", "lastStatement", "I", false)
  | 18 => ("HintTeamModel", "advised", "[I", true)
  | 19 => ("HintTeamModel", "cards", "[J", true)
  | 20 => ("HintTeamModel", "rest", "[I", true)
  | 21 => ("HintTeamModel", "slots", "[I", true)
  | 22 => ("HintTeamModel", "positions", "I", false)
  | 23 => ("HintTeamModel", "hands", "[J", true)
  | 24 => ("HintTeamModel", "piles", "[I", true)
  | 25 => ("HintTeamModel", "tokens", "I", false)
  | 26 => ("HintTeamModel", "nextCard", "I", false)
  | 27 => ("HintTeamModel", "turn", "I", false)
  | 28 => ("HintTeamModel", "left", "I", false)
  | 29 => ("HintTeamModel", "output", "[B", true)
  | _ => ("HintTeamModel", "written", "I", false)
def tyX8 : Nat → FieldType := fun k => match k with
  | 0 => .array .int
  | 1 => .array .int
  | 2 => .array .int
  | 3 => .array .int
  | 4 => .array .int
  | 5 => .array .boolean
  | 6 => .int
  | 7 => .int
  | 8 => .array .byte
  | 9 => .int
  | 10 => .int
  | 11 => .int
  | 12 => .int
  | 13 => .int
  | 14 => .int
  | 15 => .int
  | 16 => .int
  | 17 => .int
  | 18 => .array .int
  | 19 => .array .long
  | 20 => .array .int
  | 21 => .array .int
  | 22 => .int
  | 23 => .array .long
  | 24 => .array .int
  | 25 => .int
  | 26 => .int
  | 27 => .int
  | 28 => .int
  | 29 => .array .byte
  | _ => .int
theorem nmX8 : ∀ a, a < 31 → ∀ b, b < 31 → a ≠ b → (TX8 a).2.1 ≠ (TX8 b).2.1 := by decide +kernel
theorem tyX8_ok : ∀ k, k < 31 → parseFieldDescriptor (TX8 k).2.2.1 = some (tyX8 k) := by decide +kernel
abbrev cX8_init : ByteArray := prog_10_method_1_code
def yX8_init : MethodName := ⟨RX8, "<init>", "()V"⟩
abbrev cX8_in : ByteArray := prog_10_method_3_code
def yX8_in : MethodName := ⟨RX8, "in", "(III)Z"⟩
abbrev cX8_copies : ByteArray := prog_10_method_4_code
def yX8_copies : MethodName := ⟨RX8, "copies", "([II[II)V"⟩
abbrev cX8_isThrown : ByteArray := prog_10_method_5_code
def yX8_isThrown : MethodName := ⟨RX8, "isThrown", "(ZI)Z"⟩
abbrev cX8_isPlayer : ByteArray := prog_10_method_6_code
def yX8_isPlayer : MethodName := ⟨RX8, "isPlayer", "(I)Z"⟩
abbrev cX8_isPlace : ByteArray := prog_10_method_7_code
def yX8_isPlace : MethodName := ⟨RX8, "isPlace", "(II)Z"⟩
abbrev cX8_held : ByteArray := prog_10_method_8_code
def yX8_held : MethodName := ⟨RX8, "held", "(II)I"⟩
abbrev cX8_kind : ByteArray := prog_10_method_9_code
def yX8_kind : MethodName := ⟨RX8, "kind", "(II)I"⟩
abbrev cX8_colorOf : ByteArray := prog_10_method_10_code
def yX8_colorOf : MethodName := ⟨RX8, "colorOf", "(I)I"⟩
abbrev cX8_rankOf : ByteArray := prog_10_method_11_code
def yX8_rankOf : MethodName := ⟨RX8, "rankOf", "(I)I"⟩
abbrev cX8_told : ByteArray := prog_10_method_12_code
def yX8_told : MethodName := ⟨RX8, "told", "(I)I"⟩
abbrev cX8_isKind : ByteArray := prog_10_method_13_code
def yX8_isKind : MethodName := ⟨RX8, "isKind", "(II)Z"⟩
abbrev cX8_byteOf : ByteArray := prog_10_method_14_code
def yX8_byteOf : MethodName := ⟨RX8, "byteOf", "(JI)I"⟩
abbrev cX8_append : ByteArray := prog_10_method_15_code
def yX8_append : MethodName := ⟨RX8, "append", "(J)I"⟩
abbrev cX8_here : ByteArray := prog_10_method_16_code
def yX8_here : MethodName := ⟨RX8, "here", "()I"⟩
abbrev cX8_next : ByteArray := prog_10_method_17_code
def yX8_next : MethodName := ⟨RX8, "next", "()I"⟩
abbrev cX8_fails : ByteArray := prog_10_method_18_code
def yX8_fails : MethodName := ⟨RX8, "fails", "(I)V"⟩
abbrev cX8_reads : ByteArray := prog_10_method_19_code
def yX8_reads : MethodName := ⟨RX8, "reads", "()V"⟩
abbrev cX8_isWord : ByteArray := prog_10_method_20_code
def yX8_isWord : MethodName := ⟨RX8, "isWord", "(Ljava/lang/String;)Z"⟩
abbrev cX8_digits : ByteArray := prog_10_method_21_code
def yX8_digits : MethodName := ⟨RX8, "digits", "()I"⟩
abbrev cX8_number : ByteArray := prog_10_method_22_code
def yX8_number : MethodName := ⟨RX8, "number", "(II)I"⟩
abbrev cX8_gamePart : ByteArray := prog_10_method_23_code
def yX8_gamePart : MethodName := ⟨RX8, "gamePart", "()V"⟩
abbrev cX8_cardPart : ByteArray := prog_10_method_24_code
def yX8_cardPart : MethodName := ⟨RX8, "cardPart", "()V"⟩
abbrev cX8_deckPart : ByteArray := prog_10_method_25_code
def yX8_deckPart : MethodName := ⟨RX8, "deckPart", "()V"⟩
abbrev cX8_wordPart : ByteArray := prog_10_method_26_code
def yX8_wordPart : MethodName := ⟨RX8, "wordPart", "(Z)V"⟩
abbrev cX8_statement : ByteArray := prog_10_method_27_code
def yX8_statement : MethodName := ⟨RX8, "statement", "()V"⟩
abbrev cX8_isMore : ByteArray := prog_10_method_28_code
def yX8_isMore : MethodName := ⟨RX8, "isMore", "()Z"⟩
abbrev cX8_shuffles : ByteArray := prog_10_method_29_code
def yX8_shuffles : MethodName := ⟨RX8, "shuffles", "()V"⟩
abbrev cX8_load : ByteArray := prog_10_method_30_code
def yX8_load : MethodName := ⟨RX8, "load", "()I"⟩
abbrev cX8_loadError : ByteArray := prog_10_method_31_code
def yX8_loadError : MethodName := ⟨RX8, "loadError", "()I"⟩
abbrev cX8_loadStatement : ByteArray := prog_10_method_32_code
def yX8_loadStatement : MethodName := ⟨RX8, "loadStatement", "()I"⟩
abbrev cX8_draws : ByteArray := prog_10_method_33_code
def yX8_draws : MethodName := ⟨RX8, "draws", "(I)V"⟩
abbrev cX8_score : ByteArray := prog_10_method_34_code
def yX8_score : MethodName := ⟨RX8, "score", "()I"⟩
abbrev cX8_count : ByteArray := prog_10_method_35_code
def yX8_count : MethodName := ⟨RX8, "count", "(I)I"⟩
abbrev cX8_turnOf : ByteArray := prog_10_method_36_code
def yX8_turnOf : MethodName := ⟨RX8, "turnOf", "()I"⟩
abbrev cX8_over : ByteArray := prog_10_method_37_code
def yX8_over : MethodName := ⟨RX8, "over", "()I"⟩
abbrev cX8_pile : ByteArray := prog_10_method_38_code
def yX8_pile : MethodName := ⟨RX8, "pile", "(I)I"⟩
abbrev cX8_hand : ByteArray := prog_10_method_39_code
def yX8_hand : MethodName := ⟨RX8, "hand", "(I)I"⟩
abbrev cX8_card : ByteArray := prog_10_method_40_code
def yX8_card : MethodName := ⟨RX8, "card", "(II)I"⟩
abbrev cX8_drawn : ByteArray := prog_10_method_41_code
def yX8_drawn : MethodName := ⟨RX8, "drawn", "(I)I"⟩
abbrev cX8_inDeck : ByteArray := prog_10_method_42_code
def yX8_inDeck : MethodName := ⟨RX8, "inDeck", "(II)I"⟩
abbrev cX8_inHands : ByteArray := prog_10_method_43_code
def yX8_inHands : MethodName := ⟨RX8, "inHands", "(II)I"⟩
abbrev cX8_copies_ : ByteArray := prog_10_method_44_code
def yX8_copies_ : MethodName := ⟨RX8, "copies", "(III)I"⟩
abbrev cX8_isGone : ByteArray := prog_10_method_45_code
def yX8_isGone : MethodName := ⟨RX8, "isGone", "(I)Z"⟩
abbrev cX8_isUselessKind : ByteArray := prog_10_method_46_code
def yX8_isUselessKind : MethodName := ⟨RX8, "isUselessKind", "(I)Z"⟩
abbrev cX8_isCriticalKind : ByteArray := prog_10_method_47_code
def yX8_isCriticalKind : MethodName := ⟨RX8, "isCriticalKind", "(I)Z"⟩
abbrev cX8_isNext : ByteArray := prog_10_method_48_code
def yX8_isNext : MethodName := ⟨RX8, "isNext", "(I)Z"⟩
abbrev cX8_isUseless : ByteArray := prog_10_method_49_code
def yX8_isUseless : MethodName := ⟨RX8, "isUseless", "(II)Z"⟩
abbrev cX8_isCritical : ByteArray := prog_10_method_50_code
def yX8_isCritical : MethodName := ⟨RX8, "isCritical", "(II)Z"⟩
abbrev cX8_colorsOf : ByteArray := prog_10_method_51_code
def yX8_colorsOf : MethodName := ⟨RX8, "colorsOf", "(II)I"⟩
abbrev cX8_ranksOf : ByteArray := prog_10_method_52_code
def yX8_ranksOf : MethodName := ⟨RX8, "ranksOf", "(II)I"⟩
abbrev cX8_isTouched : ByteArray := prog_10_method_53_code
def yX8_isTouched : MethodName := ⟨RX8, "isTouched", "(II)Z"⟩
abbrev cX8_isThought : ByteArray := prog_10_method_54_code
def yX8_isThought : MethodName := ⟨RX8, "isThought", "(IIII)Z"⟩
abbrev cX8_knownOf : ByteArray := prog_10_method_55_code
def yX8_knownOf : MethodName := ⟨RX8, "knownOf", "(III)I"⟩
abbrev cX8_known : ByteArray := prog_10_method_56_code
def yX8_known : MethodName := ⟨RX8, "known", "(II)I"⟩
abbrev cX8_thoughtAt : ByteArray := prog_10_method_57_code
def yX8_thoughtAt : MethodName := ⟨RX8, "thoughtAt", "(III)I"⟩
abbrev cX8_thinks : ByteArray := prog_10_method_58_code
def yX8_thinks : MethodName := ⟨RX8, "thinks", "(II)I"⟩
abbrev cX8_thought : ByteArray := prog_10_method_59_code
def yX8_thought : MethodName := ⟨RX8, "thought", "(III)I"⟩
abbrev cX8_knows : ByteArray := prog_10_method_60_code
def yX8_knows : MethodName := ⟨RX8, "knows", "(II)I"⟩
abbrev cX8_wordAt : ByteArray := prog_10_method_61_code
def yX8_wordAt : MethodName := ⟨RX8, "wordAt", "(II)I"⟩
abbrev cX8_isWordOf : ByteArray := prog_10_method_62_code
def yX8_isWordOf : MethodName := ⟨RX8, "isWordOf", "(II)Z"⟩
abbrev cX8_wordsLeft : ByteArray := prog_10_method_63_code
def yX8_wordsLeft : MethodName := ⟨RX8, "wordsLeft", "(II)I"⟩
abbrev cX8_isTouchedBy : ByteArray := prog_10_method_64_code
def yX8_isTouchedBy : MethodName := ⟨RX8, "isTouchedBy", "(III)Z"⟩
abbrev cX8_touched : ByteArray := prog_10_method_65_code
def yX8_touched : MethodName := ⟨RX8, "touched", "(III)I"⟩
abbrev cX8_touches : ByteArray := prog_10_method_66_code
def yX8_touches : MethodName := ⟨RX8, "touches", "(III)I"⟩
abbrev cX8_leaves : ByteArray := prog_10_method_67_code
def yX8_leaves : MethodName := ⟨RX8, "leaves", "(IIZ)I"⟩
abbrev cX8_colorsBehind : ByteArray := prog_10_method_68_code
def yX8_colorsBehind : MethodName := ⟨RX8, "colorsBehind", "(III)I"⟩
abbrev cX8_ranksBehind : ByteArray := prog_10_method_69_code
def yX8_ranksBehind : MethodName := ⟨RX8, "ranksBehind", "(III)I"⟩
abbrev cX8_telling : ByteArray := prog_10_method_70_code
def yX8_telling : MethodName := ⟨RX8, "telling", "(III)I"⟩
abbrev cX8_tells : ByteArray := prog_10_method_71_code
def yX8_tells : MethodName := ⟨RX8, "tells", "(III)I"⟩
abbrev cX8_keeps : ByteArray := prog_10_method_72_code
def yX8_keeps : MethodName := ⟨RX8, "keeps", "()V"⟩
abbrev cX8_undo : ByteArray := prog_10_method_73_code
def yX8_undo : MethodName := ⟨RX8, "undo", "()I"⟩
abbrev cX8_logs : ByteArray := prog_10_method_74_code
def yX8_logs : MethodName := ⟨RX8, "logs", "(III)V"⟩
abbrev cX8_tokenBack : ByteArray := prog_10_method_75_code
def yX8_tokenBack : MethodName := ⟨RX8, "tokenBack", "()V"⟩
abbrev cX8_toHeap : ByteArray := prog_10_method_76_code
def yX8_toHeap : MethodName := ⟨RX8, "toHeap", "(I)V"⟩
abbrev cX8_takesOut : ByteArray := prog_10_method_77_code
def yX8_takesOut : MethodName := ⟨RX8, "takesOut", "(I)I"⟩
abbrev cX8_plays : ByteArray := prog_10_method_78_code
def yX8_plays : MethodName := ⟨RX8, "plays", "(I)V"⟩
abbrev cX8_discards : ByteArray := prog_10_method_79_code
def yX8_discards : MethodName := ⟨RX8, "discards", "(I)V"⟩
abbrev cX8_hints : ByteArray := prog_10_method_80_code
def yX8_hints : MethodName := ⟨RX8, "hints", "(III)I"⟩
abbrev cX8_passes : ByteArray := prog_10_method_81_code
def yX8_passes : MethodName := ⟨RX8, "passes", "()V"⟩
abbrev cX8_areWhole : ByteArray := prog_10_method_82_code
def yX8_areWhole : MethodName := ⟨RX8, "areWhole", "()Z"⟩
abbrev cX8_endsTurn : ByteArray := prog_10_method_83_code
def yX8_endsTurn : MethodName := ⟨RX8, "endsTurn", "(Z)V"⟩
abbrev cX8_isOver : ByteArray := prog_10_method_84_code
def yX8_isOver : MethodName := ⟨RX8, "isOver", "()Z"⟩
abbrev cX8_play : ByteArray := prog_10_method_85_code
def yX8_play : MethodName := ⟨RX8, "play", "(I)I"⟩
abbrev cX8_discard : ByteArray := prog_10_method_86_code
def yX8_discard : MethodName := ⟨RX8, "discard", "(I)I"⟩
abbrev cX8_canSay : ByteArray := prog_10_method_87_code
def yX8_canSay : MethodName := ⟨RX8, "canSay", "(III)Z"⟩
abbrev cX8_hint : ByteArray := prog_10_method_88_code
def yX8_hint : MethodName := ⟨RX8, "hint", "(III)I"⟩
abbrev cX8_pass : ByteArray := prog_10_method_89_code
def yX8_pass : MethodName := ⟨RX8, "pass", "()I"⟩
abbrev cX8_advises : ByteArray := prog_10_method_90_code
def yX8_advises : MethodName := ⟨RX8, "advises", "(IIII)V"⟩
abbrev cX8_findsHint : ByteArray := prog_10_method_91_code
def yX8_findsHint : MethodName := ⟨RX8, "findsHint", "(Z)Z"⟩
abbrev cX8_placeWith : ByteArray := prog_10_method_92_code
def yX8_placeWith : MethodName := ⟨RX8, "placeWith", "(I)I"⟩
abbrev cX8_findsAdvice : ByteArray := prog_10_method_93_code
def yX8_findsAdvice : MethodName := ⟨RX8, "findsAdvice", "()V"⟩
abbrev cX8_advice : ByteArray := prog_10_method_94_code
def yX8_advice : MethodName := ⟨RX8, "advice", "(I)I"⟩
abbrev cX8_follows : ByteArray := prog_10_method_95_code
def yX8_follows : MethodName := ⟨RX8, "follows", "()V"⟩
abbrev cX8_follow : ByteArray := prog_10_method_96_code
def yX8_follow : MethodName := ⟨RX8, "follow", "(I)I"⟩
abbrev cX8_foreseen : ByteArray := prog_10_method_97_code
def yX8_foreseen : MethodName := ⟨RX8, "foreseen", "()I"⟩
abbrev cX8_boundOf : ByteArray := prog_10_method_98_code
def yX8_boundOf : MethodName := ⟨RX8, "boundOf", "()I"⟩
abbrev cX8_bound : ByteArray := prog_10_method_99_code
def yX8_bound : MethodName := ⟨RX8, "bound", "()I"⟩
abbrev cX8_pace : ByteArray := prog_10_method_100_code
def yX8_pace : MethodName := ⟨RX8, "pace", "()I"⟩
abbrev cX8_packed : ByteArray := prog_10_method_101_code
def yX8_packed : MethodName := ⟨RX8, "packed", "()I"⟩
abbrev cX8_unpacks : ByteArray := prog_10_method_102_code
def yX8_unpacks : MethodName := ⟨RX8, "unpacks", "(I)V"⟩
abbrev cX8_isSame : ByteArray := prog_10_method_103_code
def yX8_isSame : MethodName := ⟨RX8, "isSame", "(II)Z"⟩
abbrev cX8_adds : ByteArray := prog_10_method_104_code
def yX8_adds : MethodName := ⟨RX8, "adds", "()V"⟩
abbrev cX8_isFinal : ByteArray := prog_10_method_105_code
def yX8_isFinal : MethodName := ⟨RX8, "isFinal", "()Z"⟩
abbrev cX8_scoreMade : ByteArray := prog_10_method_106_code
def yX8_scoreMade : MethodName := ⟨RX8, "scoreMade", "()I"⟩
abbrev cX8_moves : ByteArray := prog_10_method_107_code
def yX8_moves : MethodName := ⟨RX8, "moves", "(II)V"⟩
abbrev cX8_canPlay : ByteArray := prog_10_method_108_code
def yX8_canPlay : MethodName := ⟨RX8, "canPlay", "(I)Z"⟩
abbrev cX8_goesOn : ByteArray := prog_10_method_109_code
def yX8_goesOn : MethodName := ⟨RX8, "goesOn", "(I)V"⟩
abbrev cX8_makesPresent : ByteArray := prog_10_method_110_code
def yX8_makesPresent : MethodName := ⟨RX8, "makesPresent", "()V"⟩
abbrev cX8_searches : ByteArray := prog_10_method_111_code
def yX8_searches : MethodName := ⟨RX8, "searches", "()I"⟩
abbrev cX8_valueNow : ByteArray := prog_10_method_112_code
def yX8_valueNow : MethodName := ⟨RX8, "valueNow", "()I"⟩
abbrev cX8_value : ByteArray := prog_10_method_113_code
def yX8_value : MethodName := ⟨RX8, "value", "()I"⟩
abbrev cX8_positions : ByteArray := prog_10_method_114_code
def yX8_positions : MethodName := ⟨RX8, "positions", "()I"⟩
abbrev cX8_valueWith : ByteArray := prog_10_method_115_code
def yX8_valueWith : MethodName := ⟨RX8, "valueWith", "(II)I"⟩
abbrev cX8_valueBehind : ByteArray := prog_10_method_116_code
def yX8_valueBehind : MethodName := ⟨RX8, "valueBehind", "(II)I"⟩
abbrev cX8_bestMove : ByteArray := prog_10_method_117_code
def yX8_bestMove : MethodName := ⟨RX8, "bestMove", "(I)I"⟩
abbrev cX8_total : ByteArray := prog_10_method_118_code
def yX8_total : MethodName := ⟨RX8, "total", "(I)I"⟩
abbrev cX8_logPart : ByteArray := prog_10_method_119_code
def yX8_logPart : MethodName := ⟨RX8, "logPart", "(II)I"⟩
abbrev cX8_puts : ByteArray := prog_10_method_120_code
def yX8_puts : MethodName := ⟨RX8, "puts", "(I)V"⟩
abbrev cX8_only : ByteArray := prog_10_method_121_code
def yX8_only : MethodName := ⟨RX8, "only", "(I)I"⟩
abbrev cX8_writeHand : ByteArray := prog_10_method_122_code
def yX8_writeHand : MethodName := ⟨RX8, "writeHand", "(IZ)I"⟩
abbrev cX8_outputByte : ByteArray := prog_10_method_123_code
def yX8_outputByte : MethodName := ⟨RX8, "outputByte", "(I)I"⟩
abbrev cX8_saveSnapshot : ByteArray := prog_10_method_124_code
def yX8_saveSnapshot : MethodName := ⟨RX8, "saveSnapshot", "(I)I"⟩
abbrev cX8_restoreSnapshot : ByteArray := prog_10_method_125_code
def yX8_restoreSnapshot : MethodName := ⟨RX8, "restoreSnapshot", "(I)I"⟩
def RJx145de : String := "java/io/Serializable"
def TJx145de : u_T := fun k => match k with
  | _ => ("", "", "", false)
def tyJx145de : Nat → FieldType := fun k => match k with
  | _ => .int
theorem nmJx145de : ∀ a, a < 0 → ∀ b, b < 0 → a ≠ b → (TJx145de a).2.1 ≠ (TJx145de b).2.1 := by decide +kernel
theorem tyJx145de_ok : ∀ k, k < 0 → parseFieldDescriptor (TJx145de k).2.2.1 = some (tyJx145de k) := by decide +kernel
def RJx9f9b0 : String := "java/lang/CharSequence"
def TJx9f9b0 : u_T := fun k => match k with
  | _ => ("", "", "", false)
def tyJx9f9b0 : Nat → FieldType := fun k => match k with
  | _ => .int
theorem nmJx9f9b0 : ∀ a, a < 0 → ∀ b, b < 0 → a ≠ b → (TJx9f9b0 a).2.1 ≠ (TJx9f9b0 b).2.1 := by decide +kernel
theorem tyJx9f9b0_ok : ∀ k, k < 0 → parseFieldDescriptor (TJx9f9b0 k).2.2.1 = some (tyJx9f9b0 k) := by decide +kernel
def RJxb160c : String := "java/lang/Comparable"
def TJxb160c : u_T := fun k => match k with
  | _ => ("", "", "", false)
def tyJxb160c : Nat → FieldType := fun k => match k with
  | _ => .int
theorem nmJxb160c : ∀ a, a < 0 → ∀ b, b < 0 → a ≠ b → (TJxb160c a).2.1 ≠ (TJxb160c b).2.1 := by decide +kernel
theorem tyJxb160c_ok : ∀ k, k < 0 → parseFieldDescriptor (TJxb160c k).2.2.1 = some (tyJxb160c k) := by decide +kernel
def RJ6 : String := "java/lang/Integer"
def TJ6 : u_T := fun k => match k with
  | _ => ("", "", "", false)
def tyJ6 : Nat → FieldType := fun k => match k with
  | _ => .int
theorem nmJ6 : ∀ a, a < 0 → ∀ b, b < 0 → a ≠ b → (TJ6 a).2.1 ≠ (TJ6 b).2.1 := by decide +kernel
theorem tyJ6_ok : ∀ k, k < 0 → parseFieldDescriptor (TJ6 k).2.2.1 = some (tyJ6 k) := by decide +kernel
abbrev cJ6_bitCount_0f7a4 : ByteArray := prog_14_method_49_code
def yJ6_bitCount_0f7a4 : MethodName := ⟨RJ6, "bitCount", "(I)I"⟩
def RJ13 : String := "java/lang/Long"
def TJ13 : u_T := fun k => match k with
  | _ => ("", "", "", false)
def tyJ13 : Nat → FieldType := fun k => match k with
  | _ => .int
theorem nmJ13 : ∀ a, a < 0 → ∀ b, b < 0 → a ≠ b → (TJ13 a).2.1 ≠ (TJ13 b).2.1 := by decide +kernel
theorem tyJ13_ok : ∀ k, k < 0 → parseFieldDescriptor (TJ13 k).2.2.1 = some (tyJ13 k) := by decide +kernel
abbrev cJ13_bitCount_95d88 : ByteArray := prog_15_method_50_code
def yJ13_bitCount_95d88 : MethodName := ⟨RJ13, "bitCount", "(J)I"⟩
def RJ9 : String := "java/lang/Math"
def TJ9 : u_T := fun k => match k with
  | _ => ("", "", "", false)
def tyJ9 : Nat → FieldType := fun k => match k with
  | _ => .int
theorem nmJ9 : ∀ a, a < 0 → ∀ b, b < 0 → a ≠ b → (TJ9 a).2.1 ≠ (TJ9 b).2.1 := by decide +kernel
theorem tyJ9_ok : ∀ k, k < 0 → parseFieldDescriptor (TJ9 k).2.2.1 = some (tyJ9 k) := by decide +kernel
abbrev cJ9_max_7cf53 : ByteArray := prog_16_method_65_code
def yJ9_max_7cf53 : MethodName := ⟨RJ9, "max", "(II)I"⟩
abbrev cJ9_min_7cf53 : ByteArray := prog_16_method_69_code
def yJ9_min_7cf53 : MethodName := ⟨RJ9, "min", "(II)I"⟩
def RJ0 : String := "java/lang/String"
def TJ0 : u_T := fun k => match k with
  | _ => ("", "", "", false)
def tyJ0 : Nat → FieldType := fun k => match k with
  | _ => .int
theorem nmJ0 : ∀ a, a < 0 → ∀ b, b < 0 → a ≠ b → (TJ0 a).2.1 ≠ (TJ0 b).2.1 := by decide +kernel
theorem tyJ0_ok : ∀ k, k < 0 → parseFieldDescriptor (TJ0 k).2.2.1 = some (tyJ0 k) := by decide +kernel
abbrev cJ0_length_8abf5 : ByteArray := prog_18_method_54_code
def yJ0_length_8abf5 : MethodName := ⟨RJ0, "length", "()I"⟩
abbrev cJ0_charAt_5068e : ByteArray := prog_18_method_56_code
def yJ0_charAt_5068e : MethodName := ⟨RJ0, "charAt", "(I)C"⟩
abbrev cJ0_coder_7d493 : ByteArray := prog_18_method_152_code
def yJ0_coder_7d493 : MethodName := ⟨RJ0, "coder", "()B"⟩
abbrev cJ0_isLatin1_aae02 : ByteArray := prog_18_method_154_code
def yJ0_isLatin1_aae02 : MethodName := ⟨RJ0, "isLatin1", "()Z"⟩
abbrev cJ0_checkIndex_df160 : ByteArray := prog_18_method_155_code
def yJ0_checkIndex_df160 : MethodName := ⟨RJ0, "checkIndex", "(II)V"⟩
def RJ1 : String := "java/lang/StringLatin1"
def TJ1 : u_T := fun k => match k with
  | _ => ("", "", "", false)
def tyJ1 : Nat → FieldType := fun k => match k with
  | _ => .int
theorem nmJ1 : ∀ a, a < 0 → ∀ b, b < 0 → a ≠ b → (TJ1 a).2.1 ≠ (TJ1 b).2.1 := by decide +kernel
theorem tyJ1_ok : ∀ k, k < 0 → parseFieldDescriptor (TJ1 k).2.2.1 = some (tyJ1 k) := by decide +kernel
abbrev cJ1_charAt_3b067 : ByteArray := prog_19_method_2_code
def yJ1_charAt_3b067 : MethodName := ⟨RJ1, "charAt", "([BI)C"⟩
def RJ2 : String := "java/lang/StringUTF16"
def TJ2 : u_T := fun k => match k with
  | _ => ("", "", "", false)
def tyJ2 : Nat → FieldType := fun k => match k with
  | _ => .int
theorem nmJ2 : ∀ a, a < 0 → ∀ b, b < 0 → a ≠ b → (TJ2 a).2.1 ≠ (TJ2 b).2.1 := by decide +kernel
theorem tyJ2_ok : ∀ k, k < 0 → parseFieldDescriptor (TJ2 k).2.2.1 = some (tyJ2 k) := by decide +kernel
abbrev cJ2_getChar_3b067 : ByteArray := prog_20_method_5_code
def yJ2_getChar_3b067 : MethodName := ⟨RJ2, "getChar", "([BI)C"⟩
abbrev cJ2_length_9d52b : ByteArray := prog_20_method_6_code
def yJ2_length_9d52b : MethodName := ⟨RJ2, "length", "([B)I"⟩
abbrev cJ2_charAt_3b067 : ByteArray := prog_20_method_83_code
def yJ2_charAt_3b067 : MethodName := ⟨RJ2, "charAt", "([BI)C"⟩
abbrev cJ2_checkIndex_2214a : ByteArray := prog_20_method_91_code
def yJ2_checkIndex_2214a : MethodName := ⟨RJ2, "checkIndex", "(I[B)V"⟩
def RJ10 : String := "java/lang/System"
def TJ10 : u_T := fun k => match k with
  | _ => ("", "", "", false)
def tyJ10 : Nat → FieldType := fun k => match k with
  | _ => .int
theorem nmJ10 : ∀ a, a < 0 → ∀ b, b < 0 → a ≠ b → (TJ10 a).2.1 ≠ (TJ10 b).2.1 := by decide +kernel
theorem tyJ10_ok : ∀ k, k < 0 → parseFieldDescriptor (TJ10 k).2.2.1 = some (tyJ10 k) := by decide +kernel
def RJxfd54e : String := "java/lang/constant/Constable"
def TJxfd54e : u_T := fun k => match k with
  | _ => ("", "", "", false)
def tyJxfd54e : Nat → FieldType := fun k => match k with
  | _ => .int
theorem nmJxfd54e : ∀ a, a < 0 → ∀ b, b < 0 → a ≠ b → (TJxfd54e a).2.1 ≠ (TJxfd54e b).2.1 := by decide +kernel
theorem tyJxfd54e_ok : ∀ k, k < 0 → parseFieldDescriptor (TJxfd54e k).2.2.1 = some (tyJxfd54e k) := by decide +kernel
def RJx3cf43 : String := "java/lang/constant/ConstantDesc"
def TJx3cf43 : u_T := fun k => match k with
  | _ => ("", "", "", false)
def tyJx3cf43 : Nat → FieldType := fun k => match k with
  | _ => .int
theorem nmJx3cf43 : ∀ a, a < 0 → ∀ b, b < 0 → a ≠ b → (TJx3cf43 a).2.1 ≠ (TJx3cf43 b).2.1 := by decide +kernel
theorem tyJx3cf43_ok : ∀ k, k < 0 → parseFieldDescriptor (TJx3cf43 k).2.2.1 = some (tyJx3cf43 k) := by decide +kernel
def RJ7 : String := "java/util/Arrays"
def TJ7 : u_T := fun k => match k with
  | _ => ("", "", "", false)
def tyJ7 : Nat → FieldType := fun k => match k with
  | _ => .int
theorem nmJ7 : ∀ a, a < 0 → ∀ b, b < 0 → a ≠ b → (TJ7 a).2.1 ≠ (TJ7 b).2.1 := by decide +kernel
theorem tyJ7_ok : ∀ k, k < 0 → parseFieldDescriptor (TJ7 k).2.2.1 = some (tyJ7 k) := by decide +kernel
abbrev cJ7_fill_53178 : ByteArray := prog_23_method_103_code
def yJ7_fill_53178 : MethodName := ⟨RJ7, "fill", "([II)V"⟩
def RJ3 : String := "jdk/internal/util/Preconditions"
def TJ3 : u_T := fun k => match k with
  | _ => ("", "", "", false)
def tyJ3 : Nat → FieldType := fun k => match k with
  | _ => .int
theorem nmJ3 : ∀ a, a < 0 → ∀ b, b < 0 → a ≠ b → (TJ3 a).2.1 ≠ (TJ3 b).2.1 := by decide +kernel
theorem tyJ3_ok : ∀ k, k < 0 → parseFieldDescriptor (TJ3 k).2.2.1 = some (tyJ3 k) := by decide +kernel
abbrev cJ3_checkIndex_8e157 : ByteArray := prog_24_method_11_code
def yJ3_checkIndex_8e157 : MethodName := ⟨RJ3, "checkIndex", "(IILjava/util/function/BiFunction;)I"⟩
def RL : String := "HintTeamLaw"
abbrev cL_count : ByteArray := method_3_code
def yL_count : MethodName := ⟨RL, "count", "(LHintTeam;I[J)I"⟩
abbrev cL_pile : ByteArray := method_4_code
def yL_pile : MethodName := ⟨RL, "pile", "(LHintTeam;I[J)I"⟩
abbrev cL_hand : ByteArray := method_5_code
def yL_hand : MethodName := ⟨RL, "hand", "(LHintTeam;I[J)I"⟩
abbrev cL_card : ByteArray := method_6_code
def yL_card : MethodName := ⟨RL, "card", "(LHintTeam;II[J)I"⟩
abbrev cL_copies : ByteArray := method_7_code
def yL_copies : MethodName := ⟨RL, "copies", "(LHintTeam;III[J)I"⟩
abbrev cL_isUseless : ByteArray := method_8_code
def yL_isUseless : MethodName := ⟨RL, "isUseless", "(LHintTeam;II[J)I"⟩
abbrev cL_isCritical : ByteArray := method_9_code
def yL_isCritical : MethodName := ⟨RL, "isCritical", "(LHintTeam;II[J)I"⟩
abbrev cL_colorsOf : ByteArray := method_10_code
def yL_colorsOf : MethodName := ⟨RL, "colorsOf", "(LHintTeam;II[J)I"⟩
abbrev cL_ranksOf : ByteArray := method_11_code
def yL_ranksOf : MethodName := ⟨RL, "ranksOf", "(LHintTeam;II[J)I"⟩
abbrev cL_isTouched : ByteArray := method_12_code
def yL_isTouched : MethodName := ⟨RL, "isTouched", "(LHintTeam;II[J)I"⟩
abbrev cL_thinks : ByteArray := method_13_code
def yL_thinks : MethodName := ⟨RL, "thinks", "(LHintTeam;II[J)I"⟩
abbrev cL_thought : ByteArray := method_14_code
def yL_thought : MethodName := ⟨RL, "thought", "(LHintTeam;III[J)I"⟩
abbrev cL_knows : ByteArray := method_15_code
def yL_knows : MethodName := ⟨RL, "knows", "(LHintTeam;II[J)I"⟩
abbrev cL_wordsLeft : ByteArray := method_16_code
def yL_wordsLeft : MethodName := ⟨RL, "wordsLeft", "(LHintTeam;II[J)I"⟩
abbrev cL_touches : ByteArray := method_17_code
def yL_touches : MethodName := ⟨RL, "touches", "(LHintTeam;III[J)I"⟩
abbrev cL_tells : ByteArray := method_18_code
def yL_tells : MethodName := ⟨RL, "tells", "(LHintTeam;III[J)I"⟩
abbrev cL_play : ByteArray := method_19_code
def yL_play : MethodName := ⟨RL, "play", "(LHintTeam;I[J)I"⟩
abbrev cL_discard : ByteArray := method_20_code
def yL_discard : MethodName := ⟨RL, "discard", "(LHintTeam;I[J)I"⟩
abbrev cL_hint : ByteArray := method_21_code
def yL_hint : MethodName := ⟨RL, "hint", "(LHintTeam;III[J)I"⟩
abbrev cL_advice : ByteArray := method_22_code
def yL_advice : MethodName := ⟨RL, "advice", "(LHintTeam;I[J)I"⟩
abbrev cL_follow : ByteArray := method_23_code
def yL_follow : MethodName := ⟨RL, "follow", "(LHintTeam;I[J)I"⟩
abbrev cL_valueBehind : ByteArray := method_24_code
def yL_valueBehind : MethodName := ⟨RL, "valueBehind", "(LHintTeam;II[J)I"⟩
abbrev cL_bestMove : ByteArray := method_25_code
def yL_bestMove : MethodName := ⟨RL, "bestMove", "(LHintTeam;I[J)I"⟩
abbrev cL_total : ByteArray := method_26_code
def yL_total : MethodName := ⟨RL, "total", "(LHintTeam;I[J)I"⟩
abbrev cL_logPart : ByteArray := method_27_code
def yL_logPart : MethodName := ⟨RL, "logPart", "(LHintTeam;II[J)I"⟩
abbrev cL_writeHand : ByteArray := method_28_code
def yL_writeHand : MethodName := ⟨RL, "writeHand", "(LHintTeam;IZ[J)I"⟩
abbrev cL_saveSnapshot : ByteArray := method_29_code
def yL_saveSnapshot : MethodName := ⟨RL, "saveSnapshot", "(LHintTeam;I[J)I"⟩
abbrev cL_restoreSnapshot : ByteArray := method_30_code
def yL_restoreSnapshot : MethodName := ⟨RL, "restoreSnapshot", "(LHintTeam;I[J)I"⟩
abbrev cL_law : ByteArray := code
def yL_law : MethodName := ⟨RL, "law", "([I)Z"⟩
abbrev vwCl : List vw_C := [(RX0, TX0, 6), (RX1, TX1, 16), (RX2, TX2, 1), (RX3, TX3, 7), (RX4, TX4, 9), (RX5, TX5, 11), (RX6, TX6, 10), (RX7, TX7, 15), (RX8, TX8, 31)]
