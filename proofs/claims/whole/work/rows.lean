section
-- ===== PART A: goes FIRST, ahead of the names: the tables' words, and 'selects' of the private methods out of them =====
/-- a private method of a class that the tables say can be made, by its rows of tables_1 -/
def lw_okq (q : MethodName × Nat) : Prop := (q.1.cls ≠ "java/lang/invoke/MethodHandle" ∧ q.1.cls ≠ "java/lang/invoke/VarHandle") ∧ Cond.instantiable q.1.cls q.2 ∈ tables_1 ∧ Cond.privateMethod q.1 ∈ tables_1 ∧ Cond.instanceMethod q.1 ∈ tables_1
theorem lw_p0 : lw_okq (⟨"OddPairs", "putBytes", "(I)V"⟩, 12) := ⟨⟨by decide +kernel, by decide +kernel⟩, List.mem_of_getElem? (i := 23) (by decide +kernel), List.mem_of_getElem? (i := 254) (by decide +kernel), List.mem_of_getElem? (i := 255) (by decide +kernel)⟩
theorem lw_p1 : lw_okq (⟨"OddPairs$Greatest", "learnSet", "(LOddPairs$Net;II)V"⟩, 8) := ⟨⟨by decide +kernel, by decide +kernel⟩, List.mem_of_getElem? (i := 108) (by decide +kernel), List.mem_of_getElem? (i := 278) (by decide +kernel), List.mem_of_getElem? (i := 279) (by decide +kernel)⟩
theorem lw_p2 : lw_okq (⟨"OddPairs$Greatest", "weighIn", "(III)V"⟩, 8) := ⟨⟨by decide +kernel, by decide +kernel⟩, List.mem_of_getElem? (i := 108) (by decide +kernel), List.mem_of_getElem? (i := 287) (by decide +kernel), List.mem_of_getElem? (i := 288) (by decide +kernel)⟩
theorem lw_p3 : lw_okq (⟨"OddPairs$Greatest", "firstMate", "(LOddPairs$Net;II)I"⟩, 8) := ⟨⟨by decide +kernel, by decide +kernel⟩, List.mem_of_getElem? (i := 108) (by decide +kernel), List.mem_of_getElem? (i := 298) (by decide +kernel), List.mem_of_getElem? (i := 299) (by decide +kernel)⟩
theorem lw_p4 : lw_okq (⟨"OddPairs", "remember", "()V"⟩, 12) := ⟨⟨by decide +kernel, by decide +kernel⟩, List.mem_of_getElem? (i := 23) (by decide +kernel), List.mem_of_getElem? (i := 307) (by decide +kernel), List.mem_of_getElem? (i := 308) (by decide +kernel)⟩
theorem lw_p5 : lw_okq (⟨"OddPairs", "dropOldest", "()V"⟩, 12) := ⟨⟨by decide +kernel, by decide +kernel⟩, List.mem_of_getElem? (i := 23) (by decide +kernel), List.mem_of_getElem? (i := 311) (by decide +kernel), List.mem_of_getElem? (i := 312) (by decide +kernel)⟩
theorem lw_p6 : lw_okq (⟨"OddPairs", "forgetAnswers", "()V"⟩, 12) := ⟨⟨by decide +kernel, by decide +kernel⟩, List.mem_of_getElem? (i := 23) (by decide +kernel), List.mem_of_getElem? (i := 327) (by decide +kernel), List.mem_of_getElem? (i := 328) (by decide +kernel)⟩
theorem lw_p7 : lw_okq (⟨"OddPairs", "learn", "()V"⟩, 12) := ⟨⟨by decide +kernel, by decide +kernel⟩, List.mem_of_getElem? (i := 23) (by decide +kernel), List.mem_of_getElem? (i := 335) (by decide +kernel), List.mem_of_getElem? (i := 336) (by decide +kernel)⟩
theorem lw_p8 : lw_okq (⟨"OddPairs", "needArgument", "(Z)V"⟩, 12) := ⟨⟨by decide +kernel, by decide +kernel⟩, List.mem_of_getElem? (i := 23) (by decide +kernel), List.mem_of_getElem? (i := 363) (by decide +kernel), List.mem_of_getElem? (i := 364) (by decide +kernel)⟩
theorem lw_p9 : lw_okq (⟨"java/lang/Throwable", "fillInStackTrace", "(I)Ljava/lang/Throwable;"⟩, 6) := ⟨⟨by decide +kernel, by decide +kernel⟩, List.mem_of_getElem? (i := 405) (by decide +kernel), List.mem_of_getElem? (i := 403) (by decide +kernel), List.mem_of_getElem? (i := 404) (by decide +kernel)⟩
theorem lw_p10 : lw_okq (⟨"OddPairs$Reader", "readNodes", "(LOddPairs$Net;)V"⟩, 8) := ⟨⟨by decide +kernel, by decide +kernel⟩, List.mem_of_getElem? (i := 75) (by decide +kernel), List.mem_of_getElem? (i := 438) (by decide +kernel), List.mem_of_getElem? (i := 439) (by decide +kernel)⟩
theorem lw_p11 : lw_okq (⟨"OddPairs$Reader", "takeWord", "(Ljava/lang/String;)Z"⟩, 8) := ⟨⟨by decide +kernel, by decide +kernel⟩, List.mem_of_getElem? (i := 75) (by decide +kernel), List.mem_of_getElem? (i := 443) (by decide +kernel), List.mem_of_getElem? (i := 444) (by decide +kernel)⟩
theorem lw_p12 : lw_okq (⟨"OddPairs$Reader", "skipBlanks", "()V"⟩, 8) := ⟨⟨by decide +kernel, by decide +kernel⟩, List.mem_of_getElem? (i := 75) (by decide +kernel), List.mem_of_getElem? (i := 447) (by decide +kernel), List.mem_of_getElem? (i := 448) (by decide +kernel)⟩
theorem lw_p13 : lw_okq (⟨"OddPairs$Reader", "fail", "(II)V"⟩, 8) := ⟨⟨by decide +kernel, by decide +kernel⟩, List.mem_of_getElem? (i := 75) (by decide +kernel), List.mem_of_getElem? (i := 499) (by decide +kernel), List.mem_of_getElem? (i := 500) (by decide +kernel)⟩
theorem lw_p14 : lw_okq (⟨"OddPairs$Reader", "takeNumber", "(II)I"⟩, 8) := ⟨⟨by decide +kernel, by decide +kernel⟩, List.mem_of_getElem? (i := 75) (by decide +kernel), List.mem_of_getElem? (i := 503) (by decide +kernel), List.mem_of_getElem? (i := 504) (by decide +kernel)⟩
theorem lw_p15 : lw_okq (⟨"OddPairs$Reader", "isNumberAhead", "()Z"⟩, 8) := ⟨⟨by decide +kernel, by decide +kernel⟩, List.mem_of_getElem? (i := 75) (by decide +kernel), List.mem_of_getElem? (i := 507) (by decide +kernel), List.mem_of_getElem? (i := 508) (by decide +kernel)⟩
def lw_privs_1 : List (MethodName × Nat) := [(⟨"OddPairs", "putBytes", "(I)V"⟩, 12), (⟨"OddPairs$Greatest", "learnSet", "(LOddPairs$Net;II)V"⟩, 8), (⟨"OddPairs$Greatest", "weighIn", "(III)V"⟩, 8), (⟨"OddPairs$Greatest", "firstMate", "(LOddPairs$Net;II)I"⟩, 8), (⟨"OddPairs", "remember", "()V"⟩, 12), (⟨"OddPairs", "dropOldest", "()V"⟩, 12), (⟨"OddPairs", "forgetAnswers", "()V"⟩, 12), (⟨"OddPairs", "learn", "()V"⟩, 12), (⟨"OddPairs", "needArgument", "(Z)V"⟩, 12), (⟨"java/lang/Throwable", "fillInStackTrace", "(I)Ljava/lang/Throwable;"⟩, 6), (⟨"OddPairs$Reader", "readNodes", "(LOddPairs$Net;)V"⟩, 8), (⟨"OddPairs$Reader", "takeWord", "(Ljava/lang/String;)Z"⟩, 8), (⟨"OddPairs$Reader", "skipBlanks", "()V"⟩, 8), (⟨"OddPairs$Reader", "fail", "(II)V"⟩, 8), (⟨"OddPairs$Reader", "takeNumber", "(II)I"⟩, 8), (⟨"OddPairs$Reader", "isNumberAhead", "()Z"⟩, 8)]
theorem lw_r1 : ∀ q ∈ lw_privs_1, lw_okq q := List.forall_mem_cons.mpr ⟨lw_p0, List.forall_mem_cons.mpr ⟨lw_p1, List.forall_mem_cons.mpr ⟨lw_p2, List.forall_mem_cons.mpr ⟨lw_p3, List.forall_mem_cons.mpr ⟨lw_p4, List.forall_mem_cons.mpr ⟨lw_p5, List.forall_mem_cons.mpr ⟨lw_p6, List.forall_mem_cons.mpr ⟨lw_p7, List.forall_mem_cons.mpr ⟨lw_p8, List.forall_mem_cons.mpr ⟨lw_p9, List.forall_mem_cons.mpr ⟨lw_p10, List.forall_mem_cons.mpr ⟨lw_p11, List.forall_mem_cons.mpr ⟨lw_p12, List.forall_mem_cons.mpr ⟨lw_p13, List.forall_mem_cons.mpr ⟨lw_p14, List.forall_mem_cons.mpr ⟨lw_p15, fun _ h => absurd h List.not_mem_nil⟩⟩⟩⟩⟩⟩⟩⟩⟩⟩⟩⟩⟩⟩⟩⟩
theorem lw_p16 : lw_okq (⟨"OddPairs$Reader", "takeEnd", "()V"⟩, 8) := ⟨⟨by decide +kernel, by decide +kernel⟩, List.mem_of_getElem? (i := 75) (by decide +kernel), List.mem_of_getElem? (i := 515) (by decide +kernel), List.mem_of_getElem? (i := 516) (by decide +kernel)⟩
theorem lw_p17 : lw_okq (⟨"OddPairs$Reader", "isAtEnd", "()Z"⟩, 8) := ⟨⟨by decide +kernel, by decide +kernel⟩, List.mem_of_getElem? (i := 75) (by decide +kernel), List.mem_of_getElem? (i := 520) (by decide +kernel), List.mem_of_getElem? (i := 521) (by decide +kernel)⟩
theorem lw_p18 : lw_okq (⟨"OddPairs$Reader", "readStatement", "(LOddPairs$Net;)V"⟩, 8) := ⟨⟨by decide +kernel, by decide +kernel⟩, List.mem_of_getElem? (i := 75) (by decide +kernel), List.mem_of_getElem? (i := 524) (by decide +kernel), List.mem_of_getElem? (i := 525) (by decide +kernel)⟩
theorem lw_p19 : lw_okq (⟨"OddPairs$Reader", "readLine", "(LOddPairs$Net;)V"⟩, 8) := ⟨⟨by decide +kernel, by decide +kernel⟩, List.mem_of_getElem? (i := 75) (by decide +kernel), List.mem_of_getElem? (i := 529) (by decide +kernel), List.mem_of_getElem? (i := 530) (by decide +kernel)⟩
theorem lw_p20 : lw_okq (⟨"OddPairs$Reader", "needUnlike", "(II)V"⟩, 8) := ⟨⟨by decide +kernel, by decide +kernel⟩, List.mem_of_getElem? (i := 75) (by decide +kernel), List.mem_of_getElem? (i := 533) (by decide +kernel), List.mem_of_getElem? (i := 534) (by decide +kernel)⟩
theorem lw_p21 : lw_okq (⟨"OddPairs$Reader", "readRing", "(LOddPairs$Net;)V"⟩, 8) := ⟨⟨by decide +kernel, by decide +kernel⟩, List.mem_of_getElem? (i := 75) (by decide +kernel), List.mem_of_getElem? (i := 539) (by decide +kernel), List.mem_of_getElem? (i := 540) (by decide +kernel)⟩
theorem lw_p22 : lw_okq (⟨"OddPairs$Reader", "readAll", "(LOddPairs$Net;)V"⟩, 8) := ⟨⟨by decide +kernel, by decide +kernel⟩, List.mem_of_getElem? (i := 75) (by decide +kernel), List.mem_of_getElem? (i := 550) (by decide +kernel), List.mem_of_getElem? (i := 551) (by decide +kernel)⟩
theorem lw_p23 : lw_okq (⟨"OddPairs$Reader", "readPair", "(LOddPairs$Net;)V"⟩, 8) := ⟨⟨by decide +kernel, by decide +kernel⟩, List.mem_of_getElem? (i := 75) (by decide +kernel), List.mem_of_getElem? (i := 555) (by decide +kernel), List.mem_of_getElem? (i := 556) (by decide +kernel)⟩
theorem lw_p24 : lw_okq (⟨"OddPairs", "becomeDraft", "()V"⟩, 12) := ⟨⟨by decide +kernel, by decide +kernel⟩, List.mem_of_getElem? (i := 23) (by decide +kernel), List.mem_of_getElem? (i := 571) (by decide +kernel), List.mem_of_getElem? (i := 572) (by decide +kernel)⟩
theorem lw_p25 : lw_okq (⟨"OddPairs", "rememberLines", "()V"⟩, 12) := ⟨⟨by decide +kernel, by decide +kernel⟩, List.mem_of_getElem? (i := 23) (by decide +kernel), List.mem_of_getElem? (i := 575) (by decide +kernel), List.mem_of_getElem? (i := 576) (by decide +kernel)⟩
theorem lw_p26 : lw_okq (⟨"OddPairs", "needNode", "(I)V"⟩, 12) := ⟨⟨by decide +kernel, by decide +kernel⟩, List.mem_of_getElem? (i := 23) (by decide +kernel), List.mem_of_getElem? (i := 587) (by decide +kernel), List.mem_of_getElem? (i := 588) (by decide +kernel)⟩
theorem lw_p27 : lw_okq (⟨"OddPairs", "needTwoNodes", "(II)V"⟩, 12) := ⟨⟨by decide +kernel, by decide +kernel⟩, List.mem_of_getElem? (i := 23) (by decide +kernel), List.mem_of_getElem? (i := 619) (by decide +kernel), List.mem_of_getElem? (i := 620) (by decide +kernel)⟩
theorem lw_p28 : lw_okq (⟨"OddPairs", "needState", "(Z)V"⟩, 12) := ⟨⟨by decide +kernel, by decide +kernel⟩, List.mem_of_getElem? (i := 23) (by decide +kernel), List.mem_of_getElem? (i := 623) (by decide +kernel), List.mem_of_getElem? (i := 624) (by decide +kernel)⟩
theorem lw_p29 : lw_okq (⟨"OddPairs$Walks", "spread", "(LOddPairs$Net;I)V"⟩, 9) := ⟨⟨by decide +kernel, by decide +kernel⟩, List.mem_of_getElem? (i := 161) (by decide +kernel), List.mem_of_getElem? (i := 680) (by decide +kernel), List.mem_of_getElem? (i := 681) (by decide +kernel)⟩
theorem lw_p30 : lw_okq (⟨"OddPairs$Walks", "add", "(III)V"⟩, 9) := ⟨⟨by decide +kernel, by decide +kernel⟩, List.mem_of_getElem? (i := 161) (by decide +kernel), List.mem_of_getElem? (i := 684) (by decide +kernel), List.mem_of_getElem? (i := 685) (by decide +kernel)⟩
theorem lw_p31 : lw_okq (⟨"OddPairs$Walks", "goOn", "(LOddPairs$Net;I)V"⟩, 9) := ⟨⟨by decide +kernel, by decide +kernel⟩, List.mem_of_getElem? (i := 161) (by decide +kernel), List.mem_of_getElem? (i := 689) (by decide +kernel), List.mem_of_getElem? (i := 690) (by decide +kernel)⟩
def lw_privs_2 : List (MethodName × Nat) := [(⟨"OddPairs$Reader", "takeEnd", "()V"⟩, 8), (⟨"OddPairs$Reader", "isAtEnd", "()Z"⟩, 8), (⟨"OddPairs$Reader", "readStatement", "(LOddPairs$Net;)V"⟩, 8), (⟨"OddPairs$Reader", "readLine", "(LOddPairs$Net;)V"⟩, 8), (⟨"OddPairs$Reader", "needUnlike", "(II)V"⟩, 8), (⟨"OddPairs$Reader", "readRing", "(LOddPairs$Net;)V"⟩, 8), (⟨"OddPairs$Reader", "readAll", "(LOddPairs$Net;)V"⟩, 8), (⟨"OddPairs$Reader", "readPair", "(LOddPairs$Net;)V"⟩, 8), (⟨"OddPairs", "becomeDraft", "()V"⟩, 12), (⟨"OddPairs", "rememberLines", "()V"⟩, 12), (⟨"OddPairs", "needNode", "(I)V"⟩, 12), (⟨"OddPairs", "needTwoNodes", "(II)V"⟩, 12), (⟨"OddPairs", "needState", "(Z)V"⟩, 12), (⟨"OddPairs$Walks", "spread", "(LOddPairs$Net;I)V"⟩, 9), (⟨"OddPairs$Walks", "add", "(III)V"⟩, 9), (⟨"OddPairs$Walks", "goOn", "(LOddPairs$Net;I)V"⟩, 9)]
theorem lw_r2 : ∀ q ∈ lw_privs_2, lw_okq q := List.forall_mem_cons.mpr ⟨lw_p16, List.forall_mem_cons.mpr ⟨lw_p17, List.forall_mem_cons.mpr ⟨lw_p18, List.forall_mem_cons.mpr ⟨lw_p19, List.forall_mem_cons.mpr ⟨lw_p20, List.forall_mem_cons.mpr ⟨lw_p21, List.forall_mem_cons.mpr ⟨lw_p22, List.forall_mem_cons.mpr ⟨lw_p23, List.forall_mem_cons.mpr ⟨lw_p24, List.forall_mem_cons.mpr ⟨lw_p25, List.forall_mem_cons.mpr ⟨lw_p26, List.forall_mem_cons.mpr ⟨lw_p27, List.forall_mem_cons.mpr ⟨lw_p28, List.forall_mem_cons.mpr ⟨lw_p29, List.forall_mem_cons.mpr ⟨lw_p30, List.forall_mem_cons.mpr ⟨lw_p31, fun _ h => absurd h List.not_mem_nil⟩⟩⟩⟩⟩⟩⟩⟩⟩⟩⟩⟩⟩⟩⟩⟩
theorem lw_p32 : lw_okq (⟨"OddPairs$Walks", "freeBeside", "(LOddPairs$Net;II)I"⟩, 9) := ⟨⟨by decide +kernel, by decide +kernel⟩, List.mem_of_getElem? (i := 161) (by decide +kernel), List.mem_of_getElem? (i := 693) (by decide +kernel), List.mem_of_getElem? (i := 694) (by decide +kernel)⟩
theorem lw_p33 : lw_okq (⟨"OddPairs$Walks", "fillRow", "(LOddPairs$Net;I)V"⟩, 9) := ⟨⟨by decide +kernel, by decide +kernel⟩, List.mem_of_getElem? (i := 161) (by decide +kernel), List.mem_of_getElem? (i := 698) (by decide +kernel), List.mem_of_getElem? (i := 699) (by decide +kernel)⟩
theorem lw_p34 : lw_okq (⟨"OddPairs$Walks", "addToRow", "(I)V"⟩, 9) := ⟨⟨by decide +kernel, by decide +kernel⟩, List.mem_of_getElem? (i := 161) (by decide +kernel), List.mem_of_getElem? (i := 708) (by decide +kernel), List.mem_of_getElem? (i := 709) (by decide +kernel)⟩
theorem lw_p35 : lw_okq (⟨"OddPairs$Walks", "numberAnew", "(II)I"⟩, 9) := ⟨⟨by decide +kernel, by decide +kernel⟩, List.mem_of_getElem? (i := 161) (by decide +kernel), List.mem_of_getElem? (i := 733) (by decide +kernel), List.mem_of_getElem? (i := 734) (by decide +kernel)⟩
theorem lw_p36 : lw_okq (⟨"OddPairs$Greatest", "without", "(II)I"⟩, 8) := ⟨⟨by decide +kernel, by decide +kernel⟩, List.mem_of_getElem? (i := 108) (by decide +kernel), List.mem_of_getElem? (i := 774) (by decide +kernel), List.mem_of_getElem? (i := 775) (by decide +kernel)⟩
theorem lw_p37 : lw_okq (⟨"OddPairs", "labelOf", "(I)I"⟩, 12) := ⟨⟨by decide +kernel, by decide +kernel⟩, List.mem_of_getElem? (i := 23) (by decide +kernel), List.mem_of_getElem? (i := 791) (by decide +kernel), List.mem_of_getElem? (i := 792) (by decide +kernel)⟩
theorem lw_p38 : lw_okq (⟨"OddPairs$Walks", "markEnds", "(LOddPairs$Net;)V"⟩, 9) := ⟨⟨by decide +kernel, by decide +kernel⟩, List.mem_of_getElem? (i := 161) (by decide +kernel), List.mem_of_getElem? (i := 799) (by decide +kernel), List.mem_of_getElem? (i := 800) (by decide +kernel)⟩
theorem lw_p39 : lw_okq (⟨"OddPairs", "setOf", "(I)I"⟩, 12) := ⟨⟨by decide +kernel, by decide +kernel⟩, List.mem_of_getElem? (i := 23) (by decide +kernel), List.mem_of_getElem? (i := 809) (by decide +kernel), List.mem_of_getElem? (i := 810) (by decide +kernel)⟩
theorem lw_p40 : lw_okq (⟨"OddPairs$Parts", "partOf", "(II)I"⟩, 4) := ⟨⟨by decide +kernel, by decide +kernel⟩, List.mem_of_getElem? (i := 141) (by decide +kernel), List.mem_of_getElem? (i := 837) (by decide +kernel), List.mem_of_getElem? (i := 838) (by decide +kernel)⟩
theorem lw_p41 : lw_okq (⟨"OddPairs$Parts", "isBarrier", "(II)Z"⟩, 4) := ⟨⟨by decide +kernel, by decide +kernel⟩, List.mem_of_getElem? (i := 141) (by decide +kernel), List.mem_of_getElem? (i := 857) (by decide +kernel), List.mem_of_getElem? (i := 858) (by decide +kernel)⟩
theorem lw_p42 : lw_okq (⟨"OddPairs", "placeInRow", "(I)I"⟩, 12) := ⟨⟨by decide +kernel, by decide +kernel⟩, List.mem_of_getElem? (i := 23) (by decide +kernel), List.mem_of_getElem? (i := 888) (by decide +kernel), List.mem_of_getElem? (i := 889) (by decide +kernel)⟩
theorem lw_p43 : lw_okq (⟨"OddPairsModel", "changes", "()V"⟩, 27) := ⟨⟨by decide +kernel, by decide +kernel⟩, List.mem_of_getElem? (i := 900) (by decide +kernel), List.mem_of_getElem? (i := 915) (by decide +kernel), List.mem_of_getElem? (i := 916) (by decide +kernel)⟩
theorem lw_p44 : lw_okq (⟨"OddPairsModel", "bad", "(ZII)Z"⟩, 27) := ⟨⟨by decide +kernel, by decide +kernel⟩, List.mem_of_getElem? (i := 900) (by decide +kernel), List.mem_of_getElem? (i := 1018) (by decide +kernel), List.mem_of_getElem? (i := 1019) (by decide +kernel)⟩
theorem lw_p45 : lw_okq (⟨"OddPairsModel", "takes", "(Ljava/lang/String;)Z"⟩, 27) := ⟨⟨by decide +kernel, by decide +kernel⟩, List.mem_of_getElem? (i := 900) (by decide +kernel), List.mem_of_getElem? (i := 1023) (by decide +kernel), List.mem_of_getElem? (i := 1024) (by decide +kernel)⟩
theorem lw_p46 : lw_okq (⟨"OddPairsModel", "fine", "()Z"⟩, 27) := ⟨⟨by decide +kernel, by decide +kernel⟩, List.mem_of_getElem? (i := 900) (by decide +kernel), List.mem_of_getElem? (i := 1027) (by decide +kernel), List.mem_of_getElem? (i := 1028) (by decide +kernel)⟩
theorem lw_p47 : lw_okq (⟨"OddPairsModel", "here", "()I"⟩, 27) := ⟨⟨by decide +kernel, by decide +kernel⟩, List.mem_of_getElem? (i := 900) (by decide +kernel), List.mem_of_getElem? (i := 1031) (by decide +kernel), List.mem_of_getElem? (i := 1032) (by decide +kernel)⟩
def lw_privs_3 : List (MethodName × Nat) := [(⟨"OddPairs$Walks", "freeBeside", "(LOddPairs$Net;II)I"⟩, 9), (⟨"OddPairs$Walks", "fillRow", "(LOddPairs$Net;I)V"⟩, 9), (⟨"OddPairs$Walks", "addToRow", "(I)V"⟩, 9), (⟨"OddPairs$Walks", "numberAnew", "(II)I"⟩, 9), (⟨"OddPairs$Greatest", "without", "(II)I"⟩, 8), (⟨"OddPairs", "labelOf", "(I)I"⟩, 12), (⟨"OddPairs$Walks", "markEnds", "(LOddPairs$Net;)V"⟩, 9), (⟨"OddPairs", "setOf", "(I)I"⟩, 12), (⟨"OddPairs$Parts", "partOf", "(II)I"⟩, 4), (⟨"OddPairs$Parts", "isBarrier", "(II)Z"⟩, 4), (⟨"OddPairs", "placeInRow", "(I)I"⟩, 12), (⟨"OddPairsModel", "changes", "()V"⟩, 27), (⟨"OddPairsModel", "bad", "(ZII)Z"⟩, 27), (⟨"OddPairsModel", "takes", "(Ljava/lang/String;)Z"⟩, 27), (⟨"OddPairsModel", "fine", "()Z"⟩, 27), (⟨"OddPairsModel", "here", "()I"⟩, 27)]
theorem lw_r3 : ∀ q ∈ lw_privs_3, lw_okq q := List.forall_mem_cons.mpr ⟨lw_p32, List.forall_mem_cons.mpr ⟨lw_p33, List.forall_mem_cons.mpr ⟨lw_p34, List.forall_mem_cons.mpr ⟨lw_p35, List.forall_mem_cons.mpr ⟨lw_p36, List.forall_mem_cons.mpr ⟨lw_p37, List.forall_mem_cons.mpr ⟨lw_p38, List.forall_mem_cons.mpr ⟨lw_p39, List.forall_mem_cons.mpr ⟨lw_p40, List.forall_mem_cons.mpr ⟨lw_p41, List.forall_mem_cons.mpr ⟨lw_p42, List.forall_mem_cons.mpr ⟨lw_p43, List.forall_mem_cons.mpr ⟨lw_p44, List.forall_mem_cons.mpr ⟨lw_p45, List.forall_mem_cons.mpr ⟨lw_p46, List.forall_mem_cons.mpr ⟨lw_p47, fun _ h => absurd h List.not_mem_nil⟩⟩⟩⟩⟩⟩⟩⟩⟩⟩⟩⟩⟩⟩⟩⟩
theorem lw_p48 : lw_okq (⟨"OddPairsModel", "byteAt", "(I)I"⟩, 27) := ⟨⟨by decide +kernel, by decide +kernel⟩, List.mem_of_getElem? (i := 900) (by decide +kernel), List.mem_of_getElem? (i := 1035) (by decide +kernel), List.mem_of_getElem? (i := 1036) (by decide +kernel)⟩
theorem lw_p49 : lw_okq (⟨"OddPairsModel", "wrong", "(II)V"⟩, 27) := ⟨⟨by decide +kernel, by decide +kernel⟩, List.mem_of_getElem? (i := 900) (by decide +kernel), List.mem_of_getElem? (i := 1041) (by decide +kernel), List.mem_of_getElem? (i := 1042) (by decide +kernel)⟩
theorem lw_p50 : lw_okq (⟨"OddPairsModel", "number", "(III)I"⟩, 27) := ⟨⟨by decide +kernel, by decide +kernel⟩, List.mem_of_getElem? (i := 900) (by decide +kernel), List.mem_of_getElem? (i := 1045) (by decide +kernel), List.mem_of_getElem? (i := 1046) (by decide +kernel)⟩
theorem lw_p51 : lw_okq (⟨"OddPairsModel", "must", "(I)V"⟩, 27) := ⟨⟨by decide +kernel, by decide +kernel⟩, List.mem_of_getElem? (i := 900) (by decide +kernel), List.mem_of_getElem? (i := 1056) (by decide +kernel), List.mem_of_getElem? (i := 1057) (by decide +kernel)⟩
theorem lw_p52 : lw_okq (⟨"OddPairsModel", "readsLine", "()V"⟩, 27) := ⟨⟨by decide +kernel, by decide +kernel⟩, List.mem_of_getElem? (i := 900) (by decide +kernel), List.mem_of_getElem? (i := 1060) (by decide +kernel), List.mem_of_getElem? (i := 1061) (by decide +kernel)⟩
theorem lw_p53 : lw_okq (⟨"OddPairsModel", "nodeTold", "(I)I"⟩, 27) := ⟨⟨by decide +kernel, by decide +kernel⟩, List.mem_of_getElem? (i := 900) (by decide +kernel), List.mem_of_getElem? (i := 1065) (by decide +kernel), List.mem_of_getElem? (i := 1066) (by decide +kernel)⟩
theorem lw_p54 : lw_okq (⟨"OddPairsModel", "readsRing", "()V"⟩, 27) := ⟨⟨by decide +kernel, by decide +kernel⟩, List.mem_of_getElem? (i := 900) (by decide +kernel), List.mem_of_getElem? (i := 1070) (by decide +kernel), List.mem_of_getElem? (i := 1071) (by decide +kernel)⟩
theorem lw_p55 : lw_okq (⟨"OddPairsModel", "comes", "(II)V"⟩, 27) := ⟨⟨by decide +kernel, by decide +kernel⟩, List.mem_of_getElem? (i := 900) (by decide +kernel), List.mem_of_getElem? (i := 1074) (by decide +kernel), List.mem_of_getElem? (i := 1075) (by decide +kernel)⟩
theorem lw_p56 : lw_okq (⟨"OddPairsModel", "arePairs", "()Z"⟩, 27) := ⟨⟨by decide +kernel, by decide +kernel⟩, List.mem_of_getElem? (i := 900) (by decide +kernel), List.mem_of_getElem? (i := 1080) (by decide +kernel), List.mem_of_getElem? (i := 1081) (by decide +kernel)⟩
theorem lw_p57 : lw_okq (⟨"OddPairsModel", "remembers", "()V"⟩, 27) := ⟨⟨by decide +kernel, by decide +kernel⟩, List.mem_of_getElem? (i := 900) (by decide +kernel), List.mem_of_getElem? (i := 1084) (by decide +kernel), List.mem_of_getElem? (i := 1085) (by decide +kernel)⟩
theorem lw_p58 : lw_okq (⟨"OddPairsModel", "lines", "()I"⟩, 27) := ⟨⟨by decide +kernel, by decide +kernel⟩, List.mem_of_getElem? (i := 900) (by decide +kernel), List.mem_of_getElem? (i := 1091) (by decide +kernel), List.mem_of_getElem? (i := 1092) (by decide +kernel)⟩
theorem lw_p59 : lw_okq (⟨"OddPairsModel", "nodes", "()I"⟩, 27) := ⟨⟨by decide +kernel, by decide +kernel⟩, List.mem_of_getElem? (i := 900) (by decide +kernel), List.mem_of_getElem? (i := 1095) (by decide +kernel), List.mem_of_getElem? (i := 1096) (by decide +kernel)⟩
theorem lw_p60 : lw_okq (⟨"OddPairsModel", "weight", "(II)I"⟩, 27) := ⟨⟨by decide +kernel, by decide +kernel⟩, List.mem_of_getElem? (i := 900) (by decide +kernel), List.mem_of_getElem? (i := 1099) (by decide +kernel), List.mem_of_getElem? (i := 1100) (by decide +kernel)⟩
theorem lw_p61 : lw_okq (⟨"OddPairsModel", "isNode", "(I)Z"⟩, 27) := ⟨⟨by decide +kernel, by decide +kernel⟩, List.mem_of_getElem? (i := 900) (by decide +kernel), List.mem_of_getElem? (i := 1115) (by decide +kernel), List.mem_of_getElem? (i := 1116) (by decide +kernel)⟩
theorem lw_p62 : lw_okq (⟨"OddPairsModel", "mate", "(I)I"⟩, 27) := ⟨⟨by decide +kernel, by decide +kernel⟩, List.mem_of_getElem? (i := 900) (by decide +kernel), List.mem_of_getElem? (i := 1123) (by decide +kernel), List.mem_of_getElem? (i := 1124) (by decide +kernel)⟩
theorem lw_p63 : lw_okq (⟨"OddPairsModel", "parts", "(I)V"⟩, 27) := ⟨⟨by decide +kernel, by decide +kernel⟩, List.mem_of_getElem? (i := 900) (by decide +kernel), List.mem_of_getElem? (i := 1127) (by decide +kernel), List.mem_of_getElem? (i := 1128) (by decide +kernel)⟩
def lw_privs_4 : List (MethodName × Nat) := [(⟨"OddPairsModel", "byteAt", "(I)I"⟩, 27), (⟨"OddPairsModel", "wrong", "(II)V"⟩, 27), (⟨"OddPairsModel", "number", "(III)I"⟩, 27), (⟨"OddPairsModel", "must", "(I)V"⟩, 27), (⟨"OddPairsModel", "readsLine", "()V"⟩, 27), (⟨"OddPairsModel", "nodeTold", "(I)I"⟩, 27), (⟨"OddPairsModel", "readsRing", "()V"⟩, 27), (⟨"OddPairsModel", "comes", "(II)V"⟩, 27), (⟨"OddPairsModel", "arePairs", "()Z"⟩, 27), (⟨"OddPairsModel", "remembers", "()V"⟩, 27), (⟨"OddPairsModel", "lines", "()I"⟩, 27), (⟨"OddPairsModel", "nodes", "()I"⟩, 27), (⟨"OddPairsModel", "weight", "(II)I"⟩, 27), (⟨"OddPairsModel", "isNode", "(I)Z"⟩, 27), (⟨"OddPairsModel", "mate", "(I)I"⟩, 27), (⟨"OddPairsModel", "parts", "(I)V"⟩, 27)]
theorem lw_r4 : ∀ q ∈ lw_privs_4, lw_okq q := List.forall_mem_cons.mpr ⟨lw_p48, List.forall_mem_cons.mpr ⟨lw_p49, List.forall_mem_cons.mpr ⟨lw_p50, List.forall_mem_cons.mpr ⟨lw_p51, List.forall_mem_cons.mpr ⟨lw_p52, List.forall_mem_cons.mpr ⟨lw_p53, List.forall_mem_cons.mpr ⟨lw_p54, List.forall_mem_cons.mpr ⟨lw_p55, List.forall_mem_cons.mpr ⟨lw_p56, List.forall_mem_cons.mpr ⟨lw_p57, List.forall_mem_cons.mpr ⟨lw_p58, List.forall_mem_cons.mpr ⟨lw_p59, List.forall_mem_cons.mpr ⟨lw_p60, List.forall_mem_cons.mpr ⟨lw_p61, List.forall_mem_cons.mpr ⟨lw_p62, List.forall_mem_cons.mpr ⟨lw_p63, fun _ h => absurd h List.not_mem_nil⟩⟩⟩⟩⟩⟩⟩⟩⟩⟩⟩⟩⟩⟩⟩⟩
theorem lw_p64 : lw_okq (⟨"OddPairsModel", "mates", "(II)V"⟩, 27) := ⟨⟨by decide +kernel, by decide +kernel⟩, List.mem_of_getElem? (i := 900) (by decide +kernel), List.mem_of_getElem? (i := 1135) (by decide +kernel), List.mem_of_getElem? (i := 1136) (by decide +kernel)⟩
theorem lw_p65 : lw_okq (⟨"OddPairsModel", "pairsNow", "()I"⟩, 27) := ⟨⟨by decide +kernel, by decide +kernel⟩, List.mem_of_getElem? (i := 900) (by decide +kernel), List.mem_of_getElem? (i := 1139) (by decide +kernel), List.mem_of_getElem? (i := 1140) (by decide +kernel)⟩
theorem lw_p66 : lw_okq (⟨"OddPairsModel", "findsPath", "(I)Z"⟩, 27) := ⟨⟨by decide +kernel, by decide +kernel⟩, List.mem_of_getElem? (i := 900) (by decide +kernel), List.mem_of_getElem? (i := 1151) (by decide +kernel), List.mem_of_getElem? (i := 1152) (by decide +kernel)⟩
theorem lw_p67 : lw_okq (⟨"OddPairsModel", "betters", "(III)Z"⟩, 27) := ⟨⟨by decide +kernel, by decide +kernel⟩, List.mem_of_getElem? (i := 900) (by decide +kernel), List.mem_of_getElem? (i := 1155) (by decide +kernel), List.mem_of_getElem? (i := 1156) (by decide +kernel)⟩
theorem lw_p68 : lw_okq (⟨"OddPairsModel", "laysFirst", "()V"⟩, 27) := ⟨⟨by decide +kernel, by decide +kernel⟩, List.mem_of_getElem? (i := 900) (by decide +kernel), List.mem_of_getElem? (i := 1166) (by decide +kernel), List.mem_of_getElem? (i := 1167) (by decide +kernel)⟩
theorem lw_p69 : lw_okq (⟨"OddPairsModel", "lays", "()V"⟩, 27) := ⟨⟨by decide +kernel, by decide +kernel⟩, List.mem_of_getElem? (i := 900) (by decide +kernel), List.mem_of_getElem? (i := 1170) (by decide +kernel), List.mem_of_getElem? (i := 1171) (by decide +kernel)⟩
theorem lw_p70 : lw_okq (⟨"OddPairsModel", "all", "()I"⟩, 27) := ⟨⟨by decide +kernel, by decide +kernel⟩, List.mem_of_getElem? (i := 900) (by decide +kernel), List.mem_of_getElem? (i := 1174) (by decide +kernel), List.mem_of_getElem? (i := 1175) (by decide +kernel)⟩
theorem lw_p71 : lw_okq (⟨"OddPairsModel", "adds", "(IIII)V"⟩, 27) := ⟨⟨by decide +kernel, by decide +kernel⟩, List.mem_of_getElem? (i := 900) (by decide +kernel), List.mem_of_getElem? (i := 1181) (by decide +kernel), List.mem_of_getElem? (i := 1182) (by decide +kernel)⟩
theorem lw_p72 : lw_okq (⟨"OddPairsModel", "findsFlower", "(I)Z"⟩, 27) := ⟨⟨by decide +kernel, by decide +kernel⟩, List.mem_of_getElem? (i := 900) (by decide +kernel), List.mem_of_getElem? (i := 1190) (by decide +kernel), List.mem_of_getElem? (i := 1191) (by decide +kernel)⟩
theorem lw_p73 : lw_okq (⟨"OddPairsModel", "rings", "(III)Z"⟩, 27) := ⟨⟨by decide +kernel, by decide +kernel⟩, List.mem_of_getElem? (i := 900) (by decide +kernel), List.mem_of_getElem? (i := 1194) (by decide +kernel), List.mem_of_getElem? (i := 1195) (by decide +kernel)⟩
theorem lw_p74 : lw_okq (⟨"OddPairsModel", "missing", "()I"⟩, 27) := ⟨⟨by decide +kernel, by decide +kernel⟩, List.mem_of_getElem? (i := 900) (by decide +kernel), List.mem_of_getElem? (i := 1202) (by decide +kernel), List.mem_of_getElem? (i := 1203) (by decide +kernel)⟩
theorem lw_p75 : lw_okq (⟨"OddPairsModel", "labels", "()V"⟩, 27) := ⟨⟨by decide +kernel, by decide +kernel⟩, List.mem_of_getElem? (i := 900) (by decide +kernel), List.mem_of_getElem? (i := 1214) (by decide +kernel), List.mem_of_getElem? (i := 1215) (by decide +kernel)⟩
theorem lw_p76 : lw_okq (⟨"OddPairsModel", "goes", "(II)V"⟩, 27) := ⟨⟨by decide +kernel, by decide +kernel⟩, List.mem_of_getElem? (i := 900) (by decide +kernel), List.mem_of_getElem? (i := 1218) (by decide +kernel), List.mem_of_getElem? (i := 1219) (by decide +kernel)⟩
theorem lw_p77 : lw_okq (⟨"OddPairsModel", "setOf", "(I)I"⟩, 27) := ⟨⟨by decide +kernel, by decide +kernel⟩, List.mem_of_getElem? (i := 900) (by decide +kernel), List.mem_of_getElem? (i := 1225) (by decide +kernel), List.mem_of_getElem? (i := 1226) (by decide +kernel)⟩
theorem lw_p78 : lw_okq (⟨"OddPairsModel", "missed", "()I"⟩, 27) := ⟨⟨by decide +kernel, by decide +kernel⟩, List.mem_of_getElem? (i := 900) (by decide +kernel), List.mem_of_getElem? (i := 1229) (by decide +kernel), List.mem_of_getElem? (i := 1230) (by decide +kernel)⟩
theorem lw_p79 : lw_okq (⟨"OddPairsModel", "beside", "(I)I"⟩, 27) := ⟨⟨by decide +kernel, by decide +kernel⟩, List.mem_of_getElem? (i := 900) (by decide +kernel), List.mem_of_getElem? (i := 1233) (by decide +kernel), List.mem_of_getElem? (i := 1234) (by decide +kernel)⟩
def lw_privs_5 : List (MethodName × Nat) := [(⟨"OddPairsModel", "mates", "(II)V"⟩, 27), (⟨"OddPairsModel", "pairsNow", "()I"⟩, 27), (⟨"OddPairsModel", "findsPath", "(I)Z"⟩, 27), (⟨"OddPairsModel", "betters", "(III)Z"⟩, 27), (⟨"OddPairsModel", "laysFirst", "()V"⟩, 27), (⟨"OddPairsModel", "lays", "()V"⟩, 27), (⟨"OddPairsModel", "all", "()I"⟩, 27), (⟨"OddPairsModel", "adds", "(IIII)V"⟩, 27), (⟨"OddPairsModel", "findsFlower", "(I)Z"⟩, 27), (⟨"OddPairsModel", "rings", "(III)Z"⟩, 27), (⟨"OddPairsModel", "missing", "()I"⟩, 27), (⟨"OddPairsModel", "labels", "()V"⟩, 27), (⟨"OddPairsModel", "goes", "(II)V"⟩, 27), (⟨"OddPairsModel", "setOf", "(I)I"⟩, 27), (⟨"OddPairsModel", "missed", "()I"⟩, 27), (⟨"OddPairsModel", "beside", "(I)I"⟩, 27)]
theorem lw_r5 : ∀ q ∈ lw_privs_5, lw_okq q := List.forall_mem_cons.mpr ⟨lw_p64, List.forall_mem_cons.mpr ⟨lw_p65, List.forall_mem_cons.mpr ⟨lw_p66, List.forall_mem_cons.mpr ⟨lw_p67, List.forall_mem_cons.mpr ⟨lw_p68, List.forall_mem_cons.mpr ⟨lw_p69, List.forall_mem_cons.mpr ⟨lw_p70, List.forall_mem_cons.mpr ⟨lw_p71, List.forall_mem_cons.mpr ⟨lw_p72, List.forall_mem_cons.mpr ⟨lw_p73, List.forall_mem_cons.mpr ⟨lw_p74, List.forall_mem_cons.mpr ⟨lw_p75, List.forall_mem_cons.mpr ⟨lw_p76, List.forall_mem_cons.mpr ⟨lw_p77, List.forall_mem_cons.mpr ⟨lw_p78, List.forall_mem_cons.mpr ⟨lw_p79, fun _ h => absurd h List.not_mem_nil⟩⟩⟩⟩⟩⟩⟩⟩⟩⟩⟩⟩⟩⟩⟩⟩
theorem lw_p80 : lw_okq (⟨"OddPairsModel", "oddOf", "(I)I"⟩, 27) := ⟨⟨by decide +kernel, by decide +kernel⟩, List.mem_of_getElem? (i := 900) (by decide +kernel), List.mem_of_getElem? (i := 1245) (by decide +kernel), List.mem_of_getElem? (i := 1246) (by decide +kernel)⟩
theorem lw_p81 : lw_okq (⟨"OddPairsModel", "partOf", "(II)I"⟩, 27) := ⟨⟨by decide +kernel, by decide +kernel⟩, List.mem_of_getElem? (i := 900) (by decide +kernel), List.mem_of_getElem? (i := 1249) (by decide +kernel), List.mem_of_getElem? (i := 1250) (by decide +kernel)⟩
theorem lw_p82 : lw_okq (⟨"OddPairsModel", "rowAt", "(ZII)I"⟩, 27) := ⟨⟨by decide +kernel, by decide +kernel⟩, List.mem_of_getElem? (i := 900) (by decide +kernel), List.mem_of_getElem? (i := 1269) (by decide +kernel), List.mem_of_getElem? (i := 1270) (by decide +kernel)⟩
def lw_privs_6 : List (MethodName × Nat) := [(⟨"OddPairsModel", "oddOf", "(I)I"⟩, 27), (⟨"OddPairsModel", "partOf", "(II)I"⟩, 27), (⟨"OddPairsModel", "rowAt", "(ZII)I"⟩, 27)]
theorem lw_r6 : ∀ q ∈ lw_privs_6, lw_okq q := List.forall_mem_cons.mpr ⟨lw_p80, List.forall_mem_cons.mpr ⟨lw_p81, List.forall_mem_cons.mpr ⟨lw_p82, fun _ h => absurd h List.not_mem_nil⟩⟩⟩
def lw_privs : List (MethodName × Nat) := lw_privs_1 ++ (lw_privs_2 ++ (lw_privs_3 ++ (lw_privs_4 ++ (lw_privs_5 ++ (lw_privs_6)))))
def lw_tbl : List Cond := k2_sels lw_privs ++ tables_1
theorem lw_privs_ok : ∀ q ∈ lw_privs, lw_okq q := by
  show ∀ q ∈ lw_privs_1 ++ (lw_privs_2 ++ (lw_privs_3 ++ (lw_privs_4 ++ (lw_privs_5 ++ (lw_privs_6))))), lw_okq q
  exact List.forall_mem_append.mpr ⟨lw_r1, List.forall_mem_append.mpr ⟨lw_r2, List.forall_mem_append.mpr ⟨lw_r3, List.forall_mem_append.mpr ⟨lw_r4, List.forall_mem_append.mpr ⟨lw_r5, lw_r6⟩⟩⟩⟩⟩
end
section
/-! ===== BEGIN words of one list among another's, by their places ===== -/
theorem goodIn_r {big : List Cond} (ws : List Cond) (ps : List Nat) (hp : ws = ps.filterMap (fun i => big[i]?)) (h : ws.all goodWord = true) : GoodIn big ws := by
  intro w hw
  have h1 := List.all_eq_true.mp h w hw
  rw [hp] at hw
  obtain ⟨i, -, hi⟩ := List.mem_filterMap.mp hw
  have hm : w ∈ big := by first | exact List.mem_of_getElem? hi | exact List.getElem?_mem hi
  exact ⟨hm, good_of_word h1⟩
theorem goodIn_app {big a b : List Cond} (ha : GoodIn big a) (hb : GoodIn big b) : GoodIn big (a ++ b) := fun w h => (List.mem_append.mp h).elim (ha w) (hb w)
theorem goodIn_ca {big a b : List Cond} {c : Cond} (ha : GoodIn big (c :: a)) (hb : GoodIn big b) : GoodIn big (c :: (a ++ b)) := fun w h => (List.mem_cons.mp h).elim (fun e => ha w (List.mem_cons.mpr (Or.inl e))) (fun h => (List.mem_append.mp h).elim (fun h => ha w (List.mem_cons.mpr (Or.inr h))) (hb w))
theorem goodIn_sub {big ws : List Cond} (hm : ∀ w ∈ ws, w ∈ big) (h : ws.all goodWord = true) : GoodIn big ws := fun w hw => ⟨hm w hw, good_of_word (List.all_eq_true.mp h w hw)⟩
/-! ===== END ===== -/


/-! ===== BEGIN exceptions that leave a method, and their catching by the caller (launches without stack traces) ===== -/
section VXA
/-! The laws vx_back, vx_callV, vx_callS, vx_callSW, vx_throw0, vx_throwS follow proofs of the library, with one case more: JvmDerived/Free/Laws.lean (Back.of_free), Shelf42/LK1.lean (callV, callS), Shelf/KitTraced.lean (throwNew0V, throwNewS). -/
/-- where a method has thrown q: the class by its name, the cell, what was written, the world -/
def vx_T (XC : String → State → State → Prop) (st : State) (q : Addr) (t : State) (mc ms : Nat) (free : Addr → Prop) : Prop :=
  ∃ (E : String) (ce : Cell) (L : List Loc), XC E st t ∧ t.heap[q]? = some ce ∧ ce.vm = .none ∧ st.vm.findClass E = some ce.cls ∧ st.WarmedH t.vm ∧ st.sameButNew ({ t with vm := st.vm } : State) L mc ms ∧ ∀ z ∈ L, free z.base
def vx_Q (Qc : Array Value → State → Outcome → State → Prop) (XC : String → State → State → Prop) (mc ms : Nat) (free : Addr → Prop) : Array Value → State → Outcome → State → Prop := fun a st o t =>
  (Qc a st o t ∧ ∃ L, FrameEnd st o t L mc ms ∧ ∀ q ∈ L, free q.base) ∨ ∃ q, o = .threw q ∧ vx_T XC st q t mc ms free
/-- a callee that returns or throws -/
def vx_Met (l : Launch) (y : MethodName) (ws : List Cond) (rm : Room) (Pc : Array Value → State → Prop) (Qc : Array Value → State → Outcome → State → Prop) (XC : String → State → State → Prop) (mc ms : Nat) (free : Addr → Prop) : Prop :=
  MetFree l y (headSpec ws rm) Pc (fun _ _ _ _ _ => True) (vx_Q Qc XC mc ms free)
def vx_Post (XC : String → State → State → Prop) (mc ms : Nat) (free : Addr → Prop) : Pt → Array Value → Addr → Pt → Prop := fun A a q B =>
  ∃ (g : JFrame) (mk : MethodId) (t : State) (L : List Loc) (E : String) (ce : Cell), B.U.heap = t.heap ∧ B.U.vm = t.vm ∧ XC E (A.U.calling g mk a) t ∧ t.heap[q]? = some ce ∧ ce.vm = .none ∧ A.U.vm.findClass E = some ce.cls ∧ B.locs = A.locs ++ L ∧ (∀ z ∈ L, free z.base) ∧ B.cells = A.cells + mc ∧ B.slots = A.slots + ms
def vx_Back (l : Launch) (R : Room) (p : Program) (e : Env) (below : List Frame) (s : State) (sargs : Array Value) (y : MethodName) (len W9 : Nat)
    (Pre : Pt → Array Value → Prop) (Post : Pt → Array Value → Option Value → Pt → Prop) (PostX : Pt → Array Value → Addr → Pt → Prop) : Prop :=
  ∀ (m : MethodId) (meth : Method) (c : Code) (A : Pt) (g : JFrame) (ig : Instr) (mk : MethodId) (a : Array Value),
    Stand p l e R s m sargs below meth c A.U A.locs A.cells A.slots → g.method = m → g.locals.size = c.maxLocals → decode c.code g.pc = .ok (ig, len) →
    2 * g.monitorRoom + (g.stack.map fun v => v.category).sum ≤ W9 → A.U.methodNamed? y = some mk → Pre A a →
    (∃ (v : Option Value) (B : Pt), Stand p l e R s m sargs below meth c B.U B.locs B.cells B.slots ∧ Post A a v B ∧
      Steps p.tables e below (doInvoke e (A.U.setTop g) [] mk a).1 (B.U.setTop { g with pc := g.pc + len, stack := v.toList ++ g.stack })) ∨
    (∃ (q : Addr) (B : Pt), Stand p l e R s m sargs below meth c B.U B.locs B.cells B.slots ∧ PostX A a q B ∧
      Steps p.tables e below (doInvoke e (A.U.setTop g) [] mk a).1 ((B.U.setTop g).pushFrame (.throwing q)))
section Payer
variable {l : Launch} {R : Room} {p : Program} {e : Env} {below : List Frame} {s : State} {sargs : Array Value} {y : MethodName} {len W9 : Nat}
theorem vx_back {ws : List Cond} {rm : Room} {Pc : Array Value → State → Prop} {Qc : Array Value → State → Outcome → State → Prop} {XC : String → State → State → Prop} {mc ms : Nat} {free : Addr → Prop} {bytes : ByteArray} {maxL : Nat} {ret : Option FieldType}
    (hM : vx_Met l y ws rm Pc Qc XC mc ms free) (hblind : FrameBlind Pc) (hrc : rm.cells = mc) (hrs : rm.slots = ms)
    (hframes : rm.frames + 1 ≤ R.frames) (hlocals : W9 + (maxL + 11) + rm.locals ≤ R.locals)
    (hws : ∀ w ∈ ws, ∀ a' U, s.WarmedH U.vm → w.before a' U = true) (hcode : Cond.code y bytes maxL ret ∈ ws) (hinit : ∀ a' U, s.WarmedH U.vm → (Cond.initialized y.cls).before a' U = true) :
    vx_Back l R p e below s sargs y len W9 (PreOf R mc ms Pc) (PostOf Qc mc ms free) (vx_Post XC mc ms free) := by
  intro m meth c A g ig mk a X hg hsize hdg hW hn hp
  have h1 : (headSpec ws rm).pre.before a A.U = true := atoms_intro fun w hw => hws w hw _ _ X.warmed
  have h2 : (Cond.code y bytes maxL ret).before a A.U = true := hws _ hcode _ _ X.warmed
  have h3 : (Cond.initialized y.cls).before a A.U = true := hinit _ _ X.warmed
  have h4 : A.cells + (headSpec ws rm).room.cells ≤ R.cells := by rw [show (headSpec ws rm).room.cells = mc from hrc]; exact hp.1
  have h5 : A.slots + (headSpec ws rm).room.slots ≤ R.slots := by rw [show (headSpec ws rm).room.slots = ms from hrs]; exact hp.2.1
  have hPc : Pc a (A.U.calling g mk a) := hblind _ _ _ _ hp.2.2
  obtain ⟨U, Ls, c0, s0⟩ := A
  dsimp only [Pt.U, Pt.locs, Pt.cells, Pt.slots] at h1 h2 h3 h4 h5 X hn hPc ⊢
  obtain ⟨methY, cY, hmY, hcY, -, hlY, -, -, -, -⟩ := Cond.code_spec hn h2
  obtain ⟨kY, hkY, -⟩ := className_of_methodNamed hn
  have hinitY : kY.init = .initialized := Cond.initialized_spec (findClass_of_methodNamed hn) hkY h3
  have h : At U g.method c below := by rw [hg]; exact X.here
  have hlocals9 : W9 + (maxL + 11) + (headSpec ws rm).room.locals ≤ R.locals := hlocals
  have happ : (headSpec ws rm).appliesLoose y e.platform (U.calling g mk a) = true :=
    Spec.appliesLoose_calling (g := g) h hdg hn hkY hinitY
      (X.room_calling (g := g) (R' := (headSpec ws rm).room) hsize hmY hcY hframes (by rw [hlY]; omega) h4 h5) h1
  obtain ⟨mid, hmid⟩ := h.above
  have hfr : (U.setTop g).frames = (.java g :: mid) ++ below := by rw [State.frames_setTop' g h.top, hmid]; rfl
  obtain ⟨o, s₂, hsteps, -, hend, hq⟩ := Steps.callFree hM p X.admits X.cas X.clock (acts := []) hfr happ hPc trivial
  have hq' : vx_Q Qc XC mc ms free a (U.calling g mk a) o s₂ := hq
  rw [State.frames_setTop' g h.top] at hend
  obtain ⟨g₀, hg0⟩ := Option.isSome_iff_exists.mp h.top
  obtain ⟨r, hr⟩ := State.topJava?_eq_some.mp hg0
  have hr' : (({ U with heap := s₂.heap, slotsUsed := s₂.slotsUsed } : State).setVm s₂.vm).frames = .java g₀ :: r := hr
  rcases hq' with ⟨hqc, L, hfe, hL⟩ | ⟨q, rfl, E, ce, L, hx, hce, hcv, hcl, hW₂, hsm, hL⟩
  · obtain ⟨⟨v, rfl⟩, hW₂, e2, q2, q3, q4, q5, q6⟩ := id hfe
    have e3 : s₂ = ({ (U.calling g mk a).setFrames s₂.frames with heap := s₂.heap, slotsUsed := s₂.slotsUsed } : State).setVm s₂.vm := by
      have : s₂ = ({ s₂ with vm := (U.calling g mk a).vm } : State).setVm s₂.vm := rfl
      rw [e2] at this
      exact this
    obtain ⟨c₂, i₂, len₂, hc₂, hd₂, hf₂⟩ := hend
    have hW' : U.WarmedH s₂.vm := hW₂
    have hcc : c₂ = c := by
      have h1 : s₂.code? g.method = U.code? g.method := by
        rw [State.code?_eq, State.code?_eq, hW'.alike.method?]
      exact Option.some.inj (hc₂.symm.trans (h1.trans h.code))
    subst hcc
    have hlen : len₂ = len := by rw [hdg] at hd₂; cases hd₂; rfl
    subst hlen
    have hs₂ : s₂ = (({ U with heap := s₂.heap, slotsUsed := s₂.slotsUsed } : State).setVm s₂.vm).setTop { g with pc := g.pc + len₂, stack := v.toList ++ g.stack } := by
      refine e3.trans ?_
      rw [hf₂, State.calling_eq h.top, State.setFrames_setFrames, State.setTop_of_frames _ hr', hr]
      rfl
    have hsame : U.sameButNew ({ U with heap := s₂.heap, slotsUsed := s₂.slotsUsed } : State) L mc ms := by
      refine ⟨?_, q2, q3, q4, q5, q6⟩
      obtain ⟨t, ht, -⟩ := State.frames_cons hr
      show ({ U with heap := s₂.heap, slotsUsed := s₂.slotsUsed } : State) = { U.setFrames U.frames with heap := s₂.heap, slotsUsed := s₂.slotsUsed }
      rw [State.setFrames_self ht]
    subst hg
    refine Or.inl ⟨v, ⟨(({ U with heap := s₂.heap, slotsUsed := s₂.slotsUsed } : State).setVm s₂.vm), Ls ++ L, c0 + mc, s0 + ms⟩,
      ⟨X.admits, X.cas, X.clock, X.frames, X.room, X.hears, X.method, X.code, (X.here.setHeapUsed s₂.heap s₂.slotsUsed).setVm hW'.alike, X.tail, State.WarmedH.trans X.warmed hW', X.limits, X.bytes, X.same.trans (hsame.setVm s.vm)⟩,
      ⟨g, mk, s₂, L, rfl, rfl, hqc, rfl, hL, rfl, rfl⟩, ?_⟩
    show Steps p.tables e below _ ((({ U with heap := s₂.heap, slotsUsed := s₂.slotsUsed } : State).setVm s₂.vm).setTop { g with pc := g.pc + len₂, stack := v.toList ++ g.stack })
    rw [← hs₂]
    exact hsteps
  · obtain ⟨e2, q2, q3, q4, q5, q6⟩ := id hsm
    have e3 : s₂ = ({ (U.calling g mk a).setFrames s₂.frames with heap := s₂.heap, slotsUsed := s₂.slotsUsed } : State).setVm s₂.vm := by
      have : s₂ = ({ s₂ with vm := (U.calling g mk a).vm } : State).setVm s₂.vm := rfl
      rw [e2] at this
      exact this
    have hf₂ : s₂.frames = .throwing q :: .java g :: U.frames.tail := hend
    have hW' : U.WarmedH s₂.vm := hW₂
    have hs₂ : s₂ = ((({ U with heap := s₂.heap, slotsUsed := s₂.slotsUsed } : State).setVm s₂.vm).setTop g).pushFrame (.throwing q) := by
      refine e3.trans ?_
      rw [hf₂, State.calling_eq h.top, State.setFrames_setFrames, State.pushFrame, State.frames_setTop _ hr', State.setTop_of_frames _ hr', State.setFrames_setFrames, hr]
      rfl
    have hsame : U.sameButNew ({ U with heap := s₂.heap, slotsUsed := s₂.slotsUsed } : State) L mc ms := by
      refine ⟨?_, q2, q3, q4, q5, q6⟩
      obtain ⟨t, ht, -⟩ := State.frames_cons hr
      show ({ U with heap := s₂.heap, slotsUsed := s₂.slotsUsed } : State) = { U.setFrames U.frames with heap := s₂.heap, slotsUsed := s₂.slotsUsed }
      rw [State.setFrames_self ht]
    subst hg
    refine Or.inr ⟨q, ⟨(({ U with heap := s₂.heap, slotsUsed := s₂.slotsUsed } : State).setVm s₂.vm), Ls ++ L, c0 + mc, s0 + ms⟩,
      ⟨X.admits, X.cas, X.clock, X.frames, X.room, X.hears, X.method, X.code, (X.here.setHeapUsed s₂.heap s₂.slotsUsed).setVm hW'.alike, X.tail, State.WarmedH.trans X.warmed hW', X.limits, X.bytes, X.same.trans (hsame.setVm s.vm)⟩,
      ⟨g, mk, s₂, L, E, ce, rfl, rfl, hx, hce, hcv, hcl, rfl, hL, rfl, rfl⟩, ?_⟩
    show Steps p.tables e below _ (((({ U with heap := s₂.heap, slotsUsed := s₂.slotsUsed } : State).setVm s₂.vm).setTop g).pushFrame (.throwing q))
    rw [← hs₂]
    exact hsteps
end Payer
section Calls
variable {p : Program} {l : Launch} {e : Env} {R : Room} {s : State} {m : MethodId} {args : Array Value} {below : List Frame} {meth : Method} {c : Code} {T : State} {locs : List Loc} {cells slots : Nat}
theorem vx_callV (X : Stand p l e R s m args below meth c T locs cells slots) (hexec : p.tables.exec = Jvm.exec) {own C : String} {index : Nat} {y : MethodName} {bytes : ByteArray} {maxL : Nat} {ret : Option FieldType}
    (hown : s.vm.findClass own = some m.cls) (hlink : (Cond.methodLink own index y).before args s = true) (hinst : (Cond.instanceMethod y).before args s = true) (hsel : (Cond.selects C y y).before args s = true)
    (hcode : (Cond.code y bytes maxL ret).before args s = true) (hy : y.cls ≠ "java/lang/invoke/MethodHandle" ∧ y.cls ≠ "java/lang/invoke/VarHandle")
    {W9 : Nat} {Pre : Pt → Array Value → Prop} {Post : Pt → Array Value → Option Value → Pt → Prop} {PostX : Pt → Array Value → Addr → Pt → Prop} (hK : vx_Back l R p e below s args y 3 W9 Pre Post PostX)
    {b : Addr} {cellB : Cell} (hcell : T.heap[b]? = some cellB) (hobj : cellB.vm.isStatics = false) (hcls : s.vm.findClass C = some cellB.cls)
    {g : JFrame} (hg : g.method = m) (hsize : g.locals.size = c.maxLocals) {argsL rest : List Value} (hlen : ∀ sig, parseMethodDescriptor y.desc = some sig → argsL.length = sig.parameters.length)
    (hstack : g.stack = argsL.reverse ++ .ref b :: rest) (hW : 2 * g.monitorRoom + (rest.map fun v => v.category).sum ≤ W9) (hdg : decode c.code g.pc = .ok (.invokevirtual index, 3))
    (hpre : ∀ vm₁, s.WarmedH vm₁ → Pre ⟨T.setVm vm₁, locs, cells, slots⟩ (Value.ref b :: argsL).toArray) :
    (∃ (v : Option Value) (vm₁ : Vm) (B : Pt), s.WarmedH vm₁ ∧ Stand p l e R s m args below meth c B.U B.locs B.cells B.slots ∧ Post ⟨T.setVm vm₁, locs, cells, slots⟩ (Value.ref b :: argsL).toArray v B ∧
      ∀ target, Steps p.tables e below (B.U.setTop { g with pc := g.pc + 3, stack := v.toList ++ rest }) target → Steps p.tables e below (T.setTop g) target) ∨
    (∃ (q : Addr) (vm₁ : Vm) (B : Pt), s.WarmedH vm₁ ∧ Stand p l e R s m args below meth c B.U B.locs B.cells B.slots ∧ PostX ⟨T.setVm vm₁, locs, cells, slots⟩ (Value.ref b :: argsL).toArray q B ∧
      Steps p.tables e below (T.setTop g) ((B.U.setTop { g with stack := rest }).pushFrame (.throwing q))) := by
  obtain ⟨mk, methM, hnamed, hmethM, hstM, habM⟩ := Cond.instanceMethod_spec hinst
  obtain ⟨methM', cM, hmethM', -, -, -, -, -, -, hsigM⟩ := Cond.code_spec hnamed hcode
  cases hmethM.symm.trans hmethM'
  obtain ⟨c2, r2, m2, q1, q2, q3, q4, kP, hkP, hkPi⟩ := Cond.selects_spec hsel
  cases hcls.symm.trans q1
  cases (State.methodFound?_of_named hnamed hy).symm.trans q2
  cases hnamed.symm.trans q3
  have hselP : selectMethod e.platform s.vm cellB.cls mk = .method mk := by rw [Launch.admits_selectMethod X.admits]; exact q4
  obtain ⟨vm₁, X₁, hstep₁⟩ := X.invokevirtual hexec hown hlink hnamed hmethM hstM hkP hkPi hy (a := b) (cell := cellB) hcell
    (fun z h => by rw [h] at hobj; cases hobj) hselP hmethM habM hkP hkPi (g := g) hg (argsL := argsL) (rest := rest) (hlen _ hsigM) hstack hdg
  rcases hK m meth c ⟨T.setVm vm₁, locs, cells, slots⟩ { g with stack := rest } (.invokevirtual index) mk (Value.ref b :: argsL).toArray X₁ hg hsize hdg hW (X₁.named hnamed) (hpre vm₁ X₁.warmed) with ⟨v, B, X', hpost, hsteps⟩ | ⟨q, B, X', hpost, hsteps⟩
  · exact Or.inl ⟨v, vm₁, B, X₁.warmed, X', hpost, fun target h => hstep₁ _ fun acts => by rw [doInvoke_state]; exact hsteps.trans h⟩
  · exact Or.inr ⟨q, vm₁, B, X₁.warmed, X', hpost, hstep₁ _ fun acts => by rw [doInvoke_state]; exact hsteps⟩
theorem vx_callS (X : Stand p l e R s m args below meth c T locs cells slots) (hexec : p.tables.exec = Jvm.exec) {own : String} {index : Nat} {y : MethodName} {bytes : ByteArray} {maxL : Nat} {ret : Option FieldType}
    (hown : s.vm.findClass own = some m.cls) (hlink : (Cond.methodLink own index y).before args s = true) (hstat : (Cond.static y).before args s = true) (hinit : (Cond.initialized y.cls).before args s = true)
    (hcode : (Cond.code y bytes maxL ret).before args s = true) (hy : y.cls ≠ "java/lang/invoke/MethodHandle" ∧ y.cls ≠ "java/lang/invoke/VarHandle")
    {W9 : Nat} {Pre : Pt → Array Value → Prop} {Post : Pt → Array Value → Option Value → Pt → Prop} {PostX : Pt → Array Value → Addr → Pt → Prop} (hK : vx_Back l R p e below s args y 3 W9 Pre Post PostX)
    {g : JFrame} (hg : g.method = m) (hsize : g.locals.size = c.maxLocals) {argsL rest : List Value} (hlen : ∀ sig, parseMethodDescriptor y.desc = some sig → argsL.length = sig.parameters.length)
    (hstack : g.stack = argsL.reverse ++ rest) (hW : 2 * g.monitorRoom + (rest.map fun v => v.category).sum ≤ W9) (hdg : decode c.code g.pc = .ok (.invokestatic index, 3))
    (hpre : ∀ vm₁, s.WarmedH vm₁ → Pre ⟨T.setVm vm₁, locs, cells, slots⟩ argsL.toArray) :
    (∃ (v : Option Value) (vm₁ : Vm) (B : Pt), s.WarmedH vm₁ ∧ Stand p l e R s m args below meth c B.U B.locs B.cells B.slots ∧ Post ⟨T.setVm vm₁, locs, cells, slots⟩ argsL.toArray v B ∧
      ∀ target, Steps p.tables e below (B.U.setTop { g with pc := g.pc + 3, stack := v.toList ++ rest }) target → Steps p.tables e below (T.setTop g) target) ∨
    (∃ (q : Addr) (vm₁ : Vm) (B : Pt), s.WarmedH vm₁ ∧ Stand p l e R s m args below meth c B.U B.locs B.cells B.slots ∧ PostX ⟨T.setVm vm₁, locs, cells, slots⟩ argsL.toArray q B ∧
      Steps p.tables e below (T.setTop g) ((B.U.setTop { g with stack := rest }).pushFrame (.throwing q))) := by
  obtain ⟨mk, hnamed⟩ := Cond.code_named hcode
  obtain ⟨methM, cM, hmethM, -, -, -, -, -, -, hsigM⟩ := Cond.code_spec hnamed hcode
  have hstatic : methM.isStatic = true := Cond.static_spec hnamed hmethM hstat
  obtain ⟨kP, hkP, -⟩ := className_of_methodNamed hnamed
  have hinitP : kP.init = .initialized := Cond.initialized_spec (findClass_of_methodNamed hnamed) hkP hinit
  obtain ⟨vm₁, X₁, hstep₁⟩ := X.invokestatic hexec hown hlink hnamed hmethM hstatic hkP hinitP hy (g := g) hg (argsL := argsL) (rest := rest) (hlen _ hsigM) hstack hdg
  rcases hK m meth c ⟨T.setVm vm₁, locs, cells, slots⟩ { g with stack := rest } (.invokestatic index) mk argsL.toArray X₁ hg hsize hdg hW (X₁.named hnamed) (hpre vm₁ X₁.warmed) with ⟨v, B, X', hpost, hsteps⟩ | ⟨q, B, X', hpost, hsteps⟩
  · exact Or.inl ⟨v, vm₁, B, X₁.warmed, X', hpost, fun target h => hstep₁ _ fun acts => by rw [doInvoke_state]; exact hsteps.trans h⟩
  · exact Or.inr ⟨q, vm₁, B, X₁.warmed, X', hpost, hstep₁ _ fun acts => by rw [doInvoke_state]; exact hsteps⟩
end Calls
theorem vx_cls {s : State} {T : State} {vm₁ : Vm} {E : String} {k : ClassId} (hW : s.WarmedH vm₁) (h : (T.setVm vm₁).vm.findClass E = some k) : s.vm.findClass E = some k := by
  have h1 : vm₁.findClass E = some k := h
  rw [hW.alike.findClass] at h1
  exact h1
/-- the method's frame g, with q thrown over it -/
def vx_W (p : Program) (l : Launch) (e : Env) (R : Room) (s : State) (m : MethodId) (args : Array Value) (below : List Frame) (meth : Method) (c : Code) (H : Heap) (locs : List Loc) (cells slots : Nat) (Q : State → Prop) (g : JFrame) (q : Addr) : Prop :=
  ∀ T : State, T.heap = H → Stand p l e R s m args below meth c T locs cells slots → ∃ t, Steps p.tables e below ((T.setTop g).pushFrame (.throwing q)) t ∧ Q t
def vx_Run (p : Program) (l : Launch) (e : Env) (R : Room) (s : State) (m : MethodId) (args : Array Value) (below : List Frame) (meth : Method) (c : Code) (H : Heap) (locs : List Loc) (cells slots mc ms : Nat) (g : JFrame) (rest : List Value) (Qa : State → Outcome → State → Prop) (XC : String → State → State → Prop) (free : Addr → Prop) : Prop :=
  ∀ T : State, T.heap = H → Stand p l e R s m args below meth c T locs cells slots →
    (∃ (v : Option Value) (st₀ t T' : State) (L : List Loc), st₀.heap = H ∧ Stand p l e R s m args below meth c T' (locs ++ L) (cells + mc) (slots + ms) ∧ (∀ q ∈ L, free q.base) ∧ T'.heap = t.heap ∧ T'.vm = t.vm ∧ Qa st₀ (.returned v) t ∧
      Goes p e below T g T' { g with pc := g.pc + 3, stack := v.toList ++ rest }) ∨
    (∃ (q : Addr) (st₀ t T' : State) (L : List Loc) (E : String) (ce : Cell), st₀.heap = H ∧ Stand p l e R s m args below meth c T' (locs ++ L) (cells + mc) (slots + ms) ∧ (∀ z ∈ L, free z.base) ∧ T'.heap = t.heap ∧ T'.vm = t.vm ∧ XC E st₀ t ∧ t.heap[q]? = some ce ∧ ce.vm = .none ∧ s.vm.findClass E = some ce.cls ∧
      Steps p.tables e below (T.setTop g) ((T'.setTop { g with stack := rest }).pushFrame (.throwing q)))
def vx_X {S : Type} (px : S → Prop) (B : String → S → State → Prop) (A : Nat → Prop) : String → State → State → Prop := fun E st t => ∃ u : S, px u ∧ B E u t ∧ va_F A st t
section Runs
variable {p : Program} {l : Launch} {e : Env} {R : Room} {s : State} {m : MethodId} {args : Array Value} {below : List Frame} {meth : Method} {c : Code} {H : Heap} {locs : List Loc} {cells slots : Nat}
variable {y : MethodName} {bytes cc : ByteArray} {maxL nL mc ms n index : Nat} {ret : Option FieldType} {ws : List Cond} {rm : Room} {Pc : Array Value → State → Prop} {Qc : Array Value → State → Outcome → State → Prop} {XC : String → State → State → Prop} {free : Addr → Prop} {Ts : List Cond} {own C : String} {b : Addr} {As rest : List Value} {g : JFrame}
theorem vx_callBack (cb : CallB R s args own index y bytes maxL ret ws rm mc ms n) (hM : vx_Met l y ws rm Pc Qc XC mc ms free) (hbl : FrameBlind Pc) : vx_Back l R p e below s args y 3 8 (PreOf R mc ms Pc) (PostOf Qc mc ms free) (vx_Post XC mc ms free) := by
  obtain ⟨hrc, hrs, hfr, hlo, hws, hcw, -, hini, -⟩ := cb
  exact vx_back (bytes := bytes) (maxL := maxL) (ret := ret) hM hbl hrc hrs hfr hlo hws hcw (fun a' U hW => word_at hW (Or.inl (by first | rfl | simp [Cond.onTables, Cond.keeps, Cond.steady])) hini)
theorem vx_runV (S : CallFix p m c cc nL s args Ts own) (hM : vx_Met l y ws rm Pc Qc XC mc ms free) (cw : CallW R s args own C index y bytes maxL ret ws rm mc ms n) (hp : PreV s H C b Pc As)
    (hg : g.method = m) (hn : As.length = n) (hsize : g.locals.size = nL) (hstack : g.stack = As.reverse ++ .ref b :: rest) (hW : 2 * g.monitorRoom + (rest.map fun v => v.category).sum ≤ 8) (hdg : decode cc g.pc = .ok (.invokevirtual index, 3)) (hf : cells + mc ≤ R.cells ∧ slots + ms ≤ R.slots) :
    vx_Run p l e R s m args below meth c H locs cells slots mc ms g rest (Qc (Value.ref b :: As).toArray) XC free := by
  have hK : vx_Back l R p e below s args y 3 8 (PreOf R mc ms Pc) (PostOf Qc mc ms free) (vx_Post XC mc ms free) := vx_callBack cw.1 hM hp.1
  obtain ⟨⟨-, -, -, -, -, -, hcode, -, hy, hlen, hl⟩, hin, hse⟩ := cw
  obtain ⟨hx, hb, hml, ho, -⟩ := S
  obtain ⟨-, ⟨cellB, hcB, hoB, hclB⟩, hPc⟩ := hp
  intro T hT X
  rcases vx_callV X hx (C := C) (bytes := bytes) (maxL := maxL) (ret := ret) ho hl hin hse hcode hy hK (by rw [hT]; exact hcB) hoB hclB hg (hsize.trans hml.symm) (argsL := As) (rest := rest) (fun sig h => hn.trans (hlen sig h)) hstack hW (by rw [hb]; exact hdg)
    (fun vm₁ hW₁ => ⟨hf.1, hf.2, hPc (T.setVm vm₁) hT hW₁⟩) with ⟨v, vm₁, ⟨U', l2, c2, s2⟩, hW₁, X', ⟨g', mk, t, L, e1, e2, hq, h1, hL, h2, h3⟩, st⟩ | ⟨q, vm₁, ⟨U', l2, c2, s2⟩, hW₁, X', ⟨g', mk, t, L, E, ce, e1, e2, hq, hce, hcv, hcl, h1, hL, h2, h3⟩, st⟩
  · dsimp only [Pt.U, Pt.locs, Pt.cells, Pt.slots] at X' e1 e2 h1 h2 h3 st
    subst h1; subst h2; subst h3
    exact Or.inl ⟨v, (T.setVm vm₁).calling g' mk (Value.ref b :: As).toArray, t, U', L, hT, X', hL, e1, e2, hq, st⟩
  · dsimp only [Pt.U, Pt.locs, Pt.cells, Pt.slots] at X' e1 e2 h1 h2 h3 st hcl
    subst h1; subst h2; subst h3
    exact Or.inr ⟨q, (T.setVm vm₁).calling g' mk (Value.ref b :: As).toArray, t, U', L, E, ce, hT, X', hL, e1, e2, hq, hce, hcv, vx_cls hW₁ hcl, st⟩
theorem vx_runS (S : CallFix p m c cc nL s args Ts own) (hM : vx_Met l y ws rm Pc Qc XC mc ms free) (cw : CallB R s args own index y bytes maxL ret ws rm mc ms n ∧ (Cond.static y).before args s = true) (hp : PreS s H Pc As)
    (hg : g.method = m) (hn : As.length = n) (hsize : g.locals.size = nL) (hstack : g.stack = As.reverse ++ rest) (hW : 2 * g.monitorRoom + (rest.map fun v => v.category).sum ≤ 8) (hdg : decode cc g.pc = .ok (.invokestatic index, 3)) (hf : cells + mc ≤ R.cells ∧ slots + ms ≤ R.slots) :
    vx_Run p l e R s m args below meth c H locs cells slots mc ms g rest (Qc As.toArray) XC free := by
  have hK : vx_Back l R p e below s args y 3 8 (PreOf R mc ms Pc) (PostOf Qc mc ms free) (vx_Post XC mc ms free) := vx_callBack cw.1 hM hp.1
  obtain ⟨⟨-, -, -, -, -, -, hcode, hini, hy, hlen, hl⟩, hstt⟩ := cw
  obtain ⟨hx, hb, hml, ho, -⟩ := S
  intro T hT X
  rcases vx_callS X hx (bytes := bytes) (maxL := maxL) (ret := ret) ho hl hstt hini hcode hy hK hg (hsize.trans hml.symm) (argsL := As) (rest := rest) (fun sig h => hn.trans (hlen sig h)) hstack hW (by rw [hb]; exact hdg)
    (fun vm₁ hW₁ => ⟨hf.1, hf.2, hp.2 (T.setVm vm₁) hT hW₁⟩) with ⟨v, vm₁, ⟨U', l2, c2, s2⟩, hW₁, X', ⟨g', mk, t, L, e1, e2, hq, h1, hL, h2, h3⟩, st⟩ | ⟨q, vm₁, ⟨U', l2, c2, s2⟩, hW₁, X', ⟨g', mk, t, L, E, ce, e1, e2, hq, hce, hcv, hcl, h1, hL, h2, h3⟩, st⟩
  · dsimp only [Pt.U, Pt.locs, Pt.cells, Pt.slots] at X' e1 e2 h1 h2 h3 st
    subst h1; subst h2; subst h3
    exact Or.inl ⟨v, (T.setVm vm₁).calling g' mk As.toArray, t, U', L, hT, X', hL, e1, e2, hq, st⟩
  · dsimp only [Pt.U, Pt.locs, Pt.cells, Pt.slots] at X' e1 e2 h1 h2 h3 st hcl
    subst h1; subst h2; subst h3
    exact Or.inr ⟨q, (T.setVm vm₁).calling g' mk As.toArray, t, U', L, E, ce, hT, X', hL, e1, e2, hq, hce, hcv, vx_cls hW₁ hcl, st⟩
end Runs
section Rows
variable {p : Program} {l : Launch} {e : Env} {R : Room} {s : State} {m : MethodId} {args : Array Value} {below : List Frame} {meth : Method} {c : Code} {H : Heap} {locs : List Loc} {cells slots : Nat} {Q : State → Prop}
variable {mc ms : Nat} {free : Addr → Prop} {A0 A1 : Nat → Prop} {H0 : Heap} {a : Array Value} {pc : Nat} {ls : Array Slot} {st0 rest : List Value}
theorem vx_keep {st₀ t T' : State} {L : List Loc} (h0 : st₀.heap = H) (e1 : T'.heap = t.heap) (hS : va_S A0 H0 H locs) (hA : ∀ q, q < H.size → A1 q → A0 q) (hf : ∀ q, free q → A0 q) (hL : ∀ q ∈ L, free q.base) (hF : va_F A1 st₀ t) :
    H.size ≤ T'.heap.size ∧ (∀ q : Nat, q < H.size → ¬ A1 q → T'.heap[q]? = H[q]?) ∧ va_S A0 H0 T'.heap (locs ++ L) := by
  obtain ⟨hz, hk⟩ := hF
  rw [h0] at hz hk
  exact ⟨by rw [e1]; exact hz, fun q h1 h2 => by rw [e1]; exact hk q h1 h2,
    ⟨Nat.le_trans hS.1 (by rw [e1]; exact hz), fun q h1 h2 => by rw [e1, hk q (Nat.lt_of_lt_of_le h1 hS.1) (fun z => h2 (hA q (Nat.lt_of_lt_of_le h1 hS.1) z))]; exact hS.2.1 q h1 h2, fun q hq => by
      rcases List.mem_append.mp hq with h | h
      · exact hS.2.2 q h
      · exact hf _ (hL q h)⟩⟩
theorem vx_calli {S SX : Type} {post : Int32 → S → Prop} {px : SX → Prop} {B : S → State → Prop} {BX : String → SX → State → Prop} {AX : Nat → Prop} (hr : vx_Run p l e R s m args below meth c H locs cells slots mc ms (F0 m pc ls st0) rest (va_Qi post B A1 a) (vx_X px BX AX) free) (hS : va_S A0 H0 H locs) (hA : ∀ q, q < H.size → A1 q → A0 q) (hf : ∀ q, free q → A0 q) (hAX : ∀ q, q < H.size → AX q → A0 q)
    (kx : ∀ (E : String) (ce : Cell) (q9 : Addr) (u : SX) (t : State) (H1 : Heap) (locs1 : List Loc), t.heap = H1 → s.vm.Alike t.vm → px u → BX E u t → H.size ≤ H1.size → (∀ q : Nat, q < H.size → ¬ AX q → H1[q]? = H[q]?) → va_S A0 H0 H1 locs1 → H1[q9]? = some ce → ce.vm = .none → s.vm.findClass E = some ce.cls → vx_W p l e R s m args below meth c H1 locs1 (cells + mc) (slots + ms) Q (F0 m pc ls rest) q9)
    (kk : ∀ (r : Int32) (u : S) (t : State) (H1 : Heap) (locs1 : List Loc), t.heap = H1 → s.vm.Alike t.vm → post r u → B u t → H.size ≤ H1.size → (∀ q : Nat, q < H.size → ¬ A1 q → H1[q]? = H[q]?) → va_S A0 H0 H1 locs1 → W p l e R s m args below meth c H1 locs1 (cells + mc) (slots + ms) Q (F0 m (pc + 3) ls (.int r :: rest))) : W p l e R s m args below meth c H locs cells slots Q (F0 m pc ls st0) := by
  intro T hT X
  rcases hr T hT X with ⟨v, st₀, t, T', L, h0, X', hL, e1, e2, ⟨⟨r, u, hv, hp, hb⟩, hF⟩, st⟩ | ⟨q, st₀, t, T', L, E, ce, h0, X', hL, e1, e2, ⟨u, hp, hb, hF⟩, hce, hcv, hcl, st⟩
  · cases hv
    obtain ⟨k1, k2, k3⟩ := vx_keep h0 e1 hS hA hf hL hF
    obtain ⟨t2, a1, b1⟩ := kk r u t T'.heap (locs ++ L) e1.symm (by rw [← e2]; exact X'.warmed.alike) hp hb k1 k2 k3 T' rfl X'
    exact ⟨t2, st t2 a1, b1⟩
  · obtain ⟨k1, k2, k3⟩ := vx_keep h0 e1 hS hAX hf hL hF
    obtain ⟨t2, a1, b1⟩ := kx E ce q u t T'.heap (locs ++ L) e1.symm (by rw [← e2]; exact X'.warmed.alike) hp hb k1 k2 k3 (by rw [e1]; exact hce) hcv hcl T' rfl X'
    exact ⟨t2, st.trans a1, b1⟩
theorem vx_calll {S SX : Type} {post : Int64 → S → Prop} {px : SX → Prop} {B : S → State → Prop} {BX : String → SX → State → Prop} {AX : Nat → Prop} (hr : vx_Run p l e R s m args below meth c H locs cells slots mc ms (F0 m pc ls st0) rest (va_Ql post B A1 a) (vx_X px BX AX) free) (hS : va_S A0 H0 H locs) (hA : ∀ q, q < H.size → A1 q → A0 q) (hf : ∀ q, free q → A0 q) (hAX : ∀ q, q < H.size → AX q → A0 q)
    (kx : ∀ (E : String) (ce : Cell) (q9 : Addr) (u : SX) (t : State) (H1 : Heap) (locs1 : List Loc), t.heap = H1 → s.vm.Alike t.vm → px u → BX E u t → H.size ≤ H1.size → (∀ q : Nat, q < H.size → ¬ AX q → H1[q]? = H[q]?) → va_S A0 H0 H1 locs1 → H1[q9]? = some ce → ce.vm = .none → s.vm.findClass E = some ce.cls → vx_W p l e R s m args below meth c H1 locs1 (cells + mc) (slots + ms) Q (F0 m pc ls rest) q9)
    (kk : ∀ (r : Int64) (u : S) (t : State) (H1 : Heap) (locs1 : List Loc), t.heap = H1 → s.vm.Alike t.vm → post r u → B u t → H.size ≤ H1.size → (∀ q : Nat, q < H.size → ¬ A1 q → H1[q]? = H[q]?) → va_S A0 H0 H1 locs1 → W p l e R s m args below meth c H1 locs1 (cells + mc) (slots + ms) Q (F0 m (pc + 3) ls (.long r :: rest))) : W p l e R s m args below meth c H locs cells slots Q (F0 m pc ls st0) := by
  intro T hT X
  rcases hr T hT X with ⟨v, st₀, t, T', L, h0, X', hL, e1, e2, ⟨⟨r, u, hv, hp, hb⟩, hF⟩, st⟩ | ⟨q, st₀, t, T', L, E, ce, h0, X', hL, e1, e2, ⟨u, hp, hb, hF⟩, hce, hcv, hcl, st⟩
  · cases hv
    obtain ⟨k1, k2, k3⟩ := vx_keep h0 e1 hS hA hf hL hF
    obtain ⟨t2, a1, b1⟩ := kk r u t T'.heap (locs ++ L) e1.symm (by rw [← e2]; exact X'.warmed.alike) hp hb k1 k2 k3 T' rfl X'
    exact ⟨t2, st t2 a1, b1⟩
  · obtain ⟨k1, k2, k3⟩ := vx_keep h0 e1 hS hAX hf hL hF
    obtain ⟨t2, a1, b1⟩ := kx E ce q u t T'.heap (locs ++ L) e1.symm (by rw [← e2]; exact X'.warmed.alike) hp hb k1 k2 k3 (by rw [e1]; exact hce) hcv hcl T' rfl X'
    exact ⟨t2, st.trans a1, b1⟩
theorem vx_callf {S SX : Type} {post : UInt32 → S → Prop} {px : SX → Prop} {B : S → State → Prop} {BX : String → SX → State → Prop} {AX : Nat → Prop} (hr : vx_Run p l e R s m args below meth c H locs cells slots mc ms (F0 m pc ls st0) rest (va_Qf post B A1 a) (vx_X px BX AX) free) (hS : va_S A0 H0 H locs) (hA : ∀ q, q < H.size → A1 q → A0 q) (hf : ∀ q, free q → A0 q) (hAX : ∀ q, q < H.size → AX q → A0 q)
    (kx : ∀ (E : String) (ce : Cell) (q9 : Addr) (u : SX) (t : State) (H1 : Heap) (locs1 : List Loc), t.heap = H1 → s.vm.Alike t.vm → px u → BX E u t → H.size ≤ H1.size → (∀ q : Nat, q < H.size → ¬ AX q → H1[q]? = H[q]?) → va_S A0 H0 H1 locs1 → H1[q9]? = some ce → ce.vm = .none → s.vm.findClass E = some ce.cls → vx_W p l e R s m args below meth c H1 locs1 (cells + mc) (slots + ms) Q (F0 m pc ls rest) q9)
    (kk : ∀ (r : UInt32) (u : S) (t : State) (H1 : Heap) (locs1 : List Loc), t.heap = H1 → s.vm.Alike t.vm → post r u → B u t → H.size ≤ H1.size → (∀ q : Nat, q < H.size → ¬ A1 q → H1[q]? = H[q]?) → va_S A0 H0 H1 locs1 → W p l e R s m args below meth c H1 locs1 (cells + mc) (slots + ms) Q (F0 m (pc + 3) ls (.float r :: rest))) : W p l e R s m args below meth c H locs cells slots Q (F0 m pc ls st0) := by
  intro T hT X
  rcases hr T hT X with ⟨v, st₀, t, T', L, h0, X', hL, e1, e2, ⟨⟨r, u, hv, hp, hb⟩, hF⟩, st⟩ | ⟨q, st₀, t, T', L, E, ce, h0, X', hL, e1, e2, ⟨u, hp, hb, hF⟩, hce, hcv, hcl, st⟩
  · cases hv
    obtain ⟨k1, k2, k3⟩ := vx_keep h0 e1 hS hA hf hL hF
    obtain ⟨t2, a1, b1⟩ := kk r u t T'.heap (locs ++ L) e1.symm (by rw [← e2]; exact X'.warmed.alike) hp hb k1 k2 k3 T' rfl X'
    exact ⟨t2, st t2 a1, b1⟩
  · obtain ⟨k1, k2, k3⟩ := vx_keep h0 e1 hS hAX hf hL hF
    obtain ⟨t2, a1, b1⟩ := kx E ce q u t T'.heap (locs ++ L) e1.symm (by rw [← e2]; exact X'.warmed.alike) hp hb k1 k2 k3 (by rw [e1]; exact hce) hcv hcl T' rfl X'
    exact ⟨t2, st.trans a1, b1⟩
theorem vx_calld {S SX : Type} {post : UInt64 → S → Prop} {px : SX → Prop} {B : S → State → Prop} {BX : String → SX → State → Prop} {AX : Nat → Prop} (hr : vx_Run p l e R s m args below meth c H locs cells slots mc ms (F0 m pc ls st0) rest (va_Qd post B A1 a) (vx_X px BX AX) free) (hS : va_S A0 H0 H locs) (hA : ∀ q, q < H.size → A1 q → A0 q) (hf : ∀ q, free q → A0 q) (hAX : ∀ q, q < H.size → AX q → A0 q)
    (kx : ∀ (E : String) (ce : Cell) (q9 : Addr) (u : SX) (t : State) (H1 : Heap) (locs1 : List Loc), t.heap = H1 → s.vm.Alike t.vm → px u → BX E u t → H.size ≤ H1.size → (∀ q : Nat, q < H.size → ¬ AX q → H1[q]? = H[q]?) → va_S A0 H0 H1 locs1 → H1[q9]? = some ce → ce.vm = .none → s.vm.findClass E = some ce.cls → vx_W p l e R s m args below meth c H1 locs1 (cells + mc) (slots + ms) Q (F0 m pc ls rest) q9)
    (kk : ∀ (r : UInt64) (u : S) (t : State) (H1 : Heap) (locs1 : List Loc), t.heap = H1 → s.vm.Alike t.vm → post r u → B u t → H.size ≤ H1.size → (∀ q : Nat, q < H.size → ¬ A1 q → H1[q]? = H[q]?) → va_S A0 H0 H1 locs1 → W p l e R s m args below meth c H1 locs1 (cells + mc) (slots + ms) Q (F0 m (pc + 3) ls (.double r :: rest))) : W p l e R s m args below meth c H locs cells slots Q (F0 m pc ls st0) := by
  intro T hT X
  rcases hr T hT X with ⟨v, st₀, t, T', L, h0, X', hL, e1, e2, ⟨⟨r, u, hv, hp, hb⟩, hF⟩, st⟩ | ⟨q, st₀, t, T', L, E, ce, h0, X', hL, e1, e2, ⟨u, hp, hb, hF⟩, hce, hcv, hcl, st⟩
  · cases hv
    obtain ⟨k1, k2, k3⟩ := vx_keep h0 e1 hS hA hf hL hF
    obtain ⟨t2, a1, b1⟩ := kk r u t T'.heap (locs ++ L) e1.symm (by rw [← e2]; exact X'.warmed.alike) hp hb k1 k2 k3 T' rfl X'
    exact ⟨t2, st t2 a1, b1⟩
  · obtain ⟨k1, k2, k3⟩ := vx_keep h0 e1 hS hAX hf hL hF
    obtain ⟨t2, a1, b1⟩ := kx E ce q u t T'.heap (locs ++ L) e1.symm (by rw [← e2]; exact X'.warmed.alike) hp hb k1 k2 k3 (by rw [e1]; exact hce) hcv hcl T' rfl X'
    exact ⟨t2, st.trans a1, b1⟩
theorem vx_callv {S SX : Type} {post : S → Prop} {px : SX → Prop} {B : S → State → Prop} {BX : String → SX → State → Prop} {AX : Nat → Prop} (hr : vx_Run p l e R s m args below meth c H locs cells slots mc ms (F0 m pc ls st0) rest (va_Qv post B A1 a) (vx_X px BX AX) free) (hS : va_S A0 H0 H locs) (hA : ∀ q, q < H.size → A1 q → A0 q) (hf : ∀ q, free q → A0 q) (hAX : ∀ q, q < H.size → AX q → A0 q)
    (kx : ∀ (E : String) (ce : Cell) (q9 : Addr) (u : SX) (t : State) (H1 : Heap) (locs1 : List Loc), t.heap = H1 → s.vm.Alike t.vm → px u → BX E u t → H.size ≤ H1.size → (∀ q : Nat, q < H.size → ¬ AX q → H1[q]? = H[q]?) → va_S A0 H0 H1 locs1 → H1[q9]? = some ce → ce.vm = .none → s.vm.findClass E = some ce.cls → vx_W p l e R s m args below meth c H1 locs1 (cells + mc) (slots + ms) Q (F0 m pc ls rest) q9)
    (kk : ∀ (u : S) (t : State) (H1 : Heap) (locs1 : List Loc), t.heap = H1 → s.vm.Alike t.vm → post u → B u t → H.size ≤ H1.size → (∀ q : Nat, q < H.size → ¬ A1 q → H1[q]? = H[q]?) → va_S A0 H0 H1 locs1 → W p l e R s m args below meth c H1 locs1 (cells + mc) (slots + ms) Q (F0 m (pc + 3) ls (rest))) : W p l e R s m args below meth c H locs cells slots Q (F0 m pc ls st0) := by
  intro T hT X
  rcases hr T hT X with ⟨v, st₀, t, T', L, h0, X', hL, e1, e2, ⟨⟨u, hv, hp, hb⟩, hF⟩, st⟩ | ⟨q, st₀, t, T', L, E, ce, h0, X', hL, e1, e2, ⟨u, hp, hb, hF⟩, hce, hcv, hcl, st⟩
  · cases hv
    obtain ⟨k1, k2, k3⟩ := vx_keep h0 e1 hS hA hf hL hF
    obtain ⟨t2, a1, b1⟩ := kk u t T'.heap (locs ++ L) e1.symm (by rw [← e2]; exact X'.warmed.alike) hp hb k1 k2 k3 T' rfl X'
    exact ⟨t2, st t2 a1, b1⟩
  · obtain ⟨k1, k2, k3⟩ := vx_keep h0 e1 hS hAX hf hL hF
    obtain ⟨t2, a1, b1⟩ := kx E ce q u t T'.heap (locs ++ L) e1.symm (by rw [← e2]; exact X'.warmed.alike) hp hb k1 k2 k3 (by rw [e1]; exact hce) hcv hcl T' rfl X'
    exact ⟨t2, st.trans a1, b1⟩
/-- caught by the row x of this method's table; the rows ahead don't take it -/
theorem vx_catch {own name : String} {E : String} {ce : Cell} {q : Addr} (hown : s.vm.findClass own = some m.cls) (pre : List ExceptionTableEntry) (x : ExceptionTableEntry) (suf : List ExceptionTableEntry) (hsplit : c.exceptionTable.toList = pre ++ x :: suf)
    (hpass : ∀ z ∈ pre, covers z pc = false ∨ (z.catchType ≠ 0 ∧ ∃ nm : String, (Cond.classLink own z.catchType nm).before args s = true ∧ va_Nc E nm s)) (hx : covers x pc = true) (h0 : x.catchType ≠ 0)
    (hlink : (Cond.classLink own x.catchType name).before args s = true) (hcast : (Cond.castable E name).before args s = true) (hcell : H[q]? = some ce) (hv : ce.vm = .none) (hcl : s.vm.findClass E = some ce.cls)
    (kk : W p l e R s m args below meth c H locs cells slots Q (F0 m x.handlerPc ls [.ref q])) : vx_W p l e R s m args below meth c H locs cells slots Q (F0 m pc ls rest) q := by
  intro T hT X
  have hpl : e.platform.magicAccessors = ({} : Platform).magicAccessors := by rw [X.admits.platform]
  obtain ⟨c3, c4, hc3, hc4, hasg⟩ := Cond.castable_spec hcast
  cases Option.some.inj (hc3.symm.trans hcl)
  obtain ⟨c5, hc5, hcl5⟩ := Cond.classLink_spec hown hlink e.platform hpl
  cases Option.some.inj (hc4.symm.trans hc5)
  obtain ⟨vm', X', st⟩ := X.thenCaughtThrough q (g := F0 m pc ls rest) rfl (Steps.refl _) (by rw [hT]; exact hcell) (by rw [hv]; rfl) (by obtain ⟨k9, h9, -⟩ := Vm.findClass_spec hcl; exact ⟨k9, h9⟩) pre x suf hsplit
    (fun z hz => by
      rcases hpass z hz with h | ⟨hz0, nm, hl1, hn1⟩
      · exact Or.inl h
      · obtain ⟨c6, hc6, hcl6⟩ := Cond.classLink_spec hown hl1 e.platform hpl
        obtain ⟨a8, b8, h1, h2, h3⟩ := hn1
        cases Option.some.inj (h1.symm.trans hcl)
        cases Option.some.inj (h2.symm.trans hc6)
        exact Or.inr ⟨hz0, _, hcl6, h3⟩) hx (Or.inr ⟨h0, c4, hcl5, hasg⟩)
  obtain ⟨t, a1, b1⟩ := kk (T.setVm vm') hT X'
  exact ⟨t, st.trans a1, b1⟩
end Rows
section Ends
variable {p : Program} {l : Launch} {e : Env} {R : Room} {s : State} {m : MethodId} {args : Array Value} {below : List Frame} {meth : Method} {c : Code} {H : Heap} {locs : List Loc} {cells slots : Nat} {Q : State → Prop}
variable {mc ms : Nat} {free : Addr → Prop} {A0 A1 : Nat → Prop} {H0 : Heap} {a : Array Value} {ls : Array Slot} {st0 rest : List Value}
variable {Qc : Array Value → State → Outcome → State → Prop} {XC : String → State → State → Prop}
/-- what a body that may throw owes at its end -/
def vx_MQ (below : List Frame) (Qc : Array Value → State → Outcome → State → Prop) (XC : String → State → State → Prop) (a : Array Value) (s : State) (mc ms : Nat) (free : Addr → Prop) : State → Prop := fun t =>
  ∃ o, t.status = .running ∧ Ended t below o ∧ vx_Q Qc XC mc ms free a s o t
theorem vx_ret {g : JFrame} {mc ms : Nat} (k : W p l e R s m args below meth c H locs cells slots (MQ below Qc args s mc ms free) g) : W p l e R s m args below meth c H locs cells slots (vx_MQ below Qc XC args s mc ms free) g := by
  intro T hT X
  obtain ⟨t, a1, o, b1, b2, b3, b4⟩ := k T hT X
  exact ⟨t, a1, o, b1, b2, Or.inl ⟨b3, b4⟩⟩
/-- not caught here: it goes on to the caller -/
theorem vx_widen {g : JFrame} {q : Addr} {k n : Nat} (h1 : cells ≤ k) (h2 : slots ≤ n) (kk : vx_W p l e R s m args below meth c H locs k n Q g q) : vx_W p l e R s m args below meth c H locs cells slots Q g q := fun T hT X => kk T hT (stand_widen X h1 h2)
theorem vx_out {pc : Nat} {E : String} {ce : Cell} {q : Addr} {mc ms : Nat} (hout : ∀ x ∈ c.exceptionTable.toList, covers x pc = false) (hlocks : meth.locks = false) (hcell : H[q]? = some ce) (hv : ce.vm = .none) (hcl : s.vm.findClass E = some ce.cls)
    (hx : ∀ t : State, t.heap = H → s.vm.Alike t.vm → XC E s t) (hf : ∀ z ∈ locs, free z.base) (hc : cells ≤ mc) (hs : slots ≤ ms) :
    vx_W p l e R s m args below meth c H locs cells slots (vx_MQ below Qc XC args s mc ms free) (F0 m pc ls rest) q := by
  intro T hT X
  obtain ⟨st1, hrun, hend, hW, hsm⟩ := X.leaveThrown q (g := F0 m pc ls rest) rfl rfl rfl hout hlocks
  have hcell9 : (T.setFrames (.throwing q :: below)).heap[q]? = some ce := by
    show T.heap[q]? = some ce
    rw [hT]; exact hcell
  exact ⟨_, st1, .threw q, hrun, hend, Or.inr ⟨q, rfl, E, ce, locs, hx _ hT hW.alike, hcell9, hv, hcl, hW, hsm.mono hc hs, hf⟩⟩
theorem vx_frame {U : State} {k n : Nat} (h : s.sameButNew ({ U with vm := s.vm } : State) locs k n) : s.heap.size ≤ U.heap.size ∧ ∀ q : Nat, q < s.heap.size → (∀ z ∈ locs, z.base ≠ q) → U.heap[q]? = s.heap[q]? := by
  obtain ⟨-, h2, -, -, -, h6⟩ := h
  refine ⟨h2, fun q hq hz => ?_⟩
  obtain ⟨c9, e1, e2, e3, e4⟩ := h6 q _ (Array.getElem?_eq_getElem hq)
  have hs : c9.slots = (s.heap[q]).slots := Array.ext_getElem? fun i => e4 i fun hm => hz _ hm rfl
  have h9 : c9 = s.heap[q] := by
    rw [hs] at e2
    exact e2
  have e5 : U.heap[q]? = some c9 := e1
  rw [e5, h9, Array.getElem?_eq_getElem hq]
/-- the words of a throw but the four that speak of the heap -/
def vx_no (w : Cond) : Bool := decide (w ≠ .isRef (.static Bundle.tN "UNASSIGNED_STACK" Bundle.steD)) && decide (w ≠ .isRef (.static Bundle.tN "SUPPRESSED_SENTINEL" Bundle.listD)) && decide (w ≠ .laysStatic Bundle.tN "UNASSIGNED_STACK" Bundle.steD) && decide (w ≠ .laysStatic Bundle.tN "SUPPRESSED_SENTINEL" Bundle.listD)
def vx_at0 (own : String) (ic : Nat) (X : String) (names : List String) : List Cond := (Bundle.ownAtoms0 own ic X names).filter vx_no
def vx_atS (own : String) (ic : Nat) (X : String) (names : List String) : List Cond := (Bundle.ownAtoms own ic X names).filter vx_no
/-- a word that the tables alone decide, or a good one -/
def vx_ot (w : Cond) : Bool := w.onTables || goodWord w
theorem vx_ot_at {args a' : Array Value} {s U : State} {w : Cond} (hW : s.WarmedH U.vm) (hvm : s.vm = U.vm) (hg : vx_ot w = true) (h : w.before args s = true) : w.before a' U = true := by
  simp only [vx_ot, Bool.or_eq_true] at hg
  rcases hg with hg | hg
  · exact va_tabs hg hvm h
  · exact word_at hW (good_of_word hg) h
/-- a list's words: the good ones out of the method's own list, the others by premises of their own -/
theorem vx_hat {args : Array Value} {s : State} {L B : List Cond} (h1 : ∀ w ∈ L.filter goodWord, w.before args s = true) (h2 : ∀ w ∈ L.filter (fun w => !goodWord w), w ∈ B) (h3 : ∀ w ∈ B, w.before args s = true) : ∀ w ∈ L, w.before args s = true := by
  intro w hw
  by_cases g : goodWord w = true
  · exact h1 w (List.mem_filter.mpr ⟨hw, g⟩)
  · refine h3 w (h2 w (List.mem_filter.mpr ⟨hw, ?_⟩))
    show (!goodWord w) = true
    cases hgw : goodWord w
    · rfl
    · exact absurd hgw g
theorem vx_c {args : Array Value} {s : State} {w : Cond} {B : List Cond} (h : w.before args s = true) (t : ∀ w ∈ B, w.before args s = true) : ∀ w' ∈ w :: B, w'.before args s = true := fun w' h' => (List.mem_cons.mp h').elim (fun e => by rw [e]; exact h) (t w')
theorem vx_n {args : Array Value} {s : State} : ∀ w ∈ ([] : List Cond), w.before args s = true := fun _ h => nomatch h
theorem vx_own {args : Array Value} {s : State} {L : List Cond} (h1 : ∀ w ∈ L.filter vx_no, w.before args s = true)
    (hU : (Cond.isRef (.static Bundle.tN "UNASSIGNED_STACK" Bundle.steD)).before args s = true) (hN : (Cond.isRef (.static Bundle.tN "SUPPRESSED_SENTINEL" Bundle.listD)).before args s = true)
    (lU : (Cond.laysStatic Bundle.tN "UNASSIGNED_STACK" Bundle.steD).before args s = true) (lN : (Cond.laysStatic Bundle.tN "SUPPRESSED_SENTINEL" Bundle.listD).before args s = true) : ∀ w ∈ L, w.before args s = true := by
  intro w hw
  by_cases e1 : w = .isRef (.static Bundle.tN "UNASSIGNED_STACK" Bundle.steD)
  · rw [e1]; exact hU
  · by_cases e2 : w = .isRef (.static Bundle.tN "SUPPRESSED_SENTINEL" Bundle.listD)
    · rw [e2]; exact hN
    · by_cases e3 : w = .laysStatic Bundle.tN "UNASSIGNED_STACK" Bundle.steD
      · rw [e3]; exact lU
      · by_cases e4 : w = .laysStatic Bundle.tN "SUPPRESSED_SENTINEL" Bundle.listD
        · rw [e4]; exact lN
        · exact h1 w (List.mem_filter.mpr ⟨hw, by unfold vx_no; rw [decide_eq_true e1, decide_eq_true e2, decide_eq_true e3, decide_eq_true e4]; rfl⟩)
/-- where a static field lies, its class's statics cell in H -/
def vx_L (C n d : String) (A : Nat → Prop) (U : State) (H : Heap) : Prop := ∃ (c : ClassId) (k : Class) (i : Nat) (f : Field) (a : Nat) (cell : Cell), U.vm.findClass C = some c ∧ U.fieldFound? C n d = some (c, k, i, f) ∧ f.isStatic = true ∧ k.statics = some a ∧ H[a]? = some cell ∧ cell.vm.isStatics = true ∧ cell.cls = c ∧ f.slot < cell.slots.size ∧ k.staticTypes[f.slot]? = some f.type ∧ ¬ A a
theorem vx_L.moved {C n d : String} {A : Nat → Prop} {u U : State} {H : Heap} (hvm : u.vm.Alike U.vm) (h : vx_L C n d A u H) : vx_L C n d A U H := by
  obtain ⟨c, k, i, f, a, cell, h1, h2, h3, h4, h5, h6, h7, h8, h9, h10⟩ := h
  obtain ⟨k', hi', he⟩ := State.fieldFound?_setVm hvm h2
  exact ⟨c, k', i, f, a, cell, by rw [hvm.findClass]; exact h1, hi', h3, by rw [he]; exact h4, h5, h6, h7, h8, by rw [he]; exact h9, h10⟩
theorem vx_L.kept {C n d : String} {A : Nat → Prop} {U : State} {H H1 : Heap} (h : vx_L C n d A U H) (hq : ∀ a : Nat, a < H.size → ¬ A a → H1[a]? = H[a]?) : vx_L C n d A U H1 := by
  obtain ⟨c, k, i, f, a, cell, h1, h2, h3, h4, h5, h6, h7, h8, h9, h10⟩ := h
  exact ⟨c, k, i, f, a, cell, h1, h2, h3, h4, by rw [hq a (Array.getElem?_eq_some_iff.mp h5).1 h10]; exact h5, h6, h7, h8, h9, h10⟩
theorem vx_L.narrow {C n d : String} {A B : Nat → Prop} {U : State} {H : Heap} (h : vx_L C n d A U H) (hAB : ∀ q, B q → A q) : vx_L C n d B U H := by
  obtain ⟨c, k, i, f, a, cell, h1, h2, h3, h4, h5, h6, h7, h8, h9, h10⟩ := h
  exact ⟨c, k, i, f, a, cell, h1, h2, h3, h4, h5, h6, h7, h8, h9, fun z => h10 (hAB _ z)⟩
theorem vx_L.word {C n d : String} {A : Nat → Prop} {s : State} {args : Array Value} (h : vx_L C n d A s s.heap) : (Cond.laysStatic C n d).before args s = true := by
  obtain ⟨c, k, i, f, a, cell, h1, h2, h3, h4, h5, h6, h7, h8, h9, -⟩ := h
  show (Cond.laysStatic C n d).holds args s none s [] = true
  exact Cond.laysStatic_of h1 h2 h3 h4 h5 h6 h7 h8 h9
/-- .. and what it holds: null or some reference -/
def vx_Zq (C n d : String) (A : Nat → Prop) (U : State) (H : Heap) : Prop := va_Zq C n d A U H ∧ vx_L C n d A U H
theorem vx_Zq.moved {C n d : String} {A : Nat → Prop} {u U : State} {H : Heap} (hvm : u.vm.Alike U.vm) (h : vx_Zq C n d A u H) : vx_Zq C n d A U H := ⟨va_Zq.moved hvm h.1, vx_L.moved hvm h.2⟩
theorem vx_Zq.kept {C n d : String} {A : Nat → Prop} {U : State} {H H1 : Heap} (h : vx_Zq C n d A U H) (hq : ∀ a : Nat, a < H.size → ¬ A a → H1[a]? = H[a]?) : vx_Zq C n d A U H1 := ⟨va_Zq.kept h.1 hq, vx_L.kept h.2 hq⟩
theorem vx_Zq.narrow {C n d : String} {A B : Nat → Prop} {U : State} {H : Heap} (h : vx_Zq C n d A U H) (hAB : ∀ q, B q → A q) : vx_Zq C n d B U H := ⟨va_Zq.narrow h.1 hAB, vx_L.narrow h.2 hAB⟩
theorem vx_Zqof {args : Array Value} {s : State} {C n d : String} {A : Nat → Prop} (hl : (Cond.laysStatic C n d).before args s = true) (hini : (Cond.initialized C).before args s = true) (h : (Cond.isRef (.static C n d)).before args s = true) (hA : ∀ a : Nat, a < s.heap.size → ¬ A a) : vx_Zq C n d A s s.heap := by
  refine ⟨va_Zqof hl hini h hA, ?_⟩
  obtain ⟨c, k, i, f, a, cell, h1, h2, h3, h4, h5, h6, h7, h8, h9⟩ := Cond.laysStatic_spec hl
  exact ⟨c, k, i, f, a, cell, h1, h2, h3, h4, h5, h6, h7, h8, h9, hA a (Array.getElem?_eq_some_iff.mp h5).1⟩
theorem vx_isRef {C n d : String} {v : Value} {A : Nat → Prop} {s : State} {args : Array Value} (h : va_Z C n d v A s s.heap) (hv : v.isRef = true) : (Cond.isRef (.static C n d)).before args s = true := by
  obtain ⟨cf, kf, fi, f, a, cell, h1, h2, h3, h4, h5, h6, h7, -⟩ := h
  have he : (Term.static C n d).eval args s none [] s = some v := by
    simp [Term.eval, State.fieldNamed?, h1, h2, h4, h5, h6, h7]
  simp only [Cond.before, Cond.holds, Cond.value, he]
  cases v <;> simp_all [Value.isRef]
theorem vx_isRefq {C n d : String} {A : Nat → Prop} {s : State} {args : Array Value} (h : va_Zq C n d A s s.heap) : (Cond.isRef (.static C n d)).before args s = true := by
  rcases h with h | ⟨t, h⟩
  · exact vx_isRef h rfl
  · exact vx_isRef h rfl
/-- the same frame, seen from here: as if the method were called anew in this heap -/
theorem vx_rebase {T : State} (X : Stand p l e R s m args below meth c T locs cells slots) {R' : Room} (hf : R'.frames ≤ R.frames) (hl : R'.locals ≤ R.locals) (hc : cells + R'.cells ≤ R.cells) (hs : slots + R'.slots ≤ R.slots) :
    Stand p l e R' ((T.setVm s.vm).setFrames (.invoking m args :: below)) m args below meth c T [] 0 0 := by
  have htop : (T.setVm s.vm).topJava?.isSome := X.here.top
  have hF : ((T.setVm s.vm).setFrames (.invoking m args :: below)).frames = .invoking m args :: below := State.frames_setFrames _ (State.cur_lt_of_top htop)
  obtain ⟨g₀, hg0⟩ := Option.isSome_iff_exists.mp htop
  obtain ⟨r, hr⟩ := State.topJava?_eq_some.mp hg0
  have hl9 : e.platform.stackLimits (T.setVm s.vm).me = e.platform.stackLimits s.me := X.limits
  have hb9 : (T.setVm s.vm).me.stackBytes = s.me.stackBytes := X.bytes
  refine ⟨X.admits, X.cas, X.clock, hF, ?_, X.hears, X.method, X.code, X.here, X.tail, X.warmed, ?_, ?_, ?_⟩
  · have h := X.room
    have hU : ((T.setVm s.vm).setFrames (.invoking m args :: below)).localsInUse = s.localsInUse := by
      rw [State.localsInUse_invoking hF (meth := meth) (c := c) X.method X.code, State.localsInUse_invoking X.frames X.method X.code]
    simp only [State.hasRoom, Bool.and_eq_true, decide_eq_true_eq] at h ⊢
    obtain ⟨⟨⟨⟨h1, h2, h3, h4, h5, h6⟩, h7⟩, h8⟩, h9⟩ := h
    rw [X.frames, List.length_cons] at h2 h3
    have q1 := X.heapSize
    have q2 := X.used
    simp only [hF, hU, List.length_cons, State.stackLimits_setFrames, State.stackBytes_setFrames, hl9, hb9]
    refine ⟨⟨⟨⟨by omega, by omega, by omega, by omega, by omega, h6⟩, ?_⟩, ?_⟩, X.book⟩
    · show T.heap.size + R'.cells ≤ e.platform.maxCells
      omega
    · show T.slotsUsed + R'.slots ≤ e.platform.maxSlots
      omega
  · rw [State.stackLimits_setFrames]; rfl
  · rw [State.stackBytes_setFrames]; rfl
  · refine ⟨?_, Nat.le_refl _, Nat.le_refl _, ?_, ?_, fun a c9 h9 => ⟨c9, h9, rfl, rfl, fun _ _ => rfl⟩⟩
    · obtain ⟨t, ht, -⟩ := State.frames_cons hr
      show T.setVm s.vm = { ((T.setVm s.vm).setFrames (.invoking m args :: below)).setFrames (T.setVm s.vm).frames with heap := T.heap, slotsUsed := T.slotsUsed }
      rw [State.setFrames_setFrames, State.setFrames_self ht]
      rfl
    · show T.slotsUsed = T.slotsUsed + ((T.heap.toList.drop T.heap.size).map (·.slots.size)).sum
      rw [List.drop_eq_nil_of_le (Nat.le_of_eq Array.length_toList)]
      rfl
    · show ((T.heap.toList.drop T.heap.size).map (·.slots.size)).sum ≤ 0
      rw [List.drop_eq_nil_of_le (Nat.le_of_eq Array.length_toList)]
      exact Nat.le_refl _
/-- 'throw new E()': new; dup; invokespecial; athrow -/
theorem vx_throw0 {cc : ByteArray} {pc : Nat} (hexec : p.tables.exec = Jvm.exec) (hb : c.code = cc) (hl : l.stackTraces = false) {own cls : String} {names : List String} {ik ic mc ms : Nat} {A : Nat → Prop}
    (hown : s.vm.findClass own = some m.cls) (hcls : Bundle.fit cls = true) (hnames : ∀ n ∈ names, Bundle.fit n = true)
    (hk : (Cond.classLink own ik cls).before args s = true) (hini : (Cond.initialized cls).before args s = true) (hat : ∀ w ∈ vx_at0 own ic cls names, w.before args s = true)
    (hgood : ∀ w ∈ Cond.classLink own ik cls :: Cond.initialized cls :: vx_at0 own ic cls names, vx_ot w = true)
    (hU : vx_Zq Bundle.tN "UNASSIGNED_STACK" Bundle.steD A s s.heap) (hN : vx_Zq Bundle.tN "SUPPRESSED_SENTINEL" Bundle.listD A s s.heap) (hS : va_S A s.heap H locs) (hsize : ls.size = c.maxLocals)
    (d0 : decode cc pc = .ok (.new ik, 3)) (d3 : decode cc (pc + 3) = .ok (.dup, 1)) (d4 : decode cc (pc + 4) = .ok (.invokespecial ic, 3)) (d7 : decode cc (pc + 7) = .ok (.athrow, 1))
    (hout : ∀ x ∈ c.exceptionTable.toList, covers x (pc + 7) = false)
    (hRframes : names.length + 3 < R.frames) (hRlocals : (rest.map fun v => v.category).sum + (13 * (names.length + 1) + 42) ≤ R.locals) (hRcells : cells + 1 ≤ R.cells) (hRslots : slots + 6 ≤ R.slots) (hlocks : meth.locks = false)
    (hx : ∀ t : State, s.vm.Alike t.vm → H.size ≤ t.heap.size → (∀ q : Nat, q < H.size → t.heap[q]? = H[q]?) → XC cls s t)
    (hf : ∀ z ∈ locs, free z.base) (hc : cells + 1 ≤ mc) (hs : slots + 6 ≤ ms) :
    W p l e R s m args below meth c H locs cells slots (vx_MQ below Qc XC args s mc ms free) (F0 m pc ls rest) := by
  intro T hT X
  have htr : e.platform.stackTraces = false := (show e.platform.stackTraces = l.stackTraces by rw [X.admits.platform]).trans hl
  have Y := vx_rebase X (R' := { frames := R.frames, locals := R.locals, cells := 1, slots := 6 }) (Nat.le_refl _) (Nat.le_refl _) hRcells hRslots
  obtain ⟨s', hA⟩ : ∃ z, z = (T.setVm s.vm).setFrames (.invoking m args :: below) := ⟨_, rfl⟩
  rw [← hA] at Y
  have hvm : s'.vm = s.vm := by rw [hA]; rfl
  have hhp : s'.heap = H := by rw [hA]; exact hT
  have hW0 : s.WarmedH s'.vm := by rw [hvm]; exact State.WarmedH.refl s
  have hat' : ∀ w ∈ vx_at0 own ic cls names, w.before args s' = true := fun w hw => vx_ot_at hW0 hvm.symm (hgood w (List.mem_cons_of_mem _ (List.mem_cons_of_mem _ hw))) (hat w hw)
  have hk' : (Cond.classLink own ik cls).before args s' = true := vx_ot_at hW0 hvm.symm (hgood _ List.mem_cons_self) hk
  have hini' : (Cond.initialized cls).before args s' = true := vx_ot_at hW0 hvm.symm (hgood _ (List.mem_cons_of_mem _ List.mem_cons_self)) hini
  have hU' : vx_Zq Bundle.tN "UNASSIGNED_STACK" Bundle.steD A s' s'.heap := by rw [hhp]; exact vx_Zq.moved hW0.alike (hU.kept hS.2.1)
  have hN' : vx_Zq Bundle.tN "SUPPRESSED_SENTINEL" Bundle.listD A s' s'.heap := by rw [hhp]; exact vx_Zq.moved hW0.alike (hN.kept hS.2.1)
  have h : ∀ w ∈ Bundle.ownAtoms0 own ic cls names, w.before args s' = true := vx_own hat' (vx_isRefq hU'.1) (vx_isRefq hN'.1) hU'.2.word hN'.2.word
  have hown' : s'.vm.findClass own = some m.cls := by rw [hvm]; exact hown
  have hins : (Cond.instantiable cls 6).before args s' = true := h _ (by simp [Bundle.ownAtoms0])
  obtain ⟨vm₁, cX, kX, hfX, hkX, -, -, X₁, st1⟩ := Y.newCold hexec (own := own) (C := cls) (index := ik) (n := 6) hown' hk' hins hini'
    (g := F0 m pc ls rest) rfl (by rw [hb]; exact d0) (Nat.le_refl _) (Nat.le_refl _)
  generalize hT1 : (T.setVm vm₁).pushCell { cls := cX, slots := kX.instanceTypes.map defaultValue, vm := .none } = T1 at X₁ st1
  have hcat : (Value.ref T.heap.size).category = 1 := rfl
  have hcellA : T1.heap[T.heap.size]? = some (freshCell cX kX) := by rw [← hT1]; exact State.heap_pushCell_size _ _
  have d3' : decode c.code (pc + 3) = .ok (.dup, 1) := by rw [hb]; exact d3
  obtain ⟨U, hsteps, hrun, hend, hW, hsame, ce, hce, hO⟩ := X₁.ctorThrow0 hexec htr (own := own) (cls := cls) (names := names) (ic := ic) hown' hcls hnames h (fun x hx => nomatch hx) hfX hkX hcellA (by rw [hhp, hT]; exact Nat.le_refl _)
    (g := { method := m, pc := pc + 4, locals := ls, stack := .ref T.heap.size :: .ref T.heap.size :: rest, locked := none }) rfl hsize rfl rfl (rest := rest) rfl
    (by rw [hb]; exact d4) (by rw [hb]; exact d7) hout hRframes (by simp only [List.map_cons, List.sum_cons, hcat]; omega) hlocks
  obtain ⟨f1, f2⟩ := vx_frame hsame
  rw [hhp] at f1 f2
  have hWs : s.WarmedH U.vm := State.WarmedH.trans hW0 hW
  have hcl : s.vm.findClass cls = some ce.cls := by
    have h9 := hO.cls
    rw [hvm] at h9
    exact h9
  have hall : s.sameButNew ({ U with vm := s.vm } : State) locs mc ms := by
    subst hA
    obtain ⟨e1, e2⟩ := hsame
    rw [State.setFrames_setFrames] at e1
    have h2 : (T.setVm s.vm).sameButNew ({ U with vm := s.vm } : State) [] (0 + 1) (0 + 6) := ⟨e1, e2⟩
    have h3 := X.same.trans h2
    rw [List.append_nil] at h3
    exact h3.mono hc hs
  refine ⟨U, ?_, .threw T.heap.size, hrun, hend, Or.inr ⟨T.heap.size, rfl, cls, ce, locs, hx U hWs.alike f1 (fun q hq => f2 q hq (fun z hz => nomatch hz)), hce, hO.vm, hcl, hWs, hall, hf⟩⟩
  refine st1 _ ?_
  show Steps p.tables e below (T1.setTop { method := m, pc := pc + 3, locals := ls, stack := .ref T.heap.size :: rest, locked := none }) _
  jvm_step X₁.here [X₁.here.top, hexec, d3', Value.category]
  exact hsteps
/-- 'throw new E("text")': new; dup; ldc; invokespecial; athrow -/
theorem vx_throwS {cc : ByteArray} {pc : Nat} (hexec : p.tables.exec = Jvm.exec) (hb : c.code = cc) (hl : l.stackTraces = false) {own cls text : String} {names : List String} {ik is ic mc ms sa : Nat} {A : Nat → Prop}
    (hown : s.vm.findClass own = some m.cls) (hcls : Bundle.fit cls = true) (hnames : ∀ n ∈ names, Bundle.fit n = true)
    (hk : (Cond.classLink own ik cls).before args s = true) (hini : (Cond.initialized cls).before args s = true) (hstr : vk_R own is text sa s) (hat : ∀ w ∈ vx_atS own ic cls names, w.before args s = true)
    (hgood : ∀ w ∈ Cond.classLink own ik cls :: Cond.initialized cls :: vx_atS own ic cls names, vx_ot w = true)
    (hU : vx_Zq Bundle.tN "UNASSIGNED_STACK" Bundle.steD A s s.heap) (hN : vx_Zq Bundle.tN "SUPPRESSED_SENTINEL" Bundle.listD A s s.heap) (hS : va_S A s.heap H locs) (hsize : ls.size = c.maxLocals)
    (d0 : decode cc pc = .ok (.new ik, 3)) (d3 : decode cc (pc + 3) = .ok (.dup, 1)) (d4 : decode cc (pc + 4) = .ok (.ldc is, 2)) (d6 : decode cc (pc + 6) = .ok (.invokespecial ic, 3)) (d9 : decode cc (pc + 9) = .ok (.athrow, 1))
    (hout : ∀ x ∈ c.exceptionTable.toList, covers x (pc + 9) = false)
    (hRframes : names.length + 3 < R.frames) (hRlocals : (rest.map fun v => v.category).sum + (13 * (names.length + 1) + 43) ≤ R.locals) (hRcells : cells + 1 ≤ R.cells) (hRslots : slots + 6 ≤ R.slots) (hlocks : meth.locks = false)
    (hx : ∀ t : State, s.vm.Alike t.vm → H.size ≤ t.heap.size → (∀ q : Nat, q < H.size → t.heap[q]? = H[q]?) → XC cls s t)
    (hf : ∀ z ∈ locs, free z.base) (hc : cells + 1 ≤ mc) (hs : slots + 6 ≤ ms) :
    W p l e R s m args below meth c H locs cells slots (vx_MQ below Qc XC args s mc ms free) (F0 m pc ls rest) := by
  intro T hT X
  have htr : e.platform.stackTraces = false := (show e.platform.stackTraces = l.stackTraces by rw [X.admits.platform]).trans hl
  have Y := vx_rebase X (R' := { frames := R.frames, locals := R.locals, cells := 1, slots := 6 }) (Nat.le_refl _) (Nat.le_refl _) hRcells hRslots
  obtain ⟨s', hA⟩ : ∃ z, z = (T.setVm s.vm).setFrames (.invoking m args :: below) := ⟨_, rfl⟩
  rw [← hA] at Y
  have hvm : s'.vm = s.vm := by rw [hA]; rfl
  have hhp : s'.heap = H := by rw [hA]; exact hT
  have hW0 : s.WarmedH s'.vm := by rw [hvm]; exact State.WarmedH.refl s
  have hat' : ∀ w ∈ vx_atS own ic cls names, w.before args s' = true := fun w hw => vx_ot_at hW0 hvm.symm (hgood w (List.mem_cons_of_mem _ (List.mem_cons_of_mem _ hw))) (hat w hw)
  have hk' : (Cond.classLink own ik cls).before args s' = true := vx_ot_at hW0 hvm.symm (hgood _ List.mem_cons_self) hk
  have hini' : (Cond.initialized cls).before args s' = true := vx_ot_at hW0 hvm.symm (hgood _ (List.mem_cons_of_mem _ List.mem_cons_self)) hini
  have hU' : vx_Zq Bundle.tN "UNASSIGNED_STACK" Bundle.steD A s' s'.heap := by rw [hhp]; exact vx_Zq.moved hW0.alike (hU.kept hS.2.1)
  have hN' : vx_Zq Bundle.tN "SUPPRESSED_SENTINEL" Bundle.listD A s' s'.heap := by rw [hhp]; exact vx_Zq.moved hW0.alike (hN.kept hS.2.1)
  have h : ∀ w ∈ Bundle.ownAtoms own ic cls names, w.before args s' = true := vx_own hat' (vx_isRefq hU'.1) (vx_isRefq hN'.1) hU'.2.word hN'.2.word
  have hown' : s'.vm.findClass own = some m.cls := by rw [hvm]; exact hown
  have hins : (Cond.instantiable cls 6).before args s' = true := h _ (by simp [Bundle.ownAtoms])
  obtain ⟨vm₁, cX, kX, hfX, hkX, -, -, X₁, st1⟩ := Y.newCold hexec (own := own) (C := cls) (index := ik) (n := 6) hown' hk' hins hini'
    (g := F0 m pc ls rest) rfl (by rw [hb]; exact d0) (Nat.le_refl _) (Nat.le_refl _)
  generalize hT1 : (T.setVm vm₁).pushCell { cls := cX, slots := kX.instanceTypes.map defaultValue, vm := .none } = T1 at X₁ st1
  have hcat : (Value.ref T.heap.size).category = 1 := rfl
  have hcellA : T1.heap[T.heap.size]? = some (freshCell cX kX) := by rw [← hT1]; exact State.heap_pushCell_size _ _
  have d3' : decode c.code (pc + 3) = .ok (.dup, 1) := by rw [hb]; exact d3
  have d4' : decode c.code (pc + 4) = .ok (.ldc is, 2) := by rw [hb]; exact d4
  have hstr' : vk_R own is text sa s' := vk_R.warm hW0 hstr
  obtain ⟨U, hsteps, hrun, hend, hW, hsame, ce, hce, hO⟩ := X₁.ctorThrowS hexec htr (own := own) (cls := cls) (names := names) (ic := ic) hown' hcls hnames h (fun x hx => nomatch hx) hfX hkX hcellA (by rw [hhp, hT]; exact Nat.le_refl _) (msg := .ref sa) rfl
    (g := { method := m, pc := pc + 6, locals := ls, stack := .ref sa :: .ref T.heap.size :: .ref T.heap.size :: rest, locked := none }) rfl hsize rfl rfl (rest := rest) rfl
    (by rw [hb]; exact d6) (by rw [hb]; exact d9) hout hRframes (by simp only [List.map_cons, List.sum_cons, hcat]; omega) hlocks
  obtain ⟨f1, f2⟩ := vx_frame hsame
  rw [hhp] at f1 f2
  have hWs : s.WarmedH U.vm := State.WarmedH.trans hW0 hW
  have hcl : s.vm.findClass cls = some ce.cls := by
    have h9 := hO.cls
    rw [hvm] at h9
    exact h9
  have hall : s.sameButNew ({ U with vm := s.vm } : State) locs mc ms := by
    subst hA
    obtain ⟨e1, e2⟩ := hsame
    rw [State.setFrames_setFrames] at e1
    have h2 : (T.setVm s.vm).sameButNew ({ U with vm := s.vm } : State) [] (0 + 1) (0 + 6) := ⟨e1, e2⟩
    have h3 := X.same.trans h2
    rw [List.append_nil] at h3
    exact h3.mono hc hs
  refine ⟨U, ?_, .threw T.heap.size, hrun, hend, Or.inr ⟨T.heap.size, rfl, cls, ce, locs, hx U hWs.alike f1 (fun q hq => f2 q hq (fun z hz => nomatch hz)), hce, hO.vm, hcl, hWs, hall, hf⟩⟩
  refine st1 _ ?_
  show Steps p.tables e below (T1.setTop { method := m, pc := pc + 3, locals := ls, stack := .ref T.heap.size :: rest, locked := none }) _
  jvm_step X₁.here [X₁.here.top, hexec, d3', Value.category]
  exact X₁.ldcString hexec (own := own) (text := text) (index := is) (a := sa) hown' hstr'.1 hstr'.2
    (g := { method := m, pc := pc + 4, locals := ls, stack := .ref T.heap.size :: .ref T.heap.size :: rest, locked := none }) rfl d4' _ hsteps
/-- 'throw new E("text")', the text by a wide index -/
theorem vx_throwSW {cc : ByteArray} {pc : Nat} (hexec : p.tables.exec = Jvm.exec) (hb : c.code = cc) (hl : l.stackTraces = false) {own cls text : String} {names : List String} {ik is ic mc ms sa : Nat} {A : Nat → Prop}
    (hown : s.vm.findClass own = some m.cls) (hcls : Bundle.fit cls = true) (hnames : ∀ n ∈ names, Bundle.fit n = true)
    (hk : (Cond.classLink own ik cls).before args s = true) (hini : (Cond.initialized cls).before args s = true) (hstr : vk_R own is text sa s) (hat : ∀ w ∈ vx_atS own ic cls names, w.before args s = true)
    (hgood : ∀ w ∈ Cond.classLink own ik cls :: Cond.initialized cls :: vx_atS own ic cls names, vx_ot w = true)
    (hU : vx_Zq Bundle.tN "UNASSIGNED_STACK" Bundle.steD A s s.heap) (hN : vx_Zq Bundle.tN "SUPPRESSED_SENTINEL" Bundle.listD A s s.heap) (hS : va_S A s.heap H locs) (hsize : ls.size = c.maxLocals)
    (d0 : decode cc pc = .ok (.new ik, 3)) (d3 : decode cc (pc + 3) = .ok (.dup, 1)) (d4 : decode cc (pc + 4) = .ok (.ldc_w is, 3)) (d7 : decode cc (pc + 7) = .ok (.invokespecial ic, 3)) (d10 : decode cc (pc + 10) = .ok (.athrow, 1))
    (hout : ∀ x ∈ c.exceptionTable.toList, covers x (pc + 10) = false)
    (hRframes : names.length + 3 < R.frames) (hRlocals : (rest.map fun v => v.category).sum + (13 * (names.length + 1) + 43) ≤ R.locals) (hRcells : cells + 1 ≤ R.cells) (hRslots : slots + 6 ≤ R.slots) (hlocks : meth.locks = false)
    (hx : ∀ t : State, s.vm.Alike t.vm → H.size ≤ t.heap.size → (∀ q : Nat, q < H.size → t.heap[q]? = H[q]?) → XC cls s t)
    (hf : ∀ z ∈ locs, free z.base) (hc : cells + 1 ≤ mc) (hs : slots + 6 ≤ ms) :
    W p l e R s m args below meth c H locs cells slots (vx_MQ below Qc XC args s mc ms free) (F0 m pc ls rest) := by
  intro T hT X
  have htr : e.platform.stackTraces = false := (show e.platform.stackTraces = l.stackTraces by rw [X.admits.platform]).trans hl
  have Y := vx_rebase X (R' := { frames := R.frames, locals := R.locals, cells := 1, slots := 6 }) (Nat.le_refl _) (Nat.le_refl _) hRcells hRslots
  obtain ⟨s', hA⟩ : ∃ z, z = (T.setVm s.vm).setFrames (.invoking m args :: below) := ⟨_, rfl⟩
  rw [← hA] at Y
  have hvm : s'.vm = s.vm := by rw [hA]; rfl
  have hhp : s'.heap = H := by rw [hA]; exact hT
  have hW0 : s.WarmedH s'.vm := by rw [hvm]; exact State.WarmedH.refl s
  have hat' : ∀ w ∈ vx_atS own ic cls names, w.before args s' = true := fun w hw => vx_ot_at hW0 hvm.symm (hgood w (List.mem_cons_of_mem _ (List.mem_cons_of_mem _ hw))) (hat w hw)
  have hk' : (Cond.classLink own ik cls).before args s' = true := vx_ot_at hW0 hvm.symm (hgood _ List.mem_cons_self) hk
  have hini' : (Cond.initialized cls).before args s' = true := vx_ot_at hW0 hvm.symm (hgood _ (List.mem_cons_of_mem _ List.mem_cons_self)) hini
  have hU' : vx_Zq Bundle.tN "UNASSIGNED_STACK" Bundle.steD A s' s'.heap := by rw [hhp]; exact vx_Zq.moved hW0.alike (hU.kept hS.2.1)
  have hN' : vx_Zq Bundle.tN "SUPPRESSED_SENTINEL" Bundle.listD A s' s'.heap := by rw [hhp]; exact vx_Zq.moved hW0.alike (hN.kept hS.2.1)
  have h : ∀ w ∈ Bundle.ownAtoms own ic cls names, w.before args s' = true := vx_own hat' (vx_isRefq hU'.1) (vx_isRefq hN'.1) hU'.2.word hN'.2.word
  have hown' : s'.vm.findClass own = some m.cls := by rw [hvm]; exact hown
  have hins : (Cond.instantiable cls 6).before args s' = true := h _ (by simp [Bundle.ownAtoms])
  obtain ⟨vm₁, cX, kX, hfX, hkX, -, -, X₁, st1⟩ := Y.newCold hexec (own := own) (C := cls) (index := ik) (n := 6) hown' hk' hins hini'
    (g := F0 m pc ls rest) rfl (by rw [hb]; exact d0) (Nat.le_refl _) (Nat.le_refl _)
  generalize hT1 : (T.setVm vm₁).pushCell { cls := cX, slots := kX.instanceTypes.map defaultValue, vm := .none } = T1 at X₁ st1
  have hcat : (Value.ref T.heap.size).category = 1 := rfl
  have hcellA : T1.heap[T.heap.size]? = some (freshCell cX kX) := by rw [← hT1]; exact State.heap_pushCell_size _ _
  have d3' : decode c.code (pc + 3) = .ok (.dup, 1) := by rw [hb]; exact d3
  have d4' : decode c.code (pc + 4) = .ok (.ldc_w is, 3) := by rw [hb]; exact d4
  have hstr' : vk_R own is text sa s' := vk_R.warm hW0 hstr
  obtain ⟨U, hsteps, hrun, hend, hW, hsame, ce, hce, hO⟩ := X₁.ctorThrowS hexec htr (own := own) (cls := cls) (names := names) (ic := ic) hown' hcls hnames h (fun x hx => nomatch hx) hfX hkX hcellA (by rw [hhp, hT]; exact Nat.le_refl _) (msg := .ref sa) rfl
    (g := { method := m, pc := pc + 7, locals := ls, stack := .ref sa :: .ref T.heap.size :: .ref T.heap.size :: rest, locked := none }) rfl hsize rfl rfl (rest := rest) rfl
    (by rw [hb]; exact d7) (by rw [hb]; exact d10) hout hRframes (by simp only [List.map_cons, List.sum_cons, hcat]; omega) hlocks
  obtain ⟨f1, f2⟩ := vx_frame hsame
  rw [hhp] at f1 f2
  have hWs : s.WarmedH U.vm := State.WarmedH.trans hW0 hW
  have hcl : s.vm.findClass cls = some ce.cls := by
    have h9 := hO.cls
    rw [hvm] at h9
    exact h9
  have hall : s.sameButNew ({ U with vm := s.vm } : State) locs mc ms := by
    subst hA
    obtain ⟨e1, e2⟩ := hsame
    rw [State.setFrames_setFrames] at e1
    have h2 : (T.setVm s.vm).sameButNew ({ U with vm := s.vm } : State) [] (0 + 1) (0 + 6) := ⟨e1, e2⟩
    have h3 := X.same.trans h2
    rw [List.append_nil] at h3
    exact h3.mono hc hs
  refine ⟨U, ?_, .threw T.heap.size, hrun, hend, Or.inr ⟨T.heap.size, rfl, cls, ce, locs, hx U hWs.alike f1 (fun q hq => f2 q hq (fun z hz => nomatch hz)), hce, hO.vm, hcl, hWs, hall, hf⟩⟩
  refine st1 _ ?_
  show Steps p.tables e below (T1.setTop { method := m, pc := pc + 3, locals := ls, stack := .ref T.heap.size :: rest, locked := none }) _
  jvm_step X₁.here [X₁.here.top, hexec, d3', Value.category]
  exact X₁.ldcStringW hexec (own := own) (text := text) (index := is) (a := sa) hown' hstr'.1 hstr'.2
    (g := { method := m, pc := pc + 4, locals := ls, stack := .ref T.heap.size :: .ref T.heap.size :: rest, locked := none }) rfl d4' _ hsteps
end Ends
section Bodies
variable {l : Launch}
theorem vx_ofW {y : MethodName} {ws ws' : List Cond} {rm : Room} {Pc : Array Value → State → Prop} {Qc : Array Value → State → Outcome → State → Prop} {XC : String → State → State → Prop} {mc ms : Nat} {free : Addr → Prop} {cc : ByteArray} {maxL : Nat} {ret : Option FieldType}
    (hy : plainName y.cls = true) (hw : ws = Cond.code y cc maxL ret :: ws')
    (body : ∀ p e s m args below meth c s₁, BodyLoose p l y (headSpec ws rm) cc maxL ret e s m args below meth c s₁ → c.maxLocals = maxL → (∀ x ∈ c.exceptionTable.toList, False) → Pc args s →
      W p l e (headSpec ws rm).room s m args below meth c s.heap [] 0 0 (vx_MQ below Qc XC args s mc ms free) (entryFrame m args maxL)) : vx_Met l y ws rm Pc Qc XC mc ms free := by
  refine MetFree.of_bodyS (code := cc) (maxLocals := maxL) (ret := ret) hy ?_ ?_
  · intro args s m h hn
    obtain ⟨meth, c, h1, h2, h3, h4, h5, h6, -, -⟩ := Cond.code_spec hn (atoms_spec (ws := ws) h _ (by rw [hw]; exact List.mem_cons_self))
    exact ⟨meth, c, h1, h2, h3, h4, h5, h6⟩
  · intro p e s m args below meth c s₁ B hml hP _
    have hh0 : s₁.heap = s.heap := by rw [B.state]; rfl
    have ht : ∀ x ∈ c.exceptionTable.toList, False := by
      obtain ⟨meth9, c9, h1, h2, -, -, -, -, h7, -⟩ := Cond.code_spec B.named (atoms_spec (ws := ws) B.pre _ (by rw [hw]; exact List.mem_cons_self))
      cases Option.some.inj (h1.symm.trans B.method)
      cases Option.some.inj (h2.symm.trans (Stand.of_body B).code)
      intro x hx
      rw [Array.isEmpty_iff.mp h7] at hx
      cases hx
    obtain ⟨t, a1, o, b1, b2, b3⟩ := body p e s m args below meth c s₁ B hml ht hP s₁ hh0 (Stand.of_body B)
    exact ⟨t, o, a1, b1, b2, b3⟩
/-- the table of a body with handlers -/
theorem vx_table {p : Program} {x y : MethodName} {S : Spec} {cc bytes : ByteArray} {maxL maxL' : Nat} {ret ret' : Option FieldType} {e : Env} {s s₁ : State} {m : MethodId} {args : Array Value} {below : List Frame} {meth : Method} {c : Code} {hh : List (Nat × Nat × Nat × Nat)}
    (B : BodyLoose p l y S cc maxL ret e s m args below meth c s₁) (h : (Cond.codeWith y bytes maxL' ret' hh).before args s = true) : c.exceptionTable.toList = tableOf hh := by
  obtain ⟨m9, meth9, c9, hn9, h1, h2, -, -, h6, -⟩ := Cond.codeWith_spec h
  cases Option.some.inj (hn9.symm.trans B.named)
  cases Option.some.inj (h1.symm.trans B.method)
  cases Option.some.inj (h2.symm.trans (Stand.of_body B).code)
  rw [← h6, table_eq]
end Bodies
end VXA
/-! ===== END ===== -/
/-! ===== BEGIN a static call of a method with an exception table ===== -/
section VXS
variable {p : Program} {l : Launch} {e : Env} {R : Room} {s : State} {m : MethodId} {args : Array Value} {below : List Frame} {meth : Method} {c : Code} {T : State} {H : Heap} {locs : List Loc} {cells slots : Nat}
abbrev vx_CSW (R : Room) (s : State) (args : Array Value) (own : String) (index : Nat) (y : MethodName) (bytes : ByteArray) (maxL : Nat) (ret : Option FieldType) (hh : List (Nat × Nat × Nat × Nat)) (ws : List Cond) (rm : Room) (mc ms n : Nat) : Prop :=
  (rm.cells = mc ∧ rm.slots = ms ∧ rm.frames + 1 ≤ R.frames ∧ 8 + (maxL + 11) + rm.locals ≤ R.locals ∧ (∀ w ∈ ws, ∀ (a' : Array Value) (U : State), s.WarmedH U.vm → w.before a' U = true) ∧ Cond.codeWith y bytes maxL ret hh ∈ ws) ∧
  (Cond.codeWith y bytes maxL ret hh).before args s = true ∧ (Cond.initialized y.cls).before args s = true ∧ (y.cls ≠ "java/lang/invoke/MethodHandle" ∧ y.cls ≠ "java/lang/invoke/VarHandle") ∧
  (∀ sig, parseMethodDescriptor y.desc = some sig → n = sig.parameters.length) ∧ (Cond.methodLink own index y).before args s = true ∧ (Cond.static y).before args s = true
theorem vx_cwSW {own : String} {index maxL mc ms : Nat} {y : MethodName} {bytes : ByteArray} {ret : Option FieldType} {hh : List (Nat × Nat × Nat × Nat)} {Ts ws ws' : List Cond} {rm : Room} (n : Nat) (ht : ∀ w ∈ Ts, w.before args s = true) (hT : GoodIn Ts (va_wsS own index y ws)) (hw : ws = Cond.codeWith y bytes maxL ret hh :: ws') (hrc : rm.cells = mc) (hrs : rm.slots = ms)
    (hd : y.cls ≠ "java/lang/invoke/MethodHandle" ∧ y.cls ≠ "java/lang/invoke/VarHandle" ∧ (parseMethodDescriptor y.desc).map (fun d => d.parameters.length) = some n) (hR : rm.frames + 1 ≤ R.frames ∧ 8 + (maxL + 11) + rm.locals ≤ R.locals) :
    vx_CSW R s args own index y bytes maxL ret hh ws rm mc ms n := by
  have ok : ∀ w ∈ va_wsS own index y ws, w.before args s = true := fun w h => ht w (hT w h).1
  have hG : GoodIn Ts ws := fun w h => hT w (by unfold va_wsS; exact List.mem_append_right _ h)
  have hc : Cond.codeWith y bytes maxL ret hh ∈ ws := by rw [hw]; exact List.mem_cons_self
  refine ⟨⟨hrc, hrs, hR.1, hR.2, pay_in ht hG, hc⟩, ht _ (hG _ hc).1, ok _ (by simp [va_wsS]), ⟨hd.1, hd.2.1⟩, fun sig h => ?_, ok _ (by simp [va_wsS]), ok _ (by simp [va_wsS])⟩
  have h2 := hd.2.2
  rw [h] at h2
  exact (Option.some.inj h2).symm
theorem vx_callSW (X : Stand p l e R s m args below meth c T locs cells slots) (hexec : p.tables.exec = Jvm.exec) {own : String} {index : Nat} {y : MethodName} {bytes : ByteArray} {maxL : Nat} {ret : Option FieldType} {hh : List (Nat × Nat × Nat × Nat)}
    (hown : s.vm.findClass own = some m.cls) (hlink : (Cond.methodLink own index y).before args s = true) (hstat : (Cond.static y).before args s = true) (hinit : (Cond.initialized y.cls).before args s = true)
    (hcode : (Cond.codeWith y bytes maxL ret hh).before args s = true) (hy : y.cls ≠ "java/lang/invoke/MethodHandle" ∧ y.cls ≠ "java/lang/invoke/VarHandle")
    {W9 : Nat} {Pre : Pt → Array Value → Prop} {Post : Pt → Array Value → Option Value → Pt → Prop} (hK : Back l R p e below s args y 3 W9 Pre Post)
    {g : JFrame} (hg : g.method = m) (hsize : g.locals.size = c.maxLocals) {argsL rest : List Value} (hlen : ∀ sig, parseMethodDescriptor y.desc = some sig → argsL.length = sig.parameters.length)
    (hstack : g.stack = argsL.reverse ++ rest) (hW : 2 * g.monitorRoom + (rest.map fun v => v.category).sum ≤ W9) (hdg : decode c.code g.pc = .ok (.invokestatic index, 3))
    (hpre : ∀ vm₁, s.WarmedH vm₁ → Pre ⟨T.setVm vm₁, locs, cells, slots⟩ argsL.toArray) :
    ∃ (v : Option Value) (vm₁ : Vm) (B : Pt), s.WarmedH vm₁ ∧ Stand p l e R s m args below meth c B.U B.locs B.cells B.slots ∧ Post ⟨T.setVm vm₁, locs, cells, slots⟩ argsL.toArray v B ∧
      ∀ target, Steps p.tables e below (B.U.setTop { g with pc := g.pc + 3, stack := v.toList ++ rest }) target → Steps p.tables e below (T.setTop g) target := by
  obtain ⟨mk, methM, cM, hnamed, hmethM, -, -, -, -, -, -, hsigM⟩ := Cond.codeWith_spec hcode
  have hstatic : methM.isStatic = true := Cond.static_spec hnamed hmethM hstat
  obtain ⟨kP, hkP, -⟩ := className_of_methodNamed hnamed
  have hinitP : kP.init = .initialized := Cond.initialized_spec (findClass_of_methodNamed hnamed) hkP hinit
  obtain ⟨vm₁, X₁, hstep₁⟩ := X.invokestatic hexec hown hlink hnamed hmethM hstatic hkP hinitP hy (g := g) hg (argsL := argsL) (rest := rest) (hlen _ hsigM) hstack hdg
  obtain ⟨v, B, X', hpost, hsteps⟩ := hK m meth c ⟨T.setVm vm₁, locs, cells, slots⟩ { g with stack := rest } (.invokestatic index) mk argsL.toArray X₁ hg hsize hdg hW (X₁.named hnamed) (hpre vm₁ X₁.warmed)
  exact ⟨v, vm₁, B, X₁.warmed, X', hpost, fun target h => hstep₁ _ fun acts => by rw [doInvoke_state]; exact hsteps.trans h⟩
theorem vx_runSW {y : MethodName} {bytes cc : ByteArray} {maxL nL mc ms n index : Nat} {ret : Option FieldType} {hh : List (Nat × Nat × Nat × Nat)} {ws : List Cond} {rm : Room} {Pc : Array Value → State → Prop} {Qc : Array Value → State → Outcome → State → Prop} {free : Addr → Prop} {Ts : List Cond} {own : String} {As rest : List Value} {g : JFrame}
    (S : CallFix p m c cc nL s args Ts own) (hM : Met l y ws rm Pc Qc mc ms free) (cw : vx_CSW R s args own index y bytes maxL ret hh ws rm mc ms n) (hp : PreS s H Pc As)
    (hg : g.method = m) (hn : As.length = n) (hsize : g.locals.size = nL) (hstack : g.stack = As.reverse ++ rest) (hW : 2 * g.monitorRoom + (rest.map fun v => v.category).sum ≤ 8) (hdg : decode cc g.pc = .ok (.invokestatic index, 3)) (hf : cells + mc ≤ R.cells ∧ slots + ms ≤ R.slots) :
    va_Run p l e R s m args below meth c H locs cells slots mc ms g rest (Qc As.toArray) (free) := by
  obtain ⟨⟨hrc, hrs, hfr, hlo, hws, hcw⟩, hcode, hini, hy, hlen, hl, hstt⟩ := cw
  have hK : Back l R p e below s args y 3 8 (PreOf R mc ms Pc) (PostOf Qc mc ms free) := va_backW (hh := hh) (bytes := bytes) (maxL := maxL) (ret := ret) hM hp.1 hrc hrs hfr hlo hws hcw (fun a' U hW => word_at hW (Or.inl (by first | rfl | simp [Cond.onTables, Cond.keeps, Cond.steady])) hini)
  obtain ⟨hx, hb, hml, ho, -⟩ := S
  intro T hT X
  obtain ⟨v, vm₁, ⟨U', l2, c2, s2⟩, hW₁, X', ⟨g', mk, t, L, e1, e2, hq, h1, hL, h2, h3⟩, st⟩ := vx_callSW X hx (hh := hh) (bytes := bytes) (maxL := maxL) (ret := ret) ho hl hstt hini hcode hy hK hg (hsize.trans hml.symm) (argsL := As) (rest := rest) (fun sig h => hn.trans (hlen sig h)) hstack hW (by rw [hb]; exact hdg)
    (fun vm₁ hW₁ => ⟨hf.1, hf.2, hp.2 (T.setVm vm₁) hT hW₁⟩)
  dsimp only [Pt.U, Pt.locs, Pt.cells, Pt.slots] at X' e1 e2 h1 h2 h3 st
  subst h1; subst h2; subst h3
  exact ⟨v, (T.setVm vm₁).calling g' mk As.toArray, t, U', L, hT, X', hL, e1, e2, hq, st⟩
/-- not caught here, past rows that name other classes: it goes on to the caller -/
theorem vx_outP {p : Program} {l : Launch} {e : Env} {R : Room} {s : State} {m : MethodId} {args : Array Value} {below : List Frame} {meth : Method} {c : Code} {H : Heap} {locs : List Loc} {cells slots : Nat} {free : Addr → Prop} {ls : Array Slot} {rest : List Value} {Qc : Array Value → State → Outcome → State → Prop} {XC : String → State → State → Prop}
    {pc : Nat} {own E : String} {ce : Cell} {q : Addr} {mc ms : Nat} (hown : s.vm.findClass own = some m.cls) (hlocks : meth.locks = false)
    (hpass : ∀ z ∈ c.exceptionTable.toList, covers z pc = false ∨ (z.catchType ≠ 0 ∧ ∃ nm : String, (Cond.classLink own z.catchType nm).before args s = true ∧ va_Nc E nm s)) (hcell : H[q]? = some ce) (hv : ce.vm = .none) (hcl : s.vm.findClass E = some ce.cls)
    (hx : ∀ t : State, t.heap = H → s.vm.Alike t.vm → XC E s t) (hf : ∀ z ∈ locs, free z.base) (hc : cells ≤ mc) (hs : slots ≤ ms) :
    vx_W p l e R s m args below meth c H locs cells slots (vx_MQ below Qc XC args s mc ms free) (F0 m pc ls rest) q := by
  intro T hT X
  have hpl : e.platform.magicAccessors = ({} : Platform).magicAccessors := by rw [X.admits.platform]
  obtain ⟨vm', hW', X', st⟩ := X.outThrough hlocks q (g := F0 m pc ls rest) rfl rfl rfl (cell := ce) (by rw [hT]; exact hcell) (by rw [hv]; rfl)
    (by obtain ⟨k9, h9, -⟩ := Vm.findClass_spec hcl; exact ⟨k9, h9⟩) (fun z hz => by
      rcases hpass z hz with h | ⟨hz0, nm, hl1, hn1⟩
      · exact Or.inl h
      · obtain ⟨c6, hc6, hcl6⟩ := Cond.classLink_spec hown hl1 e.platform hpl
        obtain ⟨a8, b8, h1, h2, h3⟩ := hn1
        cases Option.some.inj (h1.symm.trans hcl)
        cases Option.some.inj (h2.symm.trans hc6)
        exact Or.inr ⟨hz0, _, hcl6, h3⟩)
  obtain ⟨g₀, hfr⟩ := X'.frames_eq
  have hcell9 : ((T.setVm vm').setFrames (.throwing q :: below)).heap[q]? = some ce := by
    show T.heap[q]? = some ce
    rw [hT]; exact hcell
  have hend : Ended ((T.setVm vm').setFrames (.throwing q :: below)) below (.threw q) := State.frames_setFrames _ (State.cur_lt_of_frames hfr)
  refine ⟨(T.setVm vm').setFrames (.throwing q :: below), ?_, .threw q, X'.here.running, hend, Or.inr ⟨q, rfl, E, ce, locs, hx _ hT (X'.ends _).1.alike, hcell9, hv, hcl, (X'.ends _).1, (X'.ends _).2.mono hc hs, hf⟩⟩
  rw [X.pushThrowing_eq]
  exact st
/-- a thing of a world lies in the heap -/
theorem vx_lt {D : va_G} {cl : List vw_C} {ws : va_W} {H1 : Heap} (h : va_P D cl ws H1) {k : Nat} {q : Nat × va_E} (hk : ws[k]? = some q) : q.1 < H1.size := (h k q hk).lt
end VXS
/-! ===== END ===== -/
/-! ===== BEGIN methods with a table of their own: called by a name, returning or throwing ===== -/
section VXH
/-! vx_backW, vx_callVX, vx_callSX, vx_callVW, vx_runVW, vx_runVX, vx_runSX, vx_ofWH follow the same proofs as their sisters above (Free/Laws.lean, Shelf42/LK1.lean); vx_outP calls Shelf42/NT130.lean (outThrough). -/
section
variable {l : Launch} {R : Room} {p : Program} {e : Env} {below : List Frame} {s : State} {sargs : Array Value} {y : MethodName} {len W9 : Nat}
theorem vx_backW {ws : List Cond} {rm : Room} {Pc : Array Value → State → Prop} {Qc : Array Value → State → Outcome → State → Prop} {XC : String → State → State → Prop} {mc ms : Nat} {free : Addr → Prop} {bytes : ByteArray} {maxL : Nat} {ret : Option FieldType} {hh : List (Nat × Nat × Nat × Nat)}
    (hM : vx_Met l y ws rm Pc Qc XC mc ms free) (hblind : FrameBlind Pc) (hrc : rm.cells = mc) (hrs : rm.slots = ms)
    (hframes : rm.frames + 1 ≤ R.frames) (hlocals : W9 + (maxL + 11) + rm.locals ≤ R.locals)
    (hws : ∀ w ∈ ws, ∀ a' U, s.WarmedH U.vm → w.before a' U = true) (hcode : Cond.codeWith y bytes maxL ret hh ∈ ws) (hinit : ∀ a' U, s.WarmedH U.vm → (Cond.initialized y.cls).before a' U = true) :
    vx_Back l R p e below s sargs y len W9 (PreOf R mc ms Pc) (PostOf Qc mc ms free) (vx_Post XC mc ms free) := by
  intro m meth c A g ig mk a X hg hsize hdg hW hn hp
  have h1 : (headSpec ws rm).pre.before a A.U = true := atoms_intro fun w hw => hws w hw _ _ X.warmed
  have h2 : (Cond.codeWith y bytes maxL ret hh).before a A.U = true := hws _ hcode _ _ X.warmed
  have h3 : (Cond.initialized y.cls).before a A.U = true := hinit _ _ X.warmed
  have h4 : A.cells + (headSpec ws rm).room.cells ≤ R.cells := by rw [show (headSpec ws rm).room.cells = mc from hrc]; exact hp.1
  have h5 : A.slots + (headSpec ws rm).room.slots ≤ R.slots := by rw [show (headSpec ws rm).room.slots = ms from hrs]; exact hp.2.1
  have hPc : Pc a (A.U.calling g mk a) := hblind _ _ _ _ hp.2.2
  obtain ⟨U, Ls, c0, s0⟩ := A
  dsimp only [Pt.U, Pt.locs, Pt.cells, Pt.slots] at h1 h2 h3 h4 h5 X hn hPc ⊢
  obtain ⟨m9, methY, cY, hn9, hmY, hcY, -, hlY, -⟩ := Cond.codeWith_spec h2
  cases Option.some.inj (hn9.symm.trans hn)
  obtain ⟨kY, hkY, -⟩ := className_of_methodNamed hn
  have hinitY : kY.init = .initialized := Cond.initialized_spec (findClass_of_methodNamed hn) hkY h3
  have h : At U g.method c below := by rw [hg]; exact X.here
  have hlocals9 : W9 + (maxL + 11) + (headSpec ws rm).room.locals ≤ R.locals := hlocals
  have happ : (headSpec ws rm).appliesLoose y e.platform (U.calling g mk a) = true :=
    Spec.appliesLoose_calling (g := g) h hdg hn hkY hinitY
      (X.room_calling (g := g) (R' := (headSpec ws rm).room) hsize hmY hcY hframes (by rw [hlY]; omega) h4 h5) h1
  obtain ⟨mid, hmid⟩ := h.above
  have hfr : (U.setTop g).frames = (.java g :: mid) ++ below := by rw [State.frames_setTop' g h.top, hmid]; rfl
  obtain ⟨o, s₂, hsteps, -, hend, hq⟩ := Steps.callFree hM p X.admits X.cas X.clock (acts := []) hfr happ hPc trivial
  have hq' : vx_Q Qc XC mc ms free a (U.calling g mk a) o s₂ := hq
  rw [State.frames_setTop' g h.top] at hend
  obtain ⟨g₀, hg0⟩ := Option.isSome_iff_exists.mp h.top
  obtain ⟨r, hr⟩ := State.topJava?_eq_some.mp hg0
  have hr' : (({ U with heap := s₂.heap, slotsUsed := s₂.slotsUsed } : State).setVm s₂.vm).frames = .java g₀ :: r := hr
  rcases hq' with ⟨hqc, L, hfe, hL⟩ | ⟨q, rfl, E, ce, L, hx, hce, hcv, hcl, hW₂, hsm, hL⟩
  · obtain ⟨⟨v, rfl⟩, hW₂, e2, q2, q3, q4, q5, q6⟩ := id hfe
    have e3 : s₂ = ({ (U.calling g mk a).setFrames s₂.frames with heap := s₂.heap, slotsUsed := s₂.slotsUsed } : State).setVm s₂.vm := by
      have : s₂ = ({ s₂ with vm := (U.calling g mk a).vm } : State).setVm s₂.vm := rfl
      rw [e2] at this
      exact this
    obtain ⟨c₂, i₂, len₂, hc₂, hd₂, hf₂⟩ := hend
    have hW' : U.WarmedH s₂.vm := hW₂
    have hcc : c₂ = c := by
      have h1 : s₂.code? g.method = U.code? g.method := by
        rw [State.code?_eq, State.code?_eq, hW'.alike.method?]
      exact Option.some.inj (hc₂.symm.trans (h1.trans h.code))
    subst hcc
    have hlen : len₂ = len := by rw [hdg] at hd₂; cases hd₂; rfl
    subst hlen
    have hs₂ : s₂ = (({ U with heap := s₂.heap, slotsUsed := s₂.slotsUsed } : State).setVm s₂.vm).setTop { g with pc := g.pc + len₂, stack := v.toList ++ g.stack } := by
      refine e3.trans ?_
      rw [hf₂, State.calling_eq h.top, State.setFrames_setFrames, State.setTop_of_frames _ hr', hr]
      rfl
    have hsame : U.sameButNew ({ U with heap := s₂.heap, slotsUsed := s₂.slotsUsed } : State) L mc ms := by
      refine ⟨?_, q2, q3, q4, q5, q6⟩
      obtain ⟨t, ht, -⟩ := State.frames_cons hr
      show ({ U with heap := s₂.heap, slotsUsed := s₂.slotsUsed } : State) = { U.setFrames U.frames with heap := s₂.heap, slotsUsed := s₂.slotsUsed }
      rw [State.setFrames_self ht]
    subst hg
    refine Or.inl ⟨v, ⟨(({ U with heap := s₂.heap, slotsUsed := s₂.slotsUsed } : State).setVm s₂.vm), Ls ++ L, c0 + mc, s0 + ms⟩,
      ⟨X.admits, X.cas, X.clock, X.frames, X.room, X.hears, X.method, X.code, (X.here.setHeapUsed s₂.heap s₂.slotsUsed).setVm hW'.alike, X.tail, State.WarmedH.trans X.warmed hW', X.limits, X.bytes, X.same.trans (hsame.setVm s.vm)⟩,
      ⟨g, mk, s₂, L, rfl, rfl, hqc, rfl, hL, rfl, rfl⟩, ?_⟩
    show Steps p.tables e below _ ((({ U with heap := s₂.heap, slotsUsed := s₂.slotsUsed } : State).setVm s₂.vm).setTop { g with pc := g.pc + len₂, stack := v.toList ++ g.stack })
    rw [← hs₂]
    exact hsteps
  · obtain ⟨e2, q2, q3, q4, q5, q6⟩ := id hsm
    have e3 : s₂ = ({ (U.calling g mk a).setFrames s₂.frames with heap := s₂.heap, slotsUsed := s₂.slotsUsed } : State).setVm s₂.vm := by
      have : s₂ = ({ s₂ with vm := (U.calling g mk a).vm } : State).setVm s₂.vm := rfl
      rw [e2] at this
      exact this
    have hf₂ : s₂.frames = .throwing q :: .java g :: U.frames.tail := hend
    have hW' : U.WarmedH s₂.vm := hW₂
    have hs₂ : s₂ = ((({ U with heap := s₂.heap, slotsUsed := s₂.slotsUsed } : State).setVm s₂.vm).setTop g).pushFrame (.throwing q) := by
      refine e3.trans ?_
      rw [hf₂, State.calling_eq h.top, State.setFrames_setFrames, State.pushFrame, State.frames_setTop _ hr', State.setTop_of_frames _ hr', State.setFrames_setFrames, hr]
      rfl
    have hsame : U.sameButNew ({ U with heap := s₂.heap, slotsUsed := s₂.slotsUsed } : State) L mc ms := by
      refine ⟨?_, q2, q3, q4, q5, q6⟩
      obtain ⟨t, ht, -⟩ := State.frames_cons hr
      show ({ U with heap := s₂.heap, slotsUsed := s₂.slotsUsed } : State) = { U.setFrames U.frames with heap := s₂.heap, slotsUsed := s₂.slotsUsed }
      rw [State.setFrames_self ht]
    subst hg
    refine Or.inr ⟨q, ⟨(({ U with heap := s₂.heap, slotsUsed := s₂.slotsUsed } : State).setVm s₂.vm), Ls ++ L, c0 + mc, s0 + ms⟩,
      ⟨X.admits, X.cas, X.clock, X.frames, X.room, X.hears, X.method, X.code, (X.here.setHeapUsed s₂.heap s₂.slotsUsed).setVm hW'.alike, X.tail, State.WarmedH.trans X.warmed hW', X.limits, X.bytes, X.same.trans (hsame.setVm s.vm)⟩,
      ⟨g, mk, s₂, L, E, ce, rfl, rfl, hx, hce, hcv, hcl, rfl, hL, rfl, rfl⟩, ?_⟩
    show Steps p.tables e below _ (((({ U with heap := s₂.heap, slotsUsed := s₂.slotsUsed } : State).setVm s₂.vm).setTop g).pushFrame (.throwing q))
    rw [← hs₂]
    exact hsteps
end
variable {p : Program} {l : Launch} {e : Env} {R : Room} {s : State} {m : MethodId} {args : Array Value} {below : List Frame} {meth : Method} {c : Code} {T : State} {H : Heap} {locs : List Loc} {cells slots : Nat}
theorem vx_callVX (X : Stand p l e R s m args below meth c T locs cells slots) (hexec : p.tables.exec = Jvm.exec) {own C : String} {index : Nat} {y : MethodName} {bytes : ByteArray} {maxL : Nat} {ret : Option FieldType} {hh : List (Nat × Nat × Nat × Nat)}
    (hown : s.vm.findClass own = some m.cls) (hlink : (Cond.methodLink own index y).before args s = true) (hinst : (Cond.instanceMethod y).before args s = true) (hsel : (Cond.selects C y y).before args s = true)
    (hcode : (Cond.codeWith y bytes maxL ret hh).before args s = true) (hy : y.cls ≠ "java/lang/invoke/MethodHandle" ∧ y.cls ≠ "java/lang/invoke/VarHandle")
    {W9 : Nat} {Pre : Pt → Array Value → Prop} {Post : Pt → Array Value → Option Value → Pt → Prop} {PostX : Pt → Array Value → Addr → Pt → Prop} (hK : vx_Back l R p e below s args y 3 W9 Pre Post PostX)
    {b : Addr} {cellB : Cell} (hcell : T.heap[b]? = some cellB) (hobj : cellB.vm.isStatics = false) (hcls : s.vm.findClass C = some cellB.cls)
    {g : JFrame} (hg : g.method = m) (hsize : g.locals.size = c.maxLocals) {argsL rest : List Value} (hlen : ∀ sig, parseMethodDescriptor y.desc = some sig → argsL.length = sig.parameters.length)
    (hstack : g.stack = argsL.reverse ++ .ref b :: rest) (hW : 2 * g.monitorRoom + (rest.map fun v => v.category).sum ≤ W9) (hdg : decode c.code g.pc = .ok (.invokevirtual index, 3))
    (hpre : ∀ vm₁, s.WarmedH vm₁ → Pre ⟨T.setVm vm₁, locs, cells, slots⟩ (Value.ref b :: argsL).toArray) :
    (∃ (v : Option Value) (vm₁ : Vm) (B : Pt), s.WarmedH vm₁ ∧ Stand p l e R s m args below meth c B.U B.locs B.cells B.slots ∧ Post ⟨T.setVm vm₁, locs, cells, slots⟩ (Value.ref b :: argsL).toArray v B ∧
      ∀ target, Steps p.tables e below (B.U.setTop { g with pc := g.pc + 3, stack := v.toList ++ rest }) target → Steps p.tables e below (T.setTop g) target) ∨
    (∃ (q : Addr) (vm₁ : Vm) (B : Pt), s.WarmedH vm₁ ∧ Stand p l e R s m args below meth c B.U B.locs B.cells B.slots ∧ PostX ⟨T.setVm vm₁, locs, cells, slots⟩ (Value.ref b :: argsL).toArray q B ∧
      Steps p.tables e below (T.setTop g) ((B.U.setTop { g with stack := rest }).pushFrame (.throwing q))) := by
  obtain ⟨mk, methM, hnamed, hmethM, hstM, habM⟩ := Cond.instanceMethod_spec hinst
  obtain ⟨m8, methM', cM, hn8, hmethM', -, -, -, -, -, -, hsigM⟩ := Cond.codeWith_spec hcode
  cases Option.some.inj (hn8.symm.trans hnamed)
  cases hmethM.symm.trans hmethM'
  obtain ⟨c2, r2, m2, q1, q2, q3, q4, kP, hkP, hkPi⟩ := Cond.selects_spec hsel
  cases hcls.symm.trans q1
  cases (State.methodFound?_of_named hnamed hy).symm.trans q2
  cases hnamed.symm.trans q3
  have hselP : selectMethod e.platform s.vm cellB.cls mk = .method mk := by rw [Launch.admits_selectMethod X.admits]; exact q4
  obtain ⟨vm₁, X₁, hstep₁⟩ := X.invokevirtual hexec hown hlink hnamed hmethM hstM hkP hkPi hy (a := b) (cell := cellB) hcell
    (fun z h => by rw [h] at hobj; cases hobj) hselP hmethM habM hkP hkPi (g := g) hg (argsL := argsL) (rest := rest) (hlen _ hsigM) hstack hdg
  rcases hK m meth c ⟨T.setVm vm₁, locs, cells, slots⟩ { g with stack := rest } (.invokevirtual index) mk (Value.ref b :: argsL).toArray X₁ hg hsize hdg hW (X₁.named hnamed) (hpre vm₁ X₁.warmed) with ⟨v, B, X', hpost, hsteps⟩ | ⟨q, B, X', hpost, hsteps⟩
  · exact Or.inl ⟨v, vm₁, B, X₁.warmed, X', hpost, fun target h => hstep₁ _ fun acts => by rw [doInvoke_state]; exact hsteps.trans h⟩
  · exact Or.inr ⟨q, vm₁, B, X₁.warmed, X', hpost, hstep₁ _ fun acts => by rw [doInvoke_state]; exact hsteps⟩
theorem vx_callSX (X : Stand p l e R s m args below meth c T locs cells slots) (hexec : p.tables.exec = Jvm.exec) {own : String} {index : Nat} {y : MethodName} {bytes : ByteArray} {maxL : Nat} {ret : Option FieldType} {hh : List (Nat × Nat × Nat × Nat)}
    (hown : s.vm.findClass own = some m.cls) (hlink : (Cond.methodLink own index y).before args s = true) (hstat : (Cond.static y).before args s = true) (hinit : (Cond.initialized y.cls).before args s = true)
    (hcode : (Cond.codeWith y bytes maxL ret hh).before args s = true) (hy : y.cls ≠ "java/lang/invoke/MethodHandle" ∧ y.cls ≠ "java/lang/invoke/VarHandle")
    {W9 : Nat} {Pre : Pt → Array Value → Prop} {Post : Pt → Array Value → Option Value → Pt → Prop} {PostX : Pt → Array Value → Addr → Pt → Prop} (hK : vx_Back l R p e below s args y 3 W9 Pre Post PostX)
    {g : JFrame} (hg : g.method = m) (hsize : g.locals.size = c.maxLocals) {argsL rest : List Value} (hlen : ∀ sig, parseMethodDescriptor y.desc = some sig → argsL.length = sig.parameters.length)
    (hstack : g.stack = argsL.reverse ++ rest) (hW : 2 * g.monitorRoom + (rest.map fun v => v.category).sum ≤ W9) (hdg : decode c.code g.pc = .ok (.invokestatic index, 3))
    (hpre : ∀ vm₁, s.WarmedH vm₁ → Pre ⟨T.setVm vm₁, locs, cells, slots⟩ argsL.toArray) :
    (∃ (v : Option Value) (vm₁ : Vm) (B : Pt), s.WarmedH vm₁ ∧ Stand p l e R s m args below meth c B.U B.locs B.cells B.slots ∧ Post ⟨T.setVm vm₁, locs, cells, slots⟩ argsL.toArray v B ∧
      ∀ target, Steps p.tables e below (B.U.setTop { g with pc := g.pc + 3, stack := v.toList ++ rest }) target → Steps p.tables e below (T.setTop g) target) ∨
    (∃ (q : Addr) (vm₁ : Vm) (B : Pt), s.WarmedH vm₁ ∧ Stand p l e R s m args below meth c B.U B.locs B.cells B.slots ∧ PostX ⟨T.setVm vm₁, locs, cells, slots⟩ argsL.toArray q B ∧
      Steps p.tables e below (T.setTop g) ((B.U.setTop { g with stack := rest }).pushFrame (.throwing q))) := by
  obtain ⟨mk, methM, cM, hnamed, hmethM, -, -, -, -, -, -, hsigM⟩ := Cond.codeWith_spec hcode
  have hstatic : methM.isStatic = true := Cond.static_spec hnamed hmethM hstat
  obtain ⟨kP, hkP, -⟩ := className_of_methodNamed hnamed
  have hinitP : kP.init = .initialized := Cond.initialized_spec (findClass_of_methodNamed hnamed) hkP hinit
  obtain ⟨vm₁, X₁, hstep₁⟩ := X.invokestatic hexec hown hlink hnamed hmethM hstatic hkP hinitP hy (g := g) hg (argsL := argsL) (rest := rest) (hlen _ hsigM) hstack hdg
  rcases hK m meth c ⟨T.setVm vm₁, locs, cells, slots⟩ { g with stack := rest } (.invokestatic index) mk argsL.toArray X₁ hg hsize hdg hW (X₁.named hnamed) (hpre vm₁ X₁.warmed) with ⟨v, B, X', hpost, hsteps⟩ | ⟨q, B, X', hpost, hsteps⟩
  · exact Or.inl ⟨v, vm₁, B, X₁.warmed, X', hpost, fun target h => hstep₁ _ fun acts => by rw [doInvoke_state]; exact hsteps.trans h⟩
  · exact Or.inr ⟨q, vm₁, B, X₁.warmed, X', hpost, hstep₁ _ fun acts => by rw [doInvoke_state]; exact hsteps⟩
theorem vx_callVW (X : Stand p l e R s m args below meth c T locs cells slots) (hexec : p.tables.exec = Jvm.exec) {own C : String} {index : Nat} {y : MethodName} {bytes : ByteArray} {maxL : Nat} {ret : Option FieldType} {hh : List (Nat × Nat × Nat × Nat)}
    (hown : s.vm.findClass own = some m.cls) (hlink : (Cond.methodLink own index y).before args s = true) (hinst : (Cond.instanceMethod y).before args s = true) (hsel : (Cond.selects C y y).before args s = true)
    (hcode : (Cond.codeWith y bytes maxL ret hh).before args s = true) (hy : y.cls ≠ "java/lang/invoke/MethodHandle" ∧ y.cls ≠ "java/lang/invoke/VarHandle")
    {W9 : Nat} {Pre : Pt → Array Value → Prop} {Post : Pt → Array Value → Option Value → Pt → Prop} (hK : Back l R p e below s args y 3 W9 Pre Post)
    {b : Addr} {cellB : Cell} (hcell : T.heap[b]? = some cellB) (hobj : cellB.vm.isStatics = false) (hcls : s.vm.findClass C = some cellB.cls)
    {g : JFrame} (hg : g.method = m) (hsize : g.locals.size = c.maxLocals) {argsL rest : List Value} (hlen : ∀ sig, parseMethodDescriptor y.desc = some sig → argsL.length = sig.parameters.length)
    (hstack : g.stack = argsL.reverse ++ .ref b :: rest) (hW : 2 * g.monitorRoom + (rest.map fun v => v.category).sum ≤ W9) (hdg : decode c.code g.pc = .ok (.invokevirtual index, 3))
    (hpre : ∀ vm₁, s.WarmedH vm₁ → Pre ⟨T.setVm vm₁, locs, cells, slots⟩ (Value.ref b :: argsL).toArray) :
    ∃ (v : Option Value) (vm₁ : Vm) (B : Pt), s.WarmedH vm₁ ∧ Stand p l e R s m args below meth c B.U B.locs B.cells B.slots ∧ Post ⟨T.setVm vm₁, locs, cells, slots⟩ (Value.ref b :: argsL).toArray v B ∧
      ∀ target, Steps p.tables e below (B.U.setTop { g with pc := g.pc + 3, stack := v.toList ++ rest }) target → Steps p.tables e below (T.setTop g) target := by
  obtain ⟨mk, methM, hnamed, hmethM, hstM, habM⟩ := Cond.instanceMethod_spec hinst
  obtain ⟨m8, methM', cM, hn8, hmethM', -, -, -, -, -, -, hsigM⟩ := Cond.codeWith_spec hcode
  cases Option.some.inj (hn8.symm.trans hnamed)
  cases hmethM.symm.trans hmethM'
  obtain ⟨c2, r2, m2, q1, q2, q3, q4, kP, hkP, hkPi⟩ := Cond.selects_spec hsel
  cases hcls.symm.trans q1
  cases (State.methodFound?_of_named hnamed hy).symm.trans q2
  cases hnamed.symm.trans q3
  have hselP : selectMethod e.platform s.vm cellB.cls mk = .method mk := by rw [Launch.admits_selectMethod X.admits]; exact q4
  obtain ⟨vm₁, X₁, hstep₁⟩ := X.invokevirtual hexec hown hlink hnamed hmethM hstM hkP hkPi hy (a := b) (cell := cellB) hcell
    (fun z h => by rw [h] at hobj; cases hobj) hselP hmethM habM hkP hkPi (g := g) hg (argsL := argsL) (rest := rest) (hlen _ hsigM) hstack hdg
  obtain ⟨v, B, X', hpost, hsteps⟩ := hK m meth c ⟨T.setVm vm₁, locs, cells, slots⟩ { g with stack := rest } (.invokevirtual index) mk (Value.ref b :: argsL).toArray X₁ hg hsize hdg hW (X₁.named hnamed) (hpre vm₁ X₁.warmed)
  exact ⟨v, vm₁, B, X₁.warmed, X', hpost, fun target h => hstep₁ _ fun acts => by rw [doInvoke_state]; exact hsteps.trans h⟩
abbrev vx_CVW (R : Room) (s : State) (args : Array Value) (own C : String) (index : Nat) (y : MethodName) (bytes : ByteArray) (maxL : Nat) (ret : Option FieldType) (hh : List (Nat × Nat × Nat × Nat)) (ws : List Cond) (rm : Room) (mc ms n : Nat) : Prop :=
  (rm.cells = mc ∧ rm.slots = ms ∧ rm.frames + 1 ≤ R.frames ∧ 8 + (maxL + 11) + rm.locals ≤ R.locals ∧ (∀ w ∈ ws, ∀ (a' : Array Value) (U : State), s.WarmedH U.vm → w.before a' U = true) ∧ Cond.codeWith y bytes maxL ret hh ∈ ws) ∧
  (Cond.codeWith y bytes maxL ret hh).before args s = true ∧ (Cond.initialized y.cls).before args s = true ∧ (y.cls ≠ "java/lang/invoke/MethodHandle" ∧ y.cls ≠ "java/lang/invoke/VarHandle") ∧
  (∀ sig, parseMethodDescriptor y.desc = some sig → n = sig.parameters.length) ∧ (Cond.methodLink own index y).before args s = true ∧ (Cond.instanceMethod y).before args s = true ∧ (Cond.selects C y y).before args s = true
theorem vx_cwVW {own C : String} {index maxL mc ms : Nat} {y : MethodName} {bytes : ByteArray} {ret : Option FieldType} {hh : List (Nat × Nat × Nat × Nat)} {Ts ws ws' : List Cond} {rm : Room} (n : Nat) (ht : ∀ w ∈ Ts, w.before args s = true) (hT : GoodIn Ts (wsV own index C y ws)) (hw : ws = Cond.codeWith y bytes maxL ret hh :: ws') (hrc : rm.cells = mc) (hrs : rm.slots = ms)
    (hd : y.cls = C ∧ y.cls ≠ "java/lang/invoke/MethodHandle" ∧ y.cls ≠ "java/lang/invoke/VarHandle" ∧ (parseMethodDescriptor y.desc).map (fun d => d.parameters.length) = some n) (hR : rm.frames + 1 ≤ R.frames ∧ 8 + (maxL + 11) + rm.locals ≤ R.locals) :
    vx_CVW R s args own C index y bytes maxL ret hh ws rm mc ms n := by
  obtain ⟨hC, hd⟩ := hd
  subst hC
  have ok : ∀ w ∈ wsV own index y.cls y ws, w.before args s = true := fun w h => ht w (hT w h).1
  have hG : GoodIn Ts ws := fun w h => hT w (by unfold wsV; exact List.mem_append_right _ h)
  have hc : Cond.codeWith y bytes maxL ret hh ∈ ws := by rw [hw]; exact List.mem_cons_self
  refine ⟨⟨hrc, hrs, hR.1, hR.2, pay_in ht hG, hc⟩, ht _ (hG _ hc).1, ok _ (by simp [wsV]), ⟨hd.1, hd.2.1⟩, fun sig h => ?_, ok _ (by simp [wsV]), ok _ (by simp [wsV]), ok _ (by simp [wsV])⟩
  have h2 := hd.2.2
  rw [h] at h2
  exact (Option.some.inj h2).symm
theorem vx_runVW {y : MethodName} {bytes cc : ByteArray} {maxL nL mc ms n index : Nat} {ret : Option FieldType} {hh : List (Nat × Nat × Nat × Nat)} {ws : List Cond} {rm : Room} {Pc : Array Value → State → Prop} {Qc : Array Value → State → Outcome → State → Prop} {free : Addr → Prop} {Ts : List Cond} {own C : String} {b : Addr} {As rest : List Value} {g : JFrame}
    (S : CallFix p m c cc nL s args Ts own) (hM : Met l y ws rm Pc Qc mc ms free) (cw : vx_CVW R s args own C index y bytes maxL ret hh ws rm mc ms n) (hp : PreV s H C b Pc As)
    (hg : g.method = m) (hn : As.length = n) (hsize : g.locals.size = nL) (hstack : g.stack = As.reverse ++ .ref b :: rest) (hW : 2 * g.monitorRoom + (rest.map fun v => v.category).sum ≤ 8) (hdg : decode cc g.pc = .ok (.invokevirtual index, 3)) (hf : cells + mc ≤ R.cells ∧ slots + ms ≤ R.slots) :
    va_Run p l e R s m args below meth c H locs cells slots mc ms g rest (Qc (Value.ref b :: As).toArray) free := by
  obtain ⟨⟨hrc, hrs, hfr, hlo, hws, hcw⟩, hcode, hini, hy, hlen, hl, hin, hse⟩ := cw
  have hK : Back l R p e below s args y 3 8 (PreOf R mc ms Pc) (PostOf Qc mc ms free) := va_backW (hh := hh) (bytes := bytes) (maxL := maxL) (ret := ret) hM hp.1 hrc hrs hfr hlo hws hcw (fun a' U hW => word_at hW (Or.inl (by first | rfl | simp [Cond.onTables, Cond.keeps, Cond.steady])) hini)
  obtain ⟨hx, hb, hml, ho, -⟩ := S
  obtain ⟨-, ⟨cellB, hcB, hoB, hclB⟩, hPc⟩ := hp
  intro T hT X
  obtain ⟨v, vm₁, ⟨U', l2, c2, s2⟩, hW₁, X', ⟨g', mk, t, L, e1, e2, hq, h1, hL, h2, h3⟩, st⟩ := vx_callVW X hx (C := C) (hh := hh) (bytes := bytes) (maxL := maxL) (ret := ret) ho hl hin hse hcode hy hK (by rw [hT]; exact hcB) hoB hclB hg (hsize.trans hml.symm) (argsL := As) (rest := rest) (fun sig h => hn.trans (hlen sig h)) hstack hW (by rw [hb]; exact hdg)
    (fun vm₁ hW₁ => ⟨hf.1, hf.2, hPc (T.setVm vm₁) hT hW₁⟩)
  dsimp only [Pt.U, Pt.locs, Pt.cells, Pt.slots] at X' e1 e2 h1 h2 h3 st
  subst h1; subst h2; subst h3
  exact ⟨v, (T.setVm vm₁).calling g' mk (Value.ref b :: As).toArray, t, U', L, hT, X', hL, e1, e2, hq, st⟩
section
variable {y : MethodName} {bytes cc : ByteArray} {maxL nL mc ms n index : Nat} {ret : Option FieldType} {ws : List Cond} {rm : Room} {Pc : Array Value → State → Prop} {Qc : Array Value → State → Outcome → State → Prop} {XC : String → State → State → Prop} {free : Addr → Prop} {Ts : List Cond} {own C : String} {b : Addr} {As rest : List Value} {g : JFrame}
theorem vx_runVX {hh : List (Nat × Nat × Nat × Nat)} (S : CallFix p m c cc nL s args Ts own) (hM : vx_Met l y ws rm Pc Qc XC mc ms free) (cw : vx_CVW R s args own C index y bytes maxL ret hh ws rm mc ms n) (hp : PreV s H C b Pc As)
    (hg : g.method = m) (hn : As.length = n) (hsize : g.locals.size = nL) (hstack : g.stack = As.reverse ++ .ref b :: rest) (hW : 2 * g.monitorRoom + (rest.map fun v => v.category).sum ≤ 8) (hdg : decode cc g.pc = .ok (.invokevirtual index, 3)) (hf : cells + mc ≤ R.cells ∧ slots + ms ≤ R.slots) :
    vx_Run p l e R s m args below meth c H locs cells slots mc ms g rest (Qc (Value.ref b :: As).toArray) XC free := by
  obtain ⟨⟨hrc, hrs, hfr, hlo, hws, hcw⟩, hcode, hini, hy, hlen, hl, hin, hse⟩ := cw
  have hK : vx_Back l R p e below s args y 3 8 (PreOf R mc ms Pc) (PostOf Qc mc ms free) (vx_Post XC mc ms free) := vx_backW (hh := hh) (bytes := bytes) (maxL := maxL) (ret := ret) hM hp.1 hrc hrs hfr hlo hws hcw (fun a' U hW => word_at hW (Or.inl (by first | rfl | simp [Cond.onTables, Cond.keeps, Cond.steady])) hini)
  obtain ⟨hx, hb, hml, ho, -⟩ := S
  obtain ⟨-, ⟨cellB, hcB, hoB, hclB⟩, hPc⟩ := hp
  intro T hT X
  rcases vx_callVX X hx (C := C) (hh := hh) (bytes := bytes) (maxL := maxL) (ret := ret) ho hl hin hse hcode hy hK (by rw [hT]; exact hcB) hoB hclB hg (hsize.trans hml.symm) (argsL := As) (rest := rest) (fun sig h => hn.trans (hlen sig h)) hstack hW (by rw [hb]; exact hdg)
    (fun vm₁ hW₁ => ⟨hf.1, hf.2, hPc (T.setVm vm₁) hT hW₁⟩) with ⟨v, vm₁, ⟨U', l2, c2, s2⟩, hW₁, X', ⟨g', mk, t, L, e1, e2, hq, h1, hL, h2, h3⟩, st⟩ | ⟨q, vm₁, ⟨U', l2, c2, s2⟩, hW₁, X', ⟨g', mk, t, L, E, ce, e1, e2, hq, hce, hcv, hcl, h1, hL, h2, h3⟩, st⟩
  · dsimp only [Pt.U, Pt.locs, Pt.cells, Pt.slots] at X' e1 e2 h1 h2 h3 st
    subst h1; subst h2; subst h3
    exact Or.inl ⟨v, (T.setVm vm₁).calling g' mk (Value.ref b :: As).toArray, t, U', L, hT, X', hL, e1, e2, hq, st⟩
  · dsimp only [Pt.U, Pt.locs, Pt.cells, Pt.slots] at X' e1 e2 h1 h2 h3 st hcl
    subst h1; subst h2; subst h3
    exact Or.inr ⟨q, (T.setVm vm₁).calling g' mk (Value.ref b :: As).toArray, t, U', L, E, ce, hT, X', hL, e1, e2, hq, hce, hcv, vx_cls hW₁ hcl, st⟩
theorem vx_runSX {hh : List (Nat × Nat × Nat × Nat)} (S : CallFix p m c cc nL s args Ts own) (hM : vx_Met l y ws rm Pc Qc XC mc ms free) (cw : vx_CSW R s args own index y bytes maxL ret hh ws rm mc ms n) (hp : PreS s H Pc As)
    (hg : g.method = m) (hn : As.length = n) (hsize : g.locals.size = nL) (hstack : g.stack = As.reverse ++ rest) (hW : 2 * g.monitorRoom + (rest.map fun v => v.category).sum ≤ 8) (hdg : decode cc g.pc = .ok (.invokestatic index, 3)) (hf : cells + mc ≤ R.cells ∧ slots + ms ≤ R.slots) :
    vx_Run p l e R s m args below meth c H locs cells slots mc ms g rest (Qc As.toArray) XC free := by
  obtain ⟨⟨hrc, hrs, hfr, hlo, hws, hcw⟩, hcode, hini, hy, hlen, hl, hstt⟩ := cw
  have hK : vx_Back l R p e below s args y 3 8 (PreOf R mc ms Pc) (PostOf Qc mc ms free) (vx_Post XC mc ms free) := vx_backW (hh := hh) (bytes := bytes) (maxL := maxL) (ret := ret) hM hp.1 hrc hrs hfr hlo hws hcw (fun a' U hW => word_at hW (Or.inl (by first | rfl | simp [Cond.onTables, Cond.keeps, Cond.steady])) hini)
  obtain ⟨hx, hb, hml, ho, -⟩ := S
  intro T hT X
  rcases vx_callSX X hx (hh := hh) (bytes := bytes) (maxL := maxL) (ret := ret) ho hl hstt hini hcode hy hK hg (hsize.trans hml.symm) (argsL := As) (rest := rest) (fun sig h => hn.trans (hlen sig h)) hstack hW (by rw [hb]; exact hdg)
    (fun vm₁ hW₁ => ⟨hf.1, hf.2, hp.2 (T.setVm vm₁) hT hW₁⟩) with ⟨v, vm₁, ⟨U', l2, c2, s2⟩, hW₁, X', ⟨g', mk, t, L, e1, e2, hq, h1, hL, h2, h3⟩, st⟩ | ⟨q, vm₁, ⟨U', l2, c2, s2⟩, hW₁, X', ⟨g', mk, t, L, E, ce, e1, e2, hq, hce, hcv, hcl, h1, hL, h2, h3⟩, st⟩
  · dsimp only [Pt.U, Pt.locs, Pt.cells, Pt.slots] at X' e1 e2 h1 h2 h3 st
    subst h1; subst h2; subst h3
    exact Or.inl ⟨v, (T.setVm vm₁).calling g' mk As.toArray, t, U', L, hT, X', hL, e1, e2, hq, st⟩
  · dsimp only [Pt.U, Pt.locs, Pt.cells, Pt.slots] at X' e1 e2 h1 h2 h3 st hcl
    subst h1; subst h2; subst h3
    exact Or.inr ⟨q, (T.setVm vm₁).calling g' mk As.toArray, t, U', L, E, ce, hT, X', hL, e1, e2, hq, hce, hcv, vx_cls hW₁ hcl, st⟩
end
end VXH
theorem vx_ofWH {l : Launch} {y : MethodName} {ws ws' : List Cond} {rm : Room} {Pc : Array Value → State → Prop} {Qc : Array Value → State → Outcome → State → Prop} {XC : String → State → State → Prop} {mc ms : Nat} {free : Addr → Prop} {cc : ByteArray} {maxL : Nat} {ret : Option FieldType} {hh : List (Nat × Nat × Nat × Nat)}
    (hy : plainName y.cls = true) (hw : ws = Cond.codeWith y cc maxL ret hh :: ws')
    (body : ∀ p e s m args below meth c s₁, BodyLoose p l y (headSpec ws rm) cc maxL ret e s m args below meth c s₁ → c.maxLocals = maxL → Pc args s →
      W p l e (headSpec ws rm).room s m args below meth c s.heap [] 0 0 (vx_MQ below Qc XC args s mc ms free) (entryFrame m args maxL)) : vx_Met l y ws rm Pc Qc XC mc ms free := by
  refine MetFree.of_bodyS (code := cc) (maxLocals := maxL) (ret := ret) hy ?_ ?_
  · intro args s m h hn
    obtain ⟨m9, meth, c, hn9, h1, h2, h3, h4, -, h5, h6, -⟩ := Cond.codeWith_spec (atoms_spec (ws := ws) h _ (by rw [hw]; exact List.mem_cons_self))
    cases hn.symm.trans hn9
    exact ⟨meth, c, h1, h2, h3, h4, h5, h6⟩
  · intro p e s m args below meth c s₁ B hml hP _
    have hh0 : s₁.heap = s.heap := by rw [B.state]; rfl
    obtain ⟨t, a1, o, b1, b2, b3⟩ := body p e s m args below meth c s₁ B hml hP s₁ hh0 (Stand.of_body B)
    exact ⟨t, o, a1, b1, b2, b3⟩
/-! ===== END ===== -/
end
section
/-! ===== BEGIN printed: names, fields, word lists, decode rows ===== -/
def RX0 : String := "OddPairs$Greatest"
def TX0 : u_T := fun k => match k with
  | 0 => ("OddPairs$Greatest", "known", "Z", false)
  | 1 => ("OddPairs$Greatest", "first", "[I", true)
  | 2 => ("OddPairs$Greatest", "all", "I", false)
  | 3 => ("OddPairs$Greatest", "nodes", "I", false)
  | 4 => ("OddPairs$Greatest", "most", "[I", true)
  | 5 => ("OddPairs$Greatest", "counts", "[I", true)
  | 6 => ("OddPairs$Greatest", "heaviest", "[I", true)
  | _ => ("OddPairs$Greatest", "lightest", "[I", true)
def tyX0 : Nat → FieldType := fun k => match k with
  | 0 => .boolean
  | 1 => .array .int
  | 2 => .int
  | 3 => .int
  | 4 => .array .int
  | 5 => .array .int
  | 6 => .array .int
  | _ => .array .int
abbrev wsX00 : List Cond := u_ws RX0 TX0 8
theorem nmX0 : ∀ a, a < 8 → ∀ b, b < 8 → a ≠ b → (TX0 a).2.1 ≠ (TX0 b).2.1 := by decide +kernel
theorem tyX0_ok : ∀ k, k < 8 → parseFieldDescriptor (TX0 k).2.2.1 = some (tyX0 k) := by decide +kernel
abbrev cX0_init : ByteArray := prog_2_method_1_code
def yX0_init : MethodName := ⟨RX0, "<init>", "()V"⟩
abbrev cX0_learn : ByteArray := prog_2_method_2_code
def yX0_learn : MethodName := ⟨RX0, "learn", "(LOddPairs$Net;)V"⟩
abbrev cX0_learnSet : ByteArray := prog_2_method_3_code
def yX0_learnSet : MethodName := ⟨RX0, "learnSet", "(LOddPairs$Net;II)V"⟩
abbrev cX0_weighIn : ByteArray := prog_2_method_4_code
def yX0_weighIn : MethodName := ⟨RX0, "weighIn", "(III)V"⟩
abbrev cX0_size : ByteArray := prog_2_method_5_code
def yX0_size : MethodName := ⟨RX0, "size", "()I"⟩
abbrev cX0_missing : ByteArray := prog_2_method_6_code
def yX0_missing : MethodName := ⟨RX0, "missing", "()I"⟩
abbrev cX0_count : ByteArray := prog_2_method_7_code
def yX0_count : MethodName := ⟨RX0, "count", "()I"⟩
abbrev cX0_mostWeight : ByteArray := prog_2_method_8_code
def yX0_mostWeight : MethodName := ⟨RX0, "mostWeight", "()I"⟩
abbrev cX0_leastWeight : ByteArray := prog_2_method_9_code
def yX0_leastWeight : MethodName := ⟨RX0, "leastWeight", "()I"⟩
abbrev cX0_someHave : ByteArray := prog_2_method_10_code
def yX0_someHave : MethodName := ⟨RX0, "someHave", "(LOddPairs$Net;II)Z"⟩
abbrev cX0_allHave : ByteArray := prog_2_method_11_code
def yX0_allHave : MethodName := ⟨RX0, "allHave", "(LOddPairs$Net;II)Z"⟩
abbrev cX0_without : ByteArray := prog_2_method_12_code
def yX0_without : MethodName := ⟨RX0, "without", "(II)I"⟩
abbrev cX0_bitsOfSet : ByteArray := prog_2_method_13_code
def yX0_bitsOfSet : MethodName := ⟨RX0, "bitsOfSet", "(LOddPairs$Net;I)I"⟩
abbrev cX0_fillFirst : ByteArray := prog_2_method_14_code
def yX0_fillFirst : MethodName := ⟨RX0, "fillFirst", "(LOddPairs$Net;)V"⟩
abbrev cX0_firstMate : ByteArray := prog_2_method_15_code
def yX0_firstMate : MethodName := ⟨RX0, "firstMate", "(LOddPairs$Net;II)I"⟩
def RX1 : String := "OddPairs$Net"
def TX1 : u_T := fun k => match k with
  | 0 => ("OddPairs$Net", "nodes", "I", false)
  | 1 => ("OddPairs$Net", "lines", "I", false)
  | 2 => ("OddPairs$Net", "weights", "[I", true)
  | 3 => ("OddPairs$Net", "near", "[I", true)
  | _ => ("OddPairs$Net", "mates", "[I", true)
def tyX1 : Nat → FieldType := fun k => match k with
  | 0 => .int
  | 1 => .int
  | 2 => .array .int
  | 3 => .array .int
  | _ => .array .int
abbrev wsX10 : List Cond := u_ws RX1 TX1 5
theorem nmX1 : ∀ a, a < 5 → ∀ b, b < 5 → a ≠ b → (TX1 a).2.1 ≠ (TX1 b).2.1 := by decide +kernel
theorem tyX1_ok : ∀ k, k < 5 → parseFieldDescriptor (TX1 k).2.2.1 = some (tyX1 k) := by decide +kernel
abbrev cX1_init : ByteArray := prog_3_method_1_code
def yX1_init : MethodName := ⟨RX1, "<init>", "()V"⟩
abbrev cX1_clear : ByteArray := prog_3_method_2_code
def yX1_clear : MethodName := ⟨RX1, "clear", "(I)V"⟩
abbrev cX1_copyFrom : ByteArray := prog_3_method_3_code
def yX1_copyFrom : MethodName := ⟨RX1, "copyFrom", "(LOddPairs$Net;)V"⟩
abbrev cX1_all : ByteArray := prog_3_method_4_code
def yX1_all : MethodName := ⟨RX1, "all", "()I"⟩
abbrev cX1_holds : ByteArray := prog_3_method_5_code
def yX1_holds : MethodName := ⟨RX1, "holds", "(I)Z"⟩
abbrev cX1_isLine : ByteArray := prog_3_method_6_code
def yX1_isLine : MethodName := ⟨RX1, "isLine", "(II)Z"⟩
abbrev cX1_isFree : ByteArray := prog_3_method_7_code
def yX1_isFree : MethodName := ⟨RX1, "isFree", "(I)Z"⟩
abbrev cX1_weightOf : ByteArray := prog_3_method_8_code
def yX1_weightOf : MethodName := ⟨RX1, "weightOf", "(II)I"⟩
abbrev cX1_putLine : ByteArray := prog_3_method_9_code
def yX1_putLine : MethodName := ⟨RX1, "putLine", "(III)V"⟩
abbrev cX1_putLineIfNone : ByteArray := prog_3_method_10_code
def yX1_putLineIfNone : MethodName := ⟨RX1, "putLineIfNone", "(II)V"⟩
abbrev cX1_removeLine : ByteArray := prog_3_method_11_code
def yX1_removeLine : MethodName := ⟨RX1, "removeLine", "(II)V"⟩
abbrev cX1_setWeight : ByteArray := prog_3_method_12_code
def yX1_setWeight : MethodName := ⟨RX1, "setWeight", "(III)V"⟩
abbrev cX1_putPair : ByteArray := prog_3_method_13_code
def yX1_putPair : MethodName := ⟨RX1, "putPair", "(II)V"⟩
abbrev cX1_removePair : ByteArray := prog_3_method_14_code
def yX1_removePair : MethodName := ⟨RX1, "removePair", "(I)V"⟩
abbrev cX1_countPairs : ByteArray := prog_3_method_15_code
def yX1_countPairs : MethodName := ⟨RX1, "countPairs", "()I"⟩
abbrev cX1_weighPairs : ByteArray := prog_3_method_16_code
def yX1_weighPairs : MethodName := ⟨RX1, "weighPairs", "()I"⟩
abbrev cX1_pairsAreLines : ByteArray := prog_3_method_17_code
def yX1_pairsAreLines : MethodName := ⟨RX1, "pairsAreLines", "()Z"⟩
def RX2 : String := "OddPairs$Parts"
def TX2 : u_T := fun k => match k with
  | 0 => ("OddPairs$Parts", "known", "Z", false)
  | 1 => ("OddPairs$Parts", "all", "I", false)
  | 2 => ("OddPairs$Parts", "around", "[I", true)
  | _ => ("OddPairs$Parts", "oddParts", "[I", true)
def tyX2 : Nat → FieldType := fun k => match k with
  | 0 => .boolean
  | 1 => .int
  | 2 => .array .int
  | _ => .array .int
abbrev wsX20 : List Cond := u_ws RX2 TX2 4
theorem nmX2 : ∀ a, a < 4 → ∀ b, b < 4 → a ≠ b → (TX2 a).2.1 ≠ (TX2 b).2.1 := by decide +kernel
theorem tyX2_ok : ∀ k, k < 4 → parseFieldDescriptor (TX2 k).2.2.1 = some (tyX2 k) := by decide +kernel
abbrev cX2_init : ByteArray := prog_4_method_1_code
def yX2_init : MethodName := ⟨RX2, "<init>", "()V"⟩
abbrev cX2_learn : ByteArray := prog_4_method_2_code
def yX2_learn : MethodName := ⟨RX2, "learn", "(LOddPairs$Net;)V"⟩
abbrev cX2_partOf : ByteArray := prog_4_method_3_code
def yX2_partOf : MethodName := ⟨RX2, "partOf", "(II)I"⟩
abbrev cX2_oddWithout : ByteArray := prog_4_method_4_code
def yX2_oddWithout : MethodName := ⟨RX2, "oddWithout", "(I)I"⟩
abbrev cX2_isBarrier : ByteArray := prog_4_method_5_code
def yX2_isBarrier : MethodName := ⟨RX2, "isBarrier", "(II)Z"⟩
abbrev cX2_smallestBarrier : ByteArray := prog_4_method_6_code
def yX2_smallestBarrier : MethodName := ⟨RX2, "smallestBarrier", "(I)I"⟩
abbrev cX2_greatestBarrier : ByteArray := prog_4_method_7_code
def yX2_greatestBarrier : MethodName := ⟨RX2, "greatestBarrier", "(I)I"⟩
def RX3 : String := "OddPairs$Reader"
def TX3 : u_T := fun k => match k with
  | 0 => ("OddPairs$Reader", "kind", "I", false)
  | 1 => ("OddPairs$Reader", "place", "I", false)
  | 2 => ("OddPairs$Reader", "bytes", "[B", false)
  | 3 => ("OddPairs$Reader", "length", "I", false)
  | 4 => ("OddPairs$Reader", "at", "I", false)
  | 5 => ("OddPairs$Reader", "numberAt", "I", false)
  | 6 => ("OddPairs$Reader", "pairsClash", "Z", false)
  | _ => ("OddPairs$Reader", "ring", "[I", true)
def tyX3 : Nat → FieldType := fun k => match k with
  | 0 => .int
  | 1 => .int
  | 2 => .array .byte
  | 3 => .int
  | 4 => .int
  | 5 => .int
  | 6 => .boolean
  | _ => .array .int
abbrev wsX30 : List Cond := u_ws RX3 TX3 8
theorem nmX3 : ∀ a, a < 8 → ∀ b, b < 8 → a ≠ b → (TX3 a).2.1 ≠ (TX3 b).2.1 := by decide +kernel
theorem tyX3_ok : ∀ k, k < 8 → parseFieldDescriptor (TX3 k).2.2.1 = some (tyX3 k) := by decide +kernel
abbrev cX3_init : ByteArray := prog_5_method_1_code
def yX3_init : MethodName := ⟨RX3, "<init>", "()V"⟩
abbrev cX3_read : ByteArray := prog_5_method_2_code
def yX3_read : MethodName := ⟨RX3, "read", "([BILOddPairs$Net;)V"⟩
abbrev cX3_readNodes : ByteArray := prog_5_method_3_code
def yX3_readNodes : MethodName := ⟨RX3, "readNodes", "(LOddPairs$Net;)V"⟩
abbrev cX3_readStatement : ByteArray := prog_5_method_4_code
def yX3_readStatement : MethodName := ⟨RX3, "readStatement", "(LOddPairs$Net;)V"⟩
abbrev cX3_readLine : ByteArray := prog_5_method_5_code
def yX3_readLine : MethodName := ⟨RX3, "readLine", "(LOddPairs$Net;)V"⟩
abbrev cX3_readRing : ByteArray := prog_5_method_6_code
def yX3_readRing : MethodName := ⟨RX3, "readRing", "(LOddPairs$Net;)V"⟩
abbrev cX3_readAll : ByteArray := prog_5_method_7_code
def yX3_readAll : MethodName := ⟨RX3, "readAll", "(LOddPairs$Net;)V"⟩
abbrev cX3_readPair : ByteArray := prog_5_method_8_code
def yX3_readPair : MethodName := ⟨RX3, "readPair", "(LOddPairs$Net;)V"⟩
abbrev cX3_needUnlike : ByteArray := prog_5_method_9_code
def yX3_needUnlike : MethodName := ⟨RX3, "needUnlike", "(II)V"⟩
abbrev cX3_takeWord : ByteArray := prog_5_method_10_code
def yX3_takeWord : MethodName := ⟨RX3, "takeWord", "(Ljava/lang/String;)Z"⟩
abbrev cX3_takeNumber : ByteArray := prog_5_method_11_code
def yX3_takeNumber : MethodName := ⟨RX3, "takeNumber", "(II)I"⟩
abbrev cX3_takeEnd : ByteArray := prog_5_method_12_code
def yX3_takeEnd : MethodName := ⟨RX3, "takeEnd", "()V"⟩
abbrev cX3_isNumberAhead : ByteArray := prog_5_method_13_code
def yX3_isNumberAhead : MethodName := ⟨RX3, "isNumberAhead", "()Z"⟩
abbrev cX3_isAtEnd : ByteArray := prog_5_method_14_code
def yX3_isAtEnd : MethodName := ⟨RX3, "isAtEnd", "()Z"⟩
abbrev cX3_skipBlanks : ByteArray := prog_5_method_15_code
def yX3_skipBlanks : MethodName := ⟨RX3, "skipBlanks", "()V"⟩
abbrev cX3_isDigit : ByteArray := prog_5_method_16_code
def yX3_isDigit : MethodName := ⟨RX3, "isDigit", "(B)Z"⟩
abbrev cX3_fail : ByteArray := prog_5_method_17_code
def yX3_fail : MethodName := ⟨RX3, "fail", "(II)V"⟩
def RX4 : String := "OddPairs$Walks"
def TX4 : u_T := fun k => match k with
  | 0 => ("OddPairs$Walks", "row", "[I", true)
  | 1 => ("OddPairs$Walks", "rowLength", "I", false)
  | 2 => ("OddPairs$Walks", "count", "I", false)
  | 3 => ("OddPairs$Walks", "even", "I", false)
  | 4 => ("OddPairs$Walks", "led", "I", false)
  | 5 => ("OddPairs$Walks", "over", "[I", true)
  | 6 => ("OddPairs$Walks", "last", "[I", true)
  | 7 => ("OddPairs$Walks", "ahead", "[I", true)
  | _ => ("OddPairs$Walks", "lastsSeen", "[I", true)
def tyX4 : Nat → FieldType := fun k => match k with
  | 0 => .array .int
  | 1 => .int
  | 2 => .int
  | 3 => .int
  | 4 => .int
  | 5 => .array .int
  | 6 => .array .int
  | 7 => .array .int
  | _ => .array .int
abbrev wsX40 : List Cond := u_ws RX4 TX4 9
theorem nmX4 : ∀ a, a < 9 → ∀ b, b < 9 → a ≠ b → (TX4 a).2.1 ≠ (TX4 b).2.1 := by decide +kernel
theorem tyX4_ok : ∀ k, k < 9 → parseFieldDescriptor (TX4 k).2.2.1 = some (tyX4 k) := by decide +kernel
abbrev cX4_init : ByteArray := prog_6_method_1_code
def yX4_init : MethodName := ⟨RX4, "<init>", "()V"⟩
abbrev cX4_spread : ByteArray := prog_6_method_2_code
def yX4_spread : MethodName := ⟨RX4, "spread", "(LOddPairs$Net;I)V"⟩
abbrev cX4_goOn : ByteArray := prog_6_method_3_code
def yX4_goOn : MethodName := ⟨RX4, "goOn", "(LOddPairs$Net;I)V"⟩
abbrev cX4_add : ByteArray := prog_6_method_4_code
def yX4_add : MethodName := ⟨RX4, "add", "(III)V"⟩
abbrev cX4_findBetterPath : ByteArray := prog_6_method_5_code
def yX4_findBetterPath : MethodName := ⟨RX4, "findBetterPath", "(LOddPairs$Net;I)Z"⟩
abbrev cX4_freeBeside : ByteArray := prog_6_method_6_code
def yX4_freeBeside : MethodName := ⟨RX4, "freeBeside", "(LOddPairs$Net;II)I"⟩
abbrev cX4_findFlower : ByteArray := prog_6_method_7_code
def yX4_findFlower : MethodName := ⟨RX4, "findFlower", "(LOddPairs$Net;I)Z"⟩
abbrev cX4_fillRow : ByteArray := prog_6_method_8_code
def yX4_fillRow : MethodName := ⟨RX4, "fillRow", "(LOddPairs$Net;I)V"⟩
abbrev cX4_addToRow : ByteArray := prog_6_method_9_code
def yX4_addToRow : MethodName := ⟨RX4, "addToRow", "(I)V"⟩
abbrev cX4_betterPairs : ByteArray := prog_6_method_10_code
def yX4_betterPairs : MethodName := ⟨RX4, "betterPairs", "(LOddPairs$Net;)V"⟩
abbrev cX4_shrinkInto : ByteArray := prog_6_method_11_code
def yX4_shrinkInto : MethodName := ⟨RX4, "shrinkInto", "(LOddPairs$Net;LOddPairs$Net;)V"⟩
abbrev cX4_numberAnew : ByteArray := prog_6_method_12_code
def yX4_numberAnew : MethodName := ⟨RX4, "numberAnew", "(II)I"⟩
abbrev cX4_label : ByteArray := prog_6_method_13_code
def yX4_label : MethodName := ⟨RX4, "label", "(LOddPairs$Net;)V"⟩
abbrev cX4_markEnds : ByteArray := prog_6_method_14_code
def yX4_markEnds : MethodName := ⟨RX4, "markEnds", "(LOddPairs$Net;)V"⟩
abbrev cX4_bitsOfLabel : ByteArray := prog_6_method_15_code
def yX4_bitsOfLabel : MethodName := ⟨RX4, "bitsOfLabel", "(LOddPairs$Net;I)I"⟩
def RX5 : String := "OddPairs"
def TX5 : u_T := fun k => match k with
  | 0 => ("OddPairs", "tape", "[B", true)
  | 1 => ("OddPairs", "tapeLength", "I", false)
  | 2 => ("OddPairs", "faultPlace", "I", false)
  | 3 => ("OddPairs", "net", "LOddPairs$Net;", true)
  | 4 => ("OddPairs", "draft", "LOddPairs$Net;", true)
  | 5 => ("OddPairs", "past", "[LOddPairs$Net;", true)
  | 6 => ("OddPairs", "pastCount", "I", false)
  | 7 => ("OddPairs", "reader", "LOddPairs$Reader;", true)
  | 8 => ("OddPairs", "greatest", "LOddPairs$Greatest;", true)
  | 9 => ("OddPairs", "parts", "LOddPairs$Parts;", true)
  | 10 => ("OddPairs", "walks", "LOddPairs$Walks;", true)
  | _ => ("OddPairs", "refused", "[I", true)
def tyX5 : Nat → FieldType := fun k => match k with
  | 0 => .array .byte
  | 1 => .int
  | 2 => .int
  | 3 => .object "OddPairs$Net"
  | 4 => .object "OddPairs$Net"
  | 5 => .array (.object "OddPairs$Net")
  | 6 => .int
  | 7 => .object "OddPairs$Reader"
  | 8 => .object "OddPairs$Greatest"
  | 9 => .object "OddPairs$Parts"
  | 10 => .object "OddPairs$Walks"
  | _ => .array .int
abbrev wsX50 : List Cond := u_ws RX5 TX5 12
theorem nmX5 : ∀ a, a < 12 → ∀ b, b < 12 → a ≠ b → (TX5 a).2.1 ≠ (TX5 b).2.1 := by decide +kernel
theorem tyX5_ok : ∀ k, k < 12 → parseFieldDescriptor (TX5 k).2.2.1 = some (tyX5 k) := by decide +kernel
abbrev cX5_init : ByteArray := prog_1_method_1_code
def yX5_init : MethodName := ⟨RX5, "<init>", "()V"⟩
abbrev cX5_feed : ByteArray := prog_1_method_2_code
def yX5_feed : MethodName := ⟨RX5, "feed", "(IIIII)I"⟩
abbrev cX5_text : ByteArray := prog_1_method_3_code
def yX5_text : MethodName := ⟨RX5, "text", "(I)I"⟩
abbrev cX5_fault : ByteArray := prog_1_method_4_code
def yX5_fault : MethodName := ⟨RX5, "fault", "()I"⟩
abbrev cX5_join : ByteArray := prog_1_method_5_code
def yX5_join : MethodName := ⟨RX5, "join", "(III)I"⟩
abbrev cX5_cut : ByteArray := prog_1_method_6_code
def yX5_cut : MethodName := ⟨RX5, "cut", "(II)I"⟩
abbrev cX5_pair : ByteArray := prog_1_method_7_code
def yX5_pair : MethodName := ⟨RX5, "pair", "(II)I"⟩
abbrev cX5_part : ByteArray := prog_1_method_8_code
def yX5_part : MethodName := ⟨RX5, "part", "(I)I"⟩
abbrev cX5_better : ByteArray := prog_1_method_9_code
def yX5_better : MethodName := ⟨RX5, "better", "(I)I"⟩
abbrev cX5_finish : ByteArray := prog_1_method_10_code
def yX5_finish : MethodName := ⟨RX5, "finish", "()I"⟩
abbrev cX5_shrink : ByteArray := prog_1_method_11_code
def yX5_shrink : MethodName := ⟨RX5, "shrink", "(I)I"⟩
abbrev cX5_undo : ByteArray := prog_1_method_12_code
def yX5_undo : MethodName := ⟨RX5, "undo", "()I"⟩
abbrev cX5_told : ByteArray := prog_1_method_13_code
def yX5_told : MethodName := ⟨RX5, "told", "(I)I"⟩
abbrev cX5_line : ByteArray := prog_1_method_14_code
def yX5_line : MethodName := ⟨RX5, "line", "(III)I"⟩
abbrev cX5_node : ByteArray := prog_1_method_15_code
def yX5_node : MethodName := ⟨RX5, "node", "(II)I"⟩
abbrev cX5_sets : ByteArray := prog_1_method_16_code
def yX5_sets : MethodName := ⟨RX5, "sets", "(I)I"⟩
abbrev cX5_odd : ByteArray := prog_1_method_17_code
def yX5_odd : MethodName := ⟨RX5, "odd", "(I)I"⟩
abbrev cX5_barrier : ByteArray := prog_1_method_18_code
def yX5_barrier : MethodName := ⟨RX5, "barrier", "(I)I"⟩
abbrev cX5_ways : ByteArray := prog_1_method_19_code
def yX5_ways : MethodName := ⟨RX5, "ways", "()I"⟩
abbrev cX5_heavy : ByteArray := prog_1_method_20_code
def yX5_heavy : MethodName := ⟨RX5, "heavy", "(I)I"⟩
abbrev cX5_path : ByteArray := prog_1_method_21_code
def yX5_path : MethodName := ⟨RX5, "path", "(II)I"⟩
abbrev cX5_flower : ByteArray := prog_1_method_22_code
def yX5_flower : MethodName := ⟨RX5, "flower", "(II)I"⟩
abbrev cX5_print : ByteArray := prog_1_method_23_code
def yX5_print : MethodName := ⟨RX5, "print", "()J"⟩
abbrev cX5_status : ByteArray := prog_1_method_24_code
def yX5_status : MethodName := ⟨RX5, "status", "(I)I"⟩
abbrev cX5_putBytes : ByteArray := prog_1_method_25_code
def yX5_putBytes : MethodName := ⟨RX5, "putBytes", "(I)V"⟩
abbrev cX5_needNode : ByteArray := prog_1_method_26_code
def yX5_needNode : MethodName := ⟨RX5, "needNode", "(I)V"⟩
abbrev cX5_needTwoNodes : ByteArray := prog_1_method_27_code
def yX5_needTwoNodes : MethodName := ⟨RX5, "needTwoNodes", "(II)V"⟩
abbrev cX5_needArgument : ByteArray := prog_1_method_28_code
def yX5_needArgument : MethodName := ⟨RX5, "needArgument", "(Z)V"⟩
abbrev cX5_needState : ByteArray := prog_1_method_29_code
def yX5_needState : MethodName := ⟨RX5, "needState", "(Z)V"⟩
abbrev cX5_placeInRow : ByteArray := prog_1_method_30_code
def yX5_placeInRow : MethodName := ⟨RX5, "placeInRow", "(I)I"⟩
abbrev cX5_remember : ByteArray := prog_1_method_31_code
def yX5_remember : MethodName := ⟨RX5, "remember", "()V"⟩
abbrev cX5_rememberLines : ByteArray := prog_1_method_32_code
def yX5_rememberLines : MethodName := ⟨RX5, "rememberLines", "()V"⟩
abbrev cX5_dropOldest : ByteArray := prog_1_method_33_code
def yX5_dropOldest : MethodName := ⟨RX5, "dropOldest", "()V"⟩
abbrev cX5_becomeDraft : ByteArray := prog_1_method_34_code
def yX5_becomeDraft : MethodName := ⟨RX5, "becomeDraft", "()V"⟩
abbrev cX5_forgetAnswers : ByteArray := prog_1_method_35_code
def yX5_forgetAnswers : MethodName := ⟨RX5, "forgetAnswers", "()V"⟩
abbrev cX5_learn : ByteArray := prog_1_method_36_code
def yX5_learn : MethodName := ⟨RX5, "learn", "()V"⟩
abbrev cX5_labelOf : ByteArray := prog_1_method_37_code
def yX5_labelOf : MethodName := ⟨RX5, "labelOf", "(I)I"⟩
abbrev cX5_setOf : ByteArray := prog_1_method_38_code
def yX5_setOf : MethodName := ⟨RX5, "setOf", "(I)I"⟩
abbrev cX5_hasBit : ByteArray := prog_1_method_39_code
def yX5_hasBit : MethodName := ⟨RX5, "hasBit", "(II)Z"⟩
abbrev cX5_asNumber : ByteArray := prog_1_method_40_code
def yX5_asNumber : MethodName := ⟨RX5, "asNumber", "(Z)I"⟩
def RX6 : String := "OddPairsModel"
def TX6 : u_T := fun k => match k with
  | 0 => ("OddPairsModel", "thrown", "I", false)
  | 1 => ("OddPairsModel", "refused", "[I", true)
  | 2 => ("OddPairsModel", "tape", "I", false)
  | 3 => ("OddPairsModel", "size", "I", false)
  | 4 => ("OddPairsModel", "at", "I", false)
  | 5 => ("OddPairsModel", "place", "I", false)
  | 6 => ("OddPairsModel", "fault", "I", false)
  | 7 => ("OddPairsModel", "faultAt", "I", false)
  | 8 => ("OddPairsModel", "fed", "[I", true)
  | 9 => ("OddPairsModel", "now", "[I", true)
  | 10 => ("OddPairsModel", "told", "[I", true)
  | 11 => ("OddPairsModel", "past", "[[I", true)
  | 12 => ("OddPairsModel", "backs", "I", false)
  | 13 => ("OddPairsModel", "pairTold", "[I", true)
  | 14 => ("OddPairsModel", "pairs", "I", false)
  | 15 => ("OddPairsModel", "most", "[I", true)
  | 16 => ("OddPairsModel", "heavy", "[I", true)
  | 17 => ("OddPairsModel", "light", "[I", true)
  | 18 => ("OddPairsModel", "ways", "[J", true)
  | 19 => ("OddPairsModel", "isLaid", "Z", false)
  | 20 => ("OddPairsModel", "firstRow", "[I", true)
  | 21 => ("OddPairsModel", "been", "[Z", true)
  | 22 => ("OddPairsModel", "even", "I", false)
  | 23 => ("OddPairsModel", "odd", "I", false)
  | 24 => ("OddPairsModel", "row", "[I", true)
  | 25 => ("OddPairsModel", "rowMany", "I", false)
  | _ => ("OddPairsModel", "number", "[I", true)
def tyX6 : Nat → FieldType := fun k => match k with
  | 0 => .int
  | 1 => .array .int
  | 2 => .int
  | 3 => .int
  | 4 => .int
  | 5 => .int
  | 6 => .int
  | 7 => .int
  | 8 => .array .int
  | 9 => .array .int
  | 10 => .array .int
  | 11 => .array (.array .int)
  | 12 => .int
  | 13 => .array .int
  | 14 => .int
  | 15 => .array .int
  | 16 => .array .int
  | 17 => .array .int
  | 18 => .array .long
  | 19 => .boolean
  | 20 => .array .int
  | 21 => .array .boolean
  | 22 => .int
  | 23 => .int
  | 24 => .array .int
  | 25 => .int
  | _ => .array .int
abbrev wsX60 : List Cond := u_ws RX6 TX6 27
theorem nmX6 : ∀ a, a < 27 → ∀ b, b < 27 → a ≠ b → (TX6 a).2.1 ≠ (TX6 b).2.1 := by decide +kernel
theorem tyX6_ok : ∀ k, k < 27 → parseFieldDescriptor (TX6 k).2.2.1 = some (tyX6 k) := by decide +kernel
abbrev cX6_init : ByteArray := prog_8_method_1_code
def yX6_init : MethodName := ⟨RX6, "<init>", "()V"⟩
abbrev cX6_begins : ByteArray := prog_8_method_2_code
def yX6_begins : MethodName := ⟨RX6, "begins", "([I)V"⟩
abbrev cX6_thrown : ByteArray := prog_8_method_3_code
def yX6_thrown : MethodName := ⟨RX6, "thrown", "()I"⟩
abbrev cX6_bad : ByteArray := prog_8_method_4_code
def yX6_bad : MethodName := ⟨RX6, "bad", "(ZII)Z"⟩
abbrev cX6_in : ByteArray := prog_8_method_5_code
def yX6_in : MethodName := ⟨RX6, "in", "(III)Z"⟩
abbrev cX6_less : ByteArray := prog_8_method_6_code
def yX6_less : MethodName := ⟨RX6, "less", "(II)I"⟩
abbrev cX6_feed : ByteArray := prog_8_method_7_code
def yX6_feed : MethodName := ⟨RX6, "feed", "(IIIII)I"⟩
abbrev cX6_copies : ByteArray := prog_8_method_8_code
def yX6_copies : MethodName := ⟨RX6, "copies", "([I[I)V"⟩
abbrev cX6_joins : ByteArray := prog_8_method_9_code
def yX6_joins : MethodName := ⟨RX6, "joins", "([IIII)V"⟩
abbrev cX6_byteAt : ByteArray := prog_8_method_10_code
def yX6_byteAt : MethodName := ⟨RX6, "byteAt", "(I)I"⟩
abbrev cX6_here : ByteArray := prog_8_method_11_code
def yX6_here : MethodName := ⟨RX6, "here", "()I"⟩
abbrev cX6_fine : ByteArray := prog_8_method_12_code
def yX6_fine : MethodName := ⟨RX6, "fine", "()Z"⟩
abbrev cX6_wrong : ByteArray := prog_8_method_13_code
def yX6_wrong : MethodName := ⟨RX6, "wrong", "(II)V"⟩
abbrev cX6_isDigit : ByteArray := prog_8_method_14_code
def yX6_isDigit : MethodName := ⟨RX6, "isDigit", "(I)Z"⟩
abbrev cX6_takes : ByteArray := prog_8_method_15_code
def yX6_takes : MethodName := ⟨RX6, "takes", "(Ljava/lang/String;)Z"⟩
abbrev cX6_must : ByteArray := prog_8_method_16_code
def yX6_must : MethodName := ⟨RX6, "must", "(I)V"⟩
abbrev cX6_number : ByteArray := prog_8_method_17_code
def yX6_number : MethodName := ⟨RX6, "number", "(III)I"⟩
abbrev cX6_nodeTold : ByteArray := prog_8_method_18_code
def yX6_nodeTold : MethodName := ⟨RX6, "nodeTold", "(I)I"⟩
abbrev cX6_comes : ByteArray := prog_8_method_19_code
def yX6_comes : MethodName := ⟨RX6, "comes", "(II)V"⟩
abbrev cX6_readsRing : ByteArray := prog_8_method_20_code
def yX6_readsRing : MethodName := ⟨RX6, "readsRing", "()V"⟩
abbrev cX6_readsLine : ByteArray := prog_8_method_21_code
def yX6_readsLine : MethodName := ⟨RX6, "readsLine", "()V"⟩
abbrev cX6_arePairs : ByteArray := prog_8_method_22_code
def yX6_arePairs : MethodName := ⟨RX6, "arePairs", "()Z"⟩
abbrev cX6_text : ByteArray := prog_8_method_23_code
def yX6_text : MethodName := ⟨RX6, "text", "(I)I"⟩
abbrev cX6_fault : ByteArray := prog_8_method_24_code
def yX6_fault : MethodName := ⟨RX6, "fault", "()I"⟩
abbrev cX6_nodes : ByteArray := prog_8_method_25_code
def yX6_nodes : MethodName := ⟨RX6, "nodes", "()I"⟩
abbrev cX6_all : ByteArray := prog_8_method_26_code
def yX6_all : MethodName := ⟨RX6, "all", "()I"⟩
abbrev cX6_mate : ByteArray := prog_8_method_27_code
def yX6_mate : MethodName := ⟨RX6, "mate", "(I)I"⟩
abbrev cX6_weight : ByteArray := prog_8_method_28_code
def yX6_weight : MethodName := ⟨RX6, "weight", "(II)I"⟩
abbrev cX6_has : ByteArray := prog_8_method_29_code
def yX6_has : MethodName := ⟨RX6, "has", "(II)Z"⟩
abbrev cX6_bits : ByteArray := prog_8_method_30_code
def yX6_bits : MethodName := ⟨RX6, "bits", "(I)I"⟩
abbrev cX6_first : ByteArray := prog_8_method_31_code
def yX6_first : MethodName := ⟨RX6, "first", "(I)I"⟩
abbrev cX6_changes : ByteArray := prog_8_method_32_code
def yX6_changes : MethodName := ⟨RX6, "changes", "()V"⟩
abbrev cX6_adds : ByteArray := prog_8_method_33_code
def yX6_adds : MethodName := ⟨RX6, "adds", "(IIII)V"⟩
abbrev cX6_lays : ByteArray := prog_8_method_34_code
def yX6_lays : MethodName := ⟨RX6, "lays", "()V"⟩
abbrev cX6_missing : ByteArray := prog_8_method_35_code
def yX6_missing : MethodName := ⟨RX6, "missing", "()I"⟩
abbrev cX6_lines : ByteArray := prog_8_method_36_code
def yX6_lines : MethodName := ⟨RX6, "lines", "()I"⟩
abbrev cX6_pairsNow : ByteArray := prog_8_method_37_code
def yX6_pairsNow : MethodName := ⟨RX6, "pairsNow", "()I"⟩
abbrev cX6_laysFirst : ByteArray := prog_8_method_38_code
def yX6_laysFirst : MethodName := ⟨RX6, "laysFirst", "()V"⟩
abbrev cX6_missed : ByteArray := prog_8_method_39_code
def yX6_missed : MethodName := ⟨RX6, "missed", "()I"⟩
abbrev cX6_beside : ByteArray := prog_8_method_40_code
def yX6_beside : MethodName := ⟨RX6, "beside", "(I)I"⟩
abbrev cX6_setOf : ByteArray := prog_8_method_41_code
def yX6_setOf : MethodName := ⟨RX6, "setOf", "(I)I"⟩
abbrev cX6_partOf : ByteArray := prog_8_method_42_code
def yX6_partOf : MethodName := ⟨RX6, "partOf", "(II)I"⟩
abbrev cX6_oddOf : ByteArray := prog_8_method_43_code
def yX6_oddOf : MethodName := ⟨RX6, "oddOf", "(I)I"⟩
abbrev cX6_goes : ByteArray := prog_8_method_44_code
def yX6_goes : MethodName := ⟨RX6, "goes", "(II)V"⟩
abbrev cX6_labels : ByteArray := prog_8_method_45_code
def yX6_labels : MethodName := ⟨RX6, "labels", "()V"⟩
abbrev cX6_betters : ByteArray := prog_8_method_46_code
def yX6_betters : MethodName := ⟨RX6, "betters", "(III)Z"⟩
abbrev cX6_findsPath : ByteArray := prog_8_method_47_code
def yX6_findsPath : MethodName := ⟨RX6, "findsPath", "(I)Z"⟩
abbrev cX6_rings : ByteArray := prog_8_method_48_code
def yX6_rings : MethodName := ⟨RX6, "rings", "(III)Z"⟩
abbrev cX6_findsFlower : ByteArray := prog_8_method_49_code
def yX6_findsFlower : MethodName := ⟨RX6, "findsFlower", "(I)Z"⟩
abbrev cX6_remembers : ByteArray := prog_8_method_50_code
def yX6_remembers : MethodName := ⟨RX6, "remembers", "()V"⟩
abbrev cX6_undo : ByteArray := prog_8_method_51_code
def yX6_undo : MethodName := ⟨RX6, "undo", "()I"⟩
abbrev cX6_isNode : ByteArray := prog_8_method_52_code
def yX6_isNode : MethodName := ⟨RX6, "isNode", "(I)Z"⟩
abbrev cX6_join : ByteArray := prog_8_method_53_code
def yX6_join : MethodName := ⟨RX6, "join", "(III)I"⟩
abbrev cX6_parts : ByteArray := prog_8_method_54_code
def yX6_parts : MethodName := ⟨RX6, "parts", "(I)V"⟩
abbrev cX6_cut : ByteArray := prog_8_method_55_code
def yX6_cut : MethodName := ⟨RX6, "cut", "(II)I"⟩
abbrev cX6_mates : ByteArray := prog_8_method_56_code
def yX6_mates : MethodName := ⟨RX6, "mates", "(II)V"⟩
abbrev cX6_pair : ByteArray := prog_8_method_57_code
def yX6_pair : MethodName := ⟨RX6, "pair", "(II)I"⟩
abbrev cX6_part : ByteArray := prog_8_method_58_code
def yX6_part : MethodName := ⟨RX6, "part", "(I)I"⟩
abbrev cX6_better : ByteArray := prog_8_method_59_code
def yX6_better : MethodName := ⟨RX6, "better", "(I)I"⟩
abbrev cX6_finish : ByteArray := prog_8_method_60_code
def yX6_finish : MethodName := ⟨RX6, "finish", "()I"⟩
abbrev cX6_shrink : ByteArray := prog_8_method_61_code
def yX6_shrink : MethodName := ⟨RX6, "shrink", "(I)I"⟩
abbrev cX6_told : ByteArray := prog_8_method_62_code
def yX6_told : MethodName := ⟨RX6, "told", "(I)I"⟩
abbrev cX6_line : ByteArray := prog_8_method_63_code
def yX6_line : MethodName := ⟨RX6, "line", "(III)I"⟩
abbrev cX6_node : ByteArray := prog_8_method_64_code
def yX6_node : MethodName := ⟨RX6, "node", "(II)I"⟩
abbrev cX6_sets : ByteArray := prog_8_method_65_code
def yX6_sets : MethodName := ⟨RX6, "sets", "(I)I"⟩
abbrev cX6_odd : ByteArray := prog_8_method_66_code
def yX6_odd : MethodName := ⟨RX6, "odd", "(I)I"⟩
abbrev cX6_barrier : ByteArray := prog_8_method_67_code
def yX6_barrier : MethodName := ⟨RX6, "barrier", "(I)I"⟩
abbrev cX6_ways : ByteArray := prog_8_method_68_code
def yX6_ways : MethodName := ⟨RX6, "ways", "()I"⟩
abbrev cX6_heavy : ByteArray := prog_8_method_69_code
def yX6_heavy : MethodName := ⟨RX6, "heavy", "(I)I"⟩
abbrev cX6_rowAt : ByteArray := prog_8_method_70_code
def yX6_rowAt : MethodName := ⟨RX6, "rowAt", "(ZII)I"⟩
abbrev cX6_path : ByteArray := prog_8_method_71_code
def yX6_path : MethodName := ⟨RX6, "path", "(II)I"⟩
abbrev cX6_flower : ByteArray := prog_8_method_72_code
def yX6_flower : MethodName := ⟨RX6, "flower", "(II)I"⟩
abbrev cX6_print : ByteArray := prog_8_method_73_code
def yX6_print : MethodName := ⟨RX6, "print", "()J"⟩
abbrev cX6_status : ByteArray := prog_8_method_74_code
def yX6_status : MethodName := ⟨RX6, "status", "(I)I"⟩
def RJx145de : String := "java/io/Serializable"
def TJx145de : u_T := fun k => match k with
  | _ => ("", "", "", false)
def tyJx145de : Nat → FieldType := fun k => match k with
  | _ => .int
abbrev wsJx145de0 : List Cond := u_ws RJx145de TJx145de 0
theorem nmJx145de : ∀ a, a < 0 → ∀ b, b < 0 → a ≠ b → (TJx145de a).2.1 ≠ (TJx145de b).2.1 := by decide +kernel
theorem tyJx145de_ok : ∀ k, k < 0 → parseFieldDescriptor (TJx145de k).2.2.1 = some (tyJx145de k) := by decide +kernel
def RJx9f9b0 : String := "java/lang/CharSequence"
def TJx9f9b0 : u_T := fun k => match k with
  | _ => ("", "", "", false)
def tyJx9f9b0 : Nat → FieldType := fun k => match k with
  | _ => .int
abbrev wsJx9f9b00 : List Cond := u_ws RJx9f9b0 TJx9f9b0 0
theorem nmJx9f9b0 : ∀ a, a < 0 → ∀ b, b < 0 → a ≠ b → (TJx9f9b0 a).2.1 ≠ (TJx9f9b0 b).2.1 := by decide +kernel
theorem tyJx9f9b0_ok : ∀ k, k < 0 → parseFieldDescriptor (TJx9f9b0 k).2.2.1 = some (tyJx9f9b0 k) := by decide +kernel
def RJxb160c : String := "java/lang/Comparable"
def TJxb160c : u_T := fun k => match k with
  | _ => ("", "", "", false)
def tyJxb160c : Nat → FieldType := fun k => match k with
  | _ => .int
abbrev wsJxb160c0 : List Cond := u_ws RJxb160c TJxb160c 0
theorem nmJxb160c : ∀ a, a < 0 → ∀ b, b < 0 → a ≠ b → (TJxb160c a).2.1 ≠ (TJxb160c b).2.1 := by decide +kernel
theorem tyJxb160c_ok : ∀ k, k < 0 → parseFieldDescriptor (TJxb160c k).2.2.1 = some (tyJxb160c k) := by decide +kernel
def RJ6 : String := "java/lang/Integer"
def TJ6 : u_T := fun k => match k with
  | _ => ("", "", "", false)
def tyJ6 : Nat → FieldType := fun k => match k with
  | _ => .int
abbrev wsJ60 : List Cond := u_ws RJ6 TJ6 0
theorem nmJ6 : ∀ a, a < 0 → ∀ b, b < 0 → a ≠ b → (TJ6 a).2.1 ≠ (TJ6 b).2.1 := by decide +kernel
theorem tyJ6_ok : ∀ k, k < 0 → parseFieldDescriptor (TJ6 k).2.2.1 = some (tyJ6 k) := by decide +kernel
abbrev cJ6_bitCount_0f7a4 : ByteArray := prog_15_method_49_code
def yJ6_bitCount_0f7a4 : MethodName := ⟨RJ6, "bitCount", "(I)I"⟩
def RJ9 : String := "java/lang/Math"
def TJ9 : u_T := fun k => match k with
  | _ => ("", "", "", false)
def tyJ9 : Nat → FieldType := fun k => match k with
  | _ => .int
abbrev wsJ90 : List Cond := u_ws RJ9 TJ9 0
theorem nmJ9 : ∀ a, a < 0 → ∀ b, b < 0 → a ≠ b → (TJ9 a).2.1 ≠ (TJ9 b).2.1 := by decide +kernel
theorem tyJ9_ok : ∀ k, k < 0 → parseFieldDescriptor (TJ9 k).2.2.1 = some (tyJ9 k) := by decide +kernel
abbrev cJ9_max_7cf53 : ByteArray := prog_16_method_65_code
def yJ9_max_7cf53 : MethodName := ⟨RJ9, "max", "(II)I"⟩
abbrev cJ9_min_7cf53 : ByteArray := prog_16_method_69_code
def yJ9_min_7cf53 : MethodName := ⟨RJ9, "min", "(II)I"⟩
def RJ0 : String := "java/lang/String"
def TJ0 : u_T := fun k => match k with
  | _ => ("", "", "", false)
def tyJ0 : Nat → FieldType := fun k => match k with
  | _ => .int
abbrev wsJ00 : List Cond := u_ws RJ0 TJ0 0
theorem nmJ0 : ∀ a, a < 0 → ∀ b, b < 0 → a ≠ b → (TJ0 a).2.1 ≠ (TJ0 b).2.1 := by decide +kernel
theorem tyJ0_ok : ∀ k, k < 0 → parseFieldDescriptor (TJ0 k).2.2.1 = some (tyJ0 k) := by decide +kernel
abbrev cJ0_length_8abf5 : ByteArray := prog_18_method_54_code
def yJ0_length_8abf5 : MethodName := ⟨RJ0, "length", "()I"⟩
abbrev cJ0_charAt_5068e : ByteArray := prog_18_method_56_code
def yJ0_charAt_5068e : MethodName := ⟨RJ0, "charAt", "(I)C"⟩
abbrev cJ0_coder_7d493 : ByteArray := prog_18_method_152_code
def yJ0_coder_7d493 : MethodName := ⟨RJ0, "coder", "()B"⟩
abbrev cJ0_isLatin1_aae02 : ByteArray := prog_18_method_154_code
def yJ0_isLatin1_aae02 : MethodName := ⟨RJ0, "isLatin1", "()Z"⟩
abbrev cJ0_checkIndex_df160 : ByteArray := prog_18_method_155_code
def yJ0_checkIndex_df160 : MethodName := ⟨RJ0, "checkIndex", "(II)V"⟩
def RJ1 : String := "java/lang/StringLatin1"
def TJ1 : u_T := fun k => match k with
  | _ => ("", "", "", false)
def tyJ1 : Nat → FieldType := fun k => match k with
  | _ => .int
abbrev wsJ10 : List Cond := u_ws RJ1 TJ1 0
theorem nmJ1 : ∀ a, a < 0 → ∀ b, b < 0 → a ≠ b → (TJ1 a).2.1 ≠ (TJ1 b).2.1 := by decide +kernel
theorem tyJ1_ok : ∀ k, k < 0 → parseFieldDescriptor (TJ1 k).2.2.1 = some (tyJ1 k) := by decide +kernel
abbrev cJ1_charAt_3b067 : ByteArray := prog_19_method_2_code
def yJ1_charAt_3b067 : MethodName := ⟨RJ1, "charAt", "([BI)C"⟩
def RJ2 : String := "java/lang/StringUTF16"
def TJ2 : u_T := fun k => match k with
  | _ => ("", "", "", false)
def tyJ2 : Nat → FieldType := fun k => match k with
  | _ => .int
abbrev wsJ20 : List Cond := u_ws RJ2 TJ2 0
theorem nmJ2 : ∀ a, a < 0 → ∀ b, b < 0 → a ≠ b → (TJ2 a).2.1 ≠ (TJ2 b).2.1 := by decide +kernel
theorem tyJ2_ok : ∀ k, k < 0 → parseFieldDescriptor (TJ2 k).2.2.1 = some (tyJ2 k) := by decide +kernel
abbrev cJ2_getChar_3b067 : ByteArray := prog_20_method_5_code
def yJ2_getChar_3b067 : MethodName := ⟨RJ2, "getChar", "([BI)C"⟩
abbrev cJ2_length_9d52b : ByteArray := prog_20_method_6_code
def yJ2_length_9d52b : MethodName := ⟨RJ2, "length", "([B)I"⟩
abbrev cJ2_charAt_3b067 : ByteArray := prog_20_method_83_code
def yJ2_charAt_3b067 : MethodName := ⟨RJ2, "charAt", "([BI)C"⟩
abbrev cJ2_checkIndex_2214a : ByteArray := prog_20_method_91_code
def yJ2_checkIndex_2214a : MethodName := ⟨RJ2, "checkIndex", "(I[B)V"⟩
def RJ10 : String := "java/lang/System"
def TJ10 : u_T := fun k => match k with
  | _ => ("", "", "", false)
def tyJ10 : Nat → FieldType := fun k => match k with
  | _ => .int
abbrev wsJ100 : List Cond := u_ws RJ10 TJ10 0
theorem nmJ10 : ∀ a, a < 0 → ∀ b, b < 0 → a ≠ b → (TJ10 a).2.1 ≠ (TJ10 b).2.1 := by decide +kernel
theorem tyJ10_ok : ∀ k, k < 0 → parseFieldDescriptor (TJ10 k).2.2.1 = some (tyJ10 k) := by decide +kernel
def RJxfd54e : String := "java/lang/constant/Constable"
def TJxfd54e : u_T := fun k => match k with
  | _ => ("", "", "", false)
def tyJxfd54e : Nat → FieldType := fun k => match k with
  | _ => .int
abbrev wsJxfd54e0 : List Cond := u_ws RJxfd54e TJxfd54e 0
theorem nmJxfd54e : ∀ a, a < 0 → ∀ b, b < 0 → a ≠ b → (TJxfd54e a).2.1 ≠ (TJxfd54e b).2.1 := by decide +kernel
theorem tyJxfd54e_ok : ∀ k, k < 0 → parseFieldDescriptor (TJxfd54e k).2.2.1 = some (tyJxfd54e k) := by decide +kernel
def RJx3cf43 : String := "java/lang/constant/ConstantDesc"
def TJx3cf43 : u_T := fun k => match k with
  | _ => ("", "", "", false)
def tyJx3cf43 : Nat → FieldType := fun k => match k with
  | _ => .int
abbrev wsJx3cf430 : List Cond := u_ws RJx3cf43 TJx3cf43 0
theorem nmJx3cf43 : ∀ a, a < 0 → ∀ b, b < 0 → a ≠ b → (TJx3cf43 a).2.1 ≠ (TJx3cf43 b).2.1 := by decide +kernel
theorem tyJx3cf43_ok : ∀ k, k < 0 → parseFieldDescriptor (TJx3cf43 k).2.2.1 = some (tyJx3cf43 k) := by decide +kernel
def RJ7 : String := "java/util/Arrays"
def TJ7 : u_T := fun k => match k with
  | _ => ("", "", "", false)
def tyJ7 : Nat → FieldType := fun k => match k with
  | _ => .int
abbrev wsJ70 : List Cond := u_ws RJ7 TJ7 0
theorem nmJ7 : ∀ a, a < 0 → ∀ b, b < 0 → a ≠ b → (TJ7 a).2.1 ≠ (TJ7 b).2.1 := by decide +kernel
theorem tyJ7_ok : ∀ k, k < 0 → parseFieldDescriptor (TJ7 k).2.2.1 = some (tyJ7 k) := by decide +kernel
abbrev cJ7_fill_53178 : ByteArray := prog_25_method_103_code
def yJ7_fill_53178 : MethodName := ⟨RJ7, "fill", "([II)V"⟩
def RJ3 : String := "jdk/internal/util/Preconditions"
def TJ3 : u_T := fun k => match k with
  | _ => ("", "", "", false)
def tyJ3 : Nat → FieldType := fun k => match k with
  | _ => .int
abbrev wsJ30 : List Cond := u_ws RJ3 TJ3 0
theorem nmJ3 : ∀ a, a < 0 → ∀ b, b < 0 → a ≠ b → (TJ3 a).2.1 ≠ (TJ3 b).2.1 := by decide +kernel
theorem tyJ3_ok : ∀ k, k < 0 → parseFieldDescriptor (TJ3 k).2.2.1 = some (tyJ3 k) := by decide +kernel
abbrev cJ3_checkIndex_8e157 : ByteArray := prog_27_method_11_code
def yJ3_checkIndex_8e157 : MethodName := ⟨RJ3, "checkIndex", "(IILjava/util/function/BiFunction;)I"⟩
def RL : String := "OddPairsLaw"
abbrev cL_text : ByteArray := method_3_code
def yL_text : MethodName := ⟨RL, "text", "(LOddPairs;I[J)I"⟩
abbrev cL_join : ByteArray := method_4_code
def yL_join : MethodName := ⟨RL, "join", "(LOddPairs;III[J)I"⟩
abbrev cL_cut : ByteArray := method_5_code
def yL_cut : MethodName := ⟨RL, "cut", "(LOddPairs;II[J)I"⟩
abbrev cL_pair : ByteArray := method_6_code
def yL_pair : MethodName := ⟨RL, "pair", "(LOddPairs;II[J)I"⟩
abbrev cL_part : ByteArray := method_7_code
def yL_part : MethodName := ⟨RL, "part", "(LOddPairs;I[J)I"⟩
abbrev cL_better : ByteArray := method_8_code
def yL_better : MethodName := ⟨RL, "better", "(LOddPairs;I[J)I"⟩
abbrev cL_shrink : ByteArray := method_9_code
def yL_shrink : MethodName := ⟨RL, "shrink", "(LOddPairs;I[J)I"⟩
abbrev cL_told : ByteArray := method_10_code
def yL_told : MethodName := ⟨RL, "told", "(LOddPairs;I[J)I"⟩
abbrev cL_line : ByteArray := method_11_code
def yL_line : MethodName := ⟨RL, "line", "(LOddPairs;III[J)I"⟩
abbrev cL_node : ByteArray := method_12_code
def yL_node : MethodName := ⟨RL, "node", "(LOddPairs;II[J)I"⟩
abbrev cL_sets : ByteArray := method_13_code
def yL_sets : MethodName := ⟨RL, "sets", "(LOddPairs;I[J)I"⟩
abbrev cL_odd : ByteArray := method_14_code
def yL_odd : MethodName := ⟨RL, "odd", "(LOddPairs;I[J)I"⟩
abbrev cL_barrier : ByteArray := method_15_code
def yL_barrier : MethodName := ⟨RL, "barrier", "(LOddPairs;I[J)I"⟩
abbrev cL_heavy : ByteArray := method_16_code
def yL_heavy : MethodName := ⟨RL, "heavy", "(LOddPairs;I[J)I"⟩
abbrev cL_path : ByteArray := method_17_code
def yL_path : MethodName := ⟨RL, "path", "(LOddPairs;II[J)I"⟩
abbrev cL_flower : ByteArray := method_18_code
def yL_flower : MethodName := ⟨RL, "flower", "(LOddPairs;II[J)I"⟩
abbrev cL_law : ByteArray := code
def yL_law : MethodName := ⟨RL, "law", "([I)Z"⟩
end
section
theorem dX0_init_0 : decode cX0_init 0 = .ok (.aload_n 0, 1) := by decide +kernel
theorem dX0_init_1 : decode cX0_init 1 = .ok (.invokespecial 3, 3) := by decide +kernel
theorem dX0_init_4 : decode cX0_init 4 = .ok (.aload_n 0, 1) := by decide +kernel
theorem dX0_init_5 : decode cX0_init 5 = .ok (.iconst 0, 1) := by decide +kernel
theorem dX0_init_6 : decode cX0_init 6 = .ok (.putfield 9, 3) := by decide +kernel
theorem dX0_init_9 : decode cX0_init 9 = .ok (.aload_n 0, 1) := by decide +kernel
theorem dX0_init_10 : decode cX0_init 10 = .ok (.bipush 12, 2) := by decide +kernel
theorem dX0_init_12 : decode cX0_init 12 = .ok (.newarray .int, 2) := by decide +kernel
theorem dX0_init_14 : decode cX0_init 14 = .ok (.putfield 15, 3) := by decide +kernel
theorem dX0_init_17 : decode cX0_init 17 = .ok (.aload_n 0, 1) := by decide +kernel
theorem dX0_init_18 : decode cX0_init 18 = .ok (.iconst 0, 1) := by decide +kernel
theorem dX0_init_19 : decode cX0_init 19 = .ok (.putfield 19, 3) := by decide +kernel
theorem dX0_init_22 : decode cX0_init 22 = .ok (.aload_n 0, 1) := by decide +kernel
theorem dX0_init_23 : decode cX0_init 23 = .ok (.iconst 0, 1) := by decide +kernel
theorem dX0_init_24 : decode cX0_init 24 = .ok (.putfield 23, 3) := by decide +kernel
theorem dX0_init_27 : decode cX0_init 27 = .ok (.aload_n 0, 1) := by decide +kernel
theorem dX0_init_28 : decode cX0_init 28 = .ok (.sipush 4096, 3) := by decide +kernel
theorem dX0_init_31 : decode cX0_init 31 = .ok (.newarray .int, 2) := by decide +kernel
theorem dX0_init_33 : decode cX0_init 33 = .ok (.putfield 26, 3) := by decide +kernel
theorem dX0_init_36 : decode cX0_init 36 = .ok (.aload_n 0, 1) := by decide +kernel
theorem dX0_init_37 : decode cX0_init 37 = .ok (.sipush 4096, 3) := by decide +kernel
theorem dX0_init_40 : decode cX0_init 40 = .ok (.newarray .int, 2) := by decide +kernel
theorem dX0_init_42 : decode cX0_init 42 = .ok (.putfield 29, 3) := by decide +kernel
theorem dX0_init_45 : decode cX0_init 45 = .ok (.aload_n 0, 1) := by decide +kernel
theorem dX0_init_46 : decode cX0_init 46 = .ok (.sipush 4096, 3) := by decide +kernel
theorem dX0_init_49 : decode cX0_init 49 = .ok (.newarray .int, 2) := by decide +kernel
theorem dX0_init_51 : decode cX0_init 51 = .ok (.putfield 32, 3) := by decide +kernel
theorem dX0_init_54 : decode cX0_init 54 = .ok (.aload_n 0, 1) := by decide +kernel
theorem dX0_init_55 : decode cX0_init 55 = .ok (.sipush 4096, 3) := by decide +kernel
theorem dX0_init_58 : decode cX0_init 58 = .ok (.newarray .int, 2) := by decide +kernel
theorem dX0_init_60 : decode cX0_init 60 = .ok (.putfield 35, 3) := by decide +kernel
theorem dX0_init_63 : decode cX0_init 63 = .ok (.return_, 1) := by decide +kernel
theorem dX0_learn_0 : decode cX0_learn 0 = .ok (.aload_n 0, 1) := by decide +kernel
theorem dX0_learn_1 : decode cX0_learn 1 = .ok (.getfield 9, 3) := by decide +kernel
theorem dX0_learn_4 : decode cX0_learn 4 = .ok (.ifCond .eq 4, 3) := by decide +kernel
theorem dX0_learn_7 : decode cX0_learn 7 = .ok (.return_, 1) := by decide +kernel
theorem dX0_learn_8 : decode cX0_learn 8 = .ok (.aload_n 0, 1) := by decide +kernel
theorem dX0_learn_9 : decode cX0_learn 9 = .ok (.iconst 1, 1) := by decide +kernel
theorem dX0_learn_10 : decode cX0_learn 10 = .ok (.putfield 9, 3) := by decide +kernel
theorem dX0_learn_13 : decode cX0_learn 13 = .ok (.aload_n 0, 1) := by decide +kernel
theorem dX0_learn_14 : decode cX0_learn 14 = .ok (.aload_n 1, 1) := by decide +kernel
theorem dX0_learn_15 : decode cX0_learn 15 = .ok (.getfield 38, 3) := by decide +kernel
theorem dX0_learn_18 : decode cX0_learn 18 = .ok (.putfield 23, 3) := by decide +kernel
theorem dX0_learn_21 : decode cX0_learn 21 = .ok (.aload_n 0, 1) := by decide +kernel
theorem dX0_learn_22 : decode cX0_learn 22 = .ok (.aload_n 1, 1) := by decide +kernel
theorem dX0_learn_23 : decode cX0_learn 23 = .ok (.invokevirtual 41, 3) := by decide +kernel
theorem dX0_learn_26 : decode cX0_learn 26 = .ok (.putfield 19, 3) := by decide +kernel
theorem dX0_learn_29 : decode cX0_learn 29 = .ok (.aload_n 0, 1) := by decide +kernel
theorem dX0_learn_30 : decode cX0_learn 30 = .ok (.getfield 29, 3) := by decide +kernel
theorem dX0_learn_33 : decode cX0_learn 33 = .ok (.iconst 0, 1) := by decide +kernel
theorem dX0_learn_34 : decode cX0_learn 34 = .ok (.iconst 1, 1) := by decide +kernel
theorem dX0_learn_35 : decode cX0_learn 35 = .ok (.iastore, 1) := by decide +kernel
theorem dX0_learn_36 : decode cX0_learn 36 = .ok (.iconst 0, 1) := by decide +kernel
theorem dX0_learn_37 : decode cX0_learn 37 = .ok (.istore_n 2, 1) := by decide +kernel
theorem dX0_learn_38 : decode cX0_learn 38 = .ok (.iload_n 2, 1) := by decide +kernel
theorem dX0_learn_39 : decode cX0_learn 39 = .ok (.aload_n 0, 1) := by decide +kernel
theorem dX0_learn_40 : decode cX0_learn 40 = .ok (.getfield 23, 3) := by decide +kernel
theorem dX0_learn_43 : decode cX0_learn 43 = .ok (.if_icmp .ge 35, 3) := by decide +kernel
theorem dX0_learn_46 : decode cX0_learn 46 = .ok (.iconst 1, 1) := by decide +kernel
theorem dX0_learn_47 : decode cX0_learn 47 = .ok (.iload_n 2, 1) := by decide +kernel
theorem dX0_learn_48 : decode cX0_learn 48 = .ok (.ishl, 1) := by decide +kernel
theorem dX0_learn_49 : decode cX0_learn 49 = .ok (.istore_n 3, 1) := by decide +kernel
theorem dX0_learn_50 : decode cX0_learn 50 = .ok (.iload_n 3, 1) := by decide +kernel
theorem dX0_learn_51 : decode cX0_learn 51 = .ok (.iconst 1, 1) := by decide +kernel
theorem dX0_learn_52 : decode cX0_learn 52 = .ok (.iload_n 2, 1) := by decide +kernel
theorem dX0_learn_53 : decode cX0_learn 53 = .ok (.iconst 1, 1) := by decide +kernel
theorem dX0_learn_54 : decode cX0_learn 54 = .ok (.iadd, 1) := by decide +kernel
theorem dX0_learn_55 : decode cX0_learn 55 = .ok (.ishl, 1) := by decide +kernel
theorem dX0_learn_56 : decode cX0_learn 56 = .ok (.if_icmp .ge 16, 3) := by decide +kernel
theorem dX0_learn_59 : decode cX0_learn 59 = .ok (.aload_n 0, 1) := by decide +kernel
theorem dX0_learn_60 : decode cX0_learn 60 = .ok (.aload_n 1, 1) := by decide +kernel
theorem dX0_learn_61 : decode cX0_learn 61 = .ok (.iload_n 2, 1) := by decide +kernel
theorem dX0_learn_62 : decode cX0_learn 62 = .ok (.iload_n 3, 1) := by decide +kernel
theorem dX0_learn_63 : decode cX0_learn 63 = .ok (.invokevirtual 44, 3) := by decide +kernel
theorem dX0_learn_66 : decode cX0_learn 66 = .ok (.iinc 3 1, 3) := by decide +kernel
theorem dX0_learn_69 : decode cX0_learn 69 = .ok (.goto (-19), 3) := by decide +kernel
theorem dX0_learn_72 : decode cX0_learn 72 = .ok (.iinc 2 1, 3) := by decide +kernel
theorem dX0_learn_75 : decode cX0_learn 75 = .ok (.goto (-37), 3) := by decide +kernel
theorem dX0_learn_78 : decode cX0_learn 78 = .ok (.return_, 1) := by decide +kernel
theorem dX0_learnSet_0 : decode cX0_learnSet 0 = .ok (.iload_n 3, 1) := by decide +kernel
theorem dX0_learnSet_1 : decode cX0_learnSet 1 = .ok (.iconst 1, 1) := by decide +kernel
theorem dX0_learnSet_2 : decode cX0_learnSet 2 = .ok (.iload_n 2, 1) := by decide +kernel
theorem dX0_learnSet_3 : decode cX0_learnSet 3 = .ok (.ishl, 1) := by decide +kernel
theorem dX0_learnSet_4 : decode cX0_learnSet 4 = .ok (.iconst (-1), 1) := by decide +kernel
theorem dX0_learnSet_5 : decode cX0_learnSet 5 = .ok (.ixor, 1) := by decide +kernel
theorem dX0_learnSet_6 : decode cX0_learnSet 6 = .ok (.iand, 1) := by decide +kernel
theorem dX0_learnSet_7 : decode cX0_learnSet 7 = .ok (.istore 4, 2) := by decide +kernel
theorem dX0_learnSet_9 : decode cX0_learnSet 9 = .ok (.aload_n 0, 1) := by decide +kernel
theorem dX0_learnSet_10 : decode cX0_learnSet 10 = .ok (.getfield 26, 3) := by decide +kernel
theorem dX0_learnSet_13 : decode cX0_learnSet 13 = .ok (.iload_n 3, 1) := by decide +kernel
theorem dX0_learnSet_14 : decode cX0_learnSet 14 = .ok (.aload_n 0, 1) := by decide +kernel
theorem dX0_learnSet_15 : decode cX0_learnSet 15 = .ok (.getfield 26, 3) := by decide +kernel
theorem dX0_learnSet_18 : decode cX0_learnSet 18 = .ok (.iload 4, 2) := by decide +kernel
theorem dX0_learnSet_20 : decode cX0_learnSet 20 = .ok (.iaload, 1) := by decide +kernel
theorem dX0_learnSet_21 : decode cX0_learnSet 21 = .ok (.iastore, 1) := by decide +kernel
theorem dX0_learnSet_22 : decode cX0_learnSet 22 = .ok (.aload_n 0, 1) := by decide +kernel
theorem dX0_learnSet_23 : decode cX0_learnSet 23 = .ok (.getfield 29, 3) := by decide +kernel
theorem dX0_learnSet_26 : decode cX0_learnSet 26 = .ok (.iload_n 3, 1) := by decide +kernel
theorem dX0_learnSet_27 : decode cX0_learnSet 27 = .ok (.aload_n 0, 1) := by decide +kernel
theorem dX0_learnSet_28 : decode cX0_learnSet 28 = .ok (.getfield 29, 3) := by decide +kernel
theorem dX0_learnSet_31 : decode cX0_learnSet 31 = .ok (.iload 4, 2) := by decide +kernel
theorem dX0_learnSet_33 : decode cX0_learnSet 33 = .ok (.iaload, 1) := by decide +kernel
theorem dX0_learnSet_34 : decode cX0_learnSet 34 = .ok (.iastore, 1) := by decide +kernel
theorem dX0_learnSet_35 : decode cX0_learnSet 35 = .ok (.aload_n 0, 1) := by decide +kernel
theorem dX0_learnSet_36 : decode cX0_learnSet 36 = .ok (.getfield 32, 3) := by decide +kernel
theorem dX0_learnSet_39 : decode cX0_learnSet 39 = .ok (.iload_n 3, 1) := by decide +kernel
theorem dX0_learnSet_40 : decode cX0_learnSet 40 = .ok (.aload_n 0, 1) := by decide +kernel
theorem dX0_learnSet_41 : decode cX0_learnSet 41 = .ok (.getfield 32, 3) := by decide +kernel
theorem dX0_learnSet_44 : decode cX0_learnSet 44 = .ok (.iload 4, 2) := by decide +kernel
theorem dX0_learnSet_46 : decode cX0_learnSet 46 = .ok (.iaload, 1) := by decide +kernel
theorem dX0_learnSet_47 : decode cX0_learnSet 47 = .ok (.iastore, 1) := by decide +kernel
theorem dX0_learnSet_48 : decode cX0_learnSet 48 = .ok (.aload_n 0, 1) := by decide +kernel
theorem dX0_learnSet_49 : decode cX0_learnSet 49 = .ok (.getfield 35, 3) := by decide +kernel
theorem dX0_learnSet_52 : decode cX0_learnSet 52 = .ok (.iload_n 3, 1) := by decide +kernel
theorem dX0_learnSet_53 : decode cX0_learnSet 53 = .ok (.aload_n 0, 1) := by decide +kernel
theorem dX0_learnSet_54 : decode cX0_learnSet 54 = .ok (.getfield 35, 3) := by decide +kernel
theorem dX0_learnSet_57 : decode cX0_learnSet 57 = .ok (.iload 4, 2) := by decide +kernel
theorem dX0_learnSet_59 : decode cX0_learnSet 59 = .ok (.iaload, 1) := by decide +kernel
theorem dX0_learnSet_60 : decode cX0_learnSet 60 = .ok (.iastore, 1) := by decide +kernel
theorem dX0_learnSet_61 : decode cX0_learnSet 61 = .ok (.aload_n 1, 1) := by decide +kernel
theorem dX0_learnSet_62 : decode cX0_learnSet 62 = .ok (.getfield 48, 3) := by decide +kernel
theorem dX0_learnSet_65 : decode cX0_learnSet 65 = .ok (.iload_n 2, 1) := by decide +kernel
theorem dX0_learnSet_66 : decode cX0_learnSet 66 = .ok (.iaload, 1) := by decide +kernel
theorem dX0_learnSet_67 : decode cX0_learnSet 67 = .ok (.iload 4, 2) := by decide +kernel
theorem dX0_learnSet_69 : decode cX0_learnSet 69 = .ok (.iand, 1) := by decide +kernel
theorem dX0_learnSet_70 : decode cX0_learnSet 70 = .ok (.istore 5, 2) := by decide +kernel
theorem dX0_learnSet_72 : decode cX0_learnSet 72 = .ok (.iconst 0, 1) := by decide +kernel
theorem dX0_learnSet_73 : decode cX0_learnSet 73 = .ok (.istore 6, 2) := by decide +kernel
theorem dX0_learnSet_75 : decode cX0_learnSet 75 = .ok (.iload 6, 2) := by decide +kernel
theorem dX0_learnSet_77 : decode cX0_learnSet 77 = .ok (.iload_n 2, 1) := by decide +kernel
theorem dX0_learnSet_78 : decode cX0_learnSet 78 = .ok (.if_icmp .ge 40, 3) := by decide +kernel
theorem dX0_learnSet_81 : decode cX0_learnSet 81 = .ok (.iload 5, 2) := by decide +kernel
theorem dX0_learnSet_83 : decode cX0_learnSet 83 = .ok (.iload 6, 2) := by decide +kernel
theorem dX0_learnSet_85 : decode cX0_learnSet 85 = .ok (.invokestatic 51, 3) := by decide +kernel
theorem dX0_learnSet_88 : decode cX0_learnSet 88 = .ok (.ifCond .eq 24, 3) := by decide +kernel
theorem dX0_learnSet_91 : decode cX0_learnSet 91 = .ok (.aload_n 0, 1) := by decide +kernel
theorem dX0_learnSet_92 : decode cX0_learnSet 92 = .ok (.iload_n 3, 1) := by decide +kernel
theorem dX0_learnSet_93 : decode cX0_learnSet 93 = .ok (.iload 4, 2) := by decide +kernel
theorem dX0_learnSet_95 : decode cX0_learnSet 95 = .ok (.iconst 1, 1) := by decide +kernel
theorem dX0_learnSet_96 : decode cX0_learnSet 96 = .ok (.iload 6, 2) := by decide +kernel
theorem dX0_learnSet_98 : decode cX0_learnSet 98 = .ok (.ishl, 1) := by decide +kernel
theorem dX0_learnSet_99 : decode cX0_learnSet 99 = .ok (.iconst (-1), 1) := by decide +kernel
theorem dX0_learnSet_100 : decode cX0_learnSet 100 = .ok (.ixor, 1) := by decide +kernel
theorem dX0_learnSet_101 : decode cX0_learnSet 101 = .ok (.iand, 1) := by decide +kernel
theorem dX0_learnSet_102 : decode cX0_learnSet 102 = .ok (.aload_n 1, 1) := by decide +kernel
theorem dX0_learnSet_103 : decode cX0_learnSet 103 = .ok (.iload_n 2, 1) := by decide +kernel
theorem dX0_learnSet_104 : decode cX0_learnSet 104 = .ok (.iload 6, 2) := by decide +kernel
theorem dX0_learnSet_106 : decode cX0_learnSet 106 = .ok (.invokevirtual 55, 3) := by decide +kernel
theorem dX0_learnSet_109 : decode cX0_learnSet 109 = .ok (.invokevirtual 59, 3) := by decide +kernel
theorem dX0_learnSet_112 : decode cX0_learnSet 112 = .ok (.iinc 6 1, 3) := by decide +kernel
theorem dX0_learnSet_115 : decode cX0_learnSet 115 = .ok (.goto (-40), 3) := by decide +kernel
theorem dX0_learnSet_118 : decode cX0_learnSet 118 = .ok (.return_, 1) := by decide +kernel
theorem dX0_weighIn_0 : decode cX0_weighIn 0 = .ok (.aload_n 0, 1) := by decide +kernel
theorem dX0_weighIn_1 : decode cX0_weighIn 1 = .ok (.getfield 26, 3) := by decide +kernel
theorem dX0_weighIn_4 : decode cX0_weighIn 4 = .ok (.iload_n 2, 1) := by decide +kernel
theorem dX0_weighIn_5 : decode cX0_weighIn 5 = .ok (.iaload, 1) := by decide +kernel
theorem dX0_weighIn_6 : decode cX0_weighIn 6 = .ok (.iconst 1, 1) := by decide +kernel
theorem dX0_weighIn_7 : decode cX0_weighIn 7 = .ok (.iadd, 1) := by decide +kernel
theorem dX0_weighIn_8 : decode cX0_weighIn 8 = .ok (.istore 4, 2) := by decide +kernel
theorem dX0_weighIn_10 : decode cX0_weighIn 10 = .ok (.iload 4, 2) := by decide +kernel
theorem dX0_weighIn_12 : decode cX0_weighIn 12 = .ok (.aload_n 0, 1) := by decide +kernel
theorem dX0_weighIn_13 : decode cX0_weighIn 13 = .ok (.getfield 26, 3) := by decide +kernel
theorem dX0_weighIn_16 : decode cX0_weighIn 16 = .ok (.iload_n 1, 1) := by decide +kernel
theorem dX0_weighIn_17 : decode cX0_weighIn 17 = .ok (.iaload, 1) := by decide +kernel
theorem dX0_weighIn_18 : decode cX0_weighIn 18 = .ok (.if_icmp .le 54, 3) := by decide +kernel
theorem dX0_weighIn_21 : decode cX0_weighIn 21 = .ok (.aload_n 0, 1) := by decide +kernel
theorem dX0_weighIn_22 : decode cX0_weighIn 22 = .ok (.getfield 26, 3) := by decide +kernel
theorem dX0_weighIn_25 : decode cX0_weighIn 25 = .ok (.iload_n 1, 1) := by decide +kernel
theorem dX0_weighIn_26 : decode cX0_weighIn 26 = .ok (.iload 4, 2) := by decide +kernel
theorem dX0_weighIn_28 : decode cX0_weighIn 28 = .ok (.iastore, 1) := by decide +kernel
theorem dX0_weighIn_29 : decode cX0_weighIn 29 = .ok (.aload_n 0, 1) := by decide +kernel
theorem dX0_weighIn_30 : decode cX0_weighIn 30 = .ok (.getfield 29, 3) := by decide +kernel
theorem dX0_weighIn_33 : decode cX0_weighIn 33 = .ok (.iload_n 1, 1) := by decide +kernel
theorem dX0_weighIn_34 : decode cX0_weighIn 34 = .ok (.aload_n 0, 1) := by decide +kernel
theorem dX0_weighIn_35 : decode cX0_weighIn 35 = .ok (.getfield 29, 3) := by decide +kernel
theorem dX0_weighIn_38 : decode cX0_weighIn 38 = .ok (.iload_n 2, 1) := by decide +kernel
theorem dX0_weighIn_39 : decode cX0_weighIn 39 = .ok (.iaload, 1) := by decide +kernel
theorem dX0_weighIn_40 : decode cX0_weighIn 40 = .ok (.iastore, 1) := by decide +kernel
theorem dX0_weighIn_41 : decode cX0_weighIn 41 = .ok (.aload_n 0, 1) := by decide +kernel
theorem dX0_weighIn_42 : decode cX0_weighIn 42 = .ok (.getfield 32, 3) := by decide +kernel
theorem dX0_weighIn_45 : decode cX0_weighIn 45 = .ok (.iload_n 1, 1) := by decide +kernel
theorem dX0_weighIn_46 : decode cX0_weighIn 46 = .ok (.aload_n 0, 1) := by decide +kernel
theorem dX0_weighIn_47 : decode cX0_weighIn 47 = .ok (.getfield 32, 3) := by decide +kernel
theorem dX0_weighIn_50 : decode cX0_weighIn 50 = .ok (.iload_n 2, 1) := by decide +kernel
theorem dX0_weighIn_51 : decode cX0_weighIn 51 = .ok (.iaload, 1) := by decide +kernel
theorem dX0_weighIn_52 : decode cX0_weighIn 52 = .ok (.iload_n 3, 1) := by decide +kernel
theorem dX0_weighIn_53 : decode cX0_weighIn 53 = .ok (.iadd, 1) := by decide +kernel
theorem dX0_weighIn_54 : decode cX0_weighIn 54 = .ok (.iastore, 1) := by decide +kernel
theorem dX0_weighIn_55 : decode cX0_weighIn 55 = .ok (.aload_n 0, 1) := by decide +kernel
theorem dX0_weighIn_56 : decode cX0_weighIn 56 = .ok (.getfield 35, 3) := by decide +kernel
theorem dX0_weighIn_59 : decode cX0_weighIn 59 = .ok (.iload_n 1, 1) := by decide +kernel
theorem dX0_weighIn_60 : decode cX0_weighIn 60 = .ok (.aload_n 0, 1) := by decide +kernel
theorem dX0_weighIn_61 : decode cX0_weighIn 61 = .ok (.getfield 35, 3) := by decide +kernel
theorem dX0_weighIn_64 : decode cX0_weighIn 64 = .ok (.iload_n 2, 1) := by decide +kernel
theorem dX0_weighIn_65 : decode cX0_weighIn 65 = .ok (.iaload, 1) := by decide +kernel
theorem dX0_weighIn_66 : decode cX0_weighIn 66 = .ok (.iload_n 3, 1) := by decide +kernel
theorem dX0_weighIn_67 : decode cX0_weighIn 67 = .ok (.iadd, 1) := by decide +kernel
theorem dX0_weighIn_68 : decode cX0_weighIn 68 = .ok (.iastore, 1) := by decide +kernel
theorem dX0_weighIn_69 : decode cX0_weighIn 69 = .ok (.goto 75, 3) := by decide +kernel
theorem dX0_weighIn_72 : decode cX0_weighIn 72 = .ok (.iload 4, 2) := by decide +kernel
theorem dX0_weighIn_74 : decode cX0_weighIn 74 = .ok (.aload_n 0, 1) := by decide +kernel
theorem dX0_weighIn_75 : decode cX0_weighIn 75 = .ok (.getfield 26, 3) := by decide +kernel
theorem dX0_weighIn_78 : decode cX0_weighIn 78 = .ok (.iload_n 1, 1) := by decide +kernel
theorem dX0_weighIn_79 : decode cX0_weighIn 79 = .ok (.iaload, 1) := by decide +kernel
theorem dX0_weighIn_80 : decode cX0_weighIn 80 = .ok (.if_icmp .ne 64, 3) := by decide +kernel
theorem dX0_weighIn_83 : decode cX0_weighIn 83 = .ok (.aload_n 0, 1) := by decide +kernel
theorem dX0_weighIn_84 : decode cX0_weighIn 84 = .ok (.getfield 29, 3) := by decide +kernel
theorem dX0_weighIn_87 : decode cX0_weighIn 87 = .ok (.iload_n 1, 1) := by decide +kernel
theorem dX0_weighIn_88 : decode cX0_weighIn 88 = .ok (.dup2, 1) := by decide +kernel
theorem dX0_weighIn_89 : decode cX0_weighIn 89 = .ok (.iaload, 1) := by decide +kernel
theorem dX0_weighIn_90 : decode cX0_weighIn 90 = .ok (.aload_n 0, 1) := by decide +kernel
theorem dX0_weighIn_91 : decode cX0_weighIn 91 = .ok (.getfield 29, 3) := by decide +kernel
theorem dX0_weighIn_94 : decode cX0_weighIn 94 = .ok (.iload_n 2, 1) := by decide +kernel
theorem dX0_weighIn_95 : decode cX0_weighIn 95 = .ok (.iaload, 1) := by decide +kernel
theorem dX0_weighIn_96 : decode cX0_weighIn 96 = .ok (.iadd, 1) := by decide +kernel
theorem dX0_weighIn_97 : decode cX0_weighIn 97 = .ok (.iastore, 1) := by decide +kernel
theorem dX0_weighIn_98 : decode cX0_weighIn 98 = .ok (.aload_n 0, 1) := by decide +kernel
theorem dX0_weighIn_99 : decode cX0_weighIn 99 = .ok (.getfield 32, 3) := by decide +kernel
theorem dX0_weighIn_102 : decode cX0_weighIn 102 = .ok (.iload_n 1, 1) := by decide +kernel
theorem dX0_weighIn_103 : decode cX0_weighIn 103 = .ok (.aload_n 0, 1) := by decide +kernel
theorem dX0_weighIn_104 : decode cX0_weighIn 104 = .ok (.getfield 32, 3) := by decide +kernel
theorem dX0_weighIn_107 : decode cX0_weighIn 107 = .ok (.iload_n 1, 1) := by decide +kernel
theorem dX0_weighIn_108 : decode cX0_weighIn 108 = .ok (.iaload, 1) := by decide +kernel
theorem dX0_weighIn_109 : decode cX0_weighIn 109 = .ok (.aload_n 0, 1) := by decide +kernel
theorem dX0_weighIn_110 : decode cX0_weighIn 110 = .ok (.getfield 32, 3) := by decide +kernel
theorem dX0_weighIn_113 : decode cX0_weighIn 113 = .ok (.iload_n 2, 1) := by decide +kernel
theorem dX0_weighIn_114 : decode cX0_weighIn 114 = .ok (.iaload, 1) := by decide +kernel
theorem dX0_weighIn_115 : decode cX0_weighIn 115 = .ok (.iload_n 3, 1) := by decide +kernel
theorem dX0_weighIn_116 : decode cX0_weighIn 116 = .ok (.iadd, 1) := by decide +kernel
theorem dX0_weighIn_117 : decode cX0_weighIn 117 = .ok (.invokestatic 63, 3) := by decide +kernel
theorem dX0_weighIn_120 : decode cX0_weighIn 120 = .ok (.iastore, 1) := by decide +kernel
theorem dX0_weighIn_121 : decode cX0_weighIn 121 = .ok (.aload_n 0, 1) := by decide +kernel
theorem dX0_weighIn_122 : decode cX0_weighIn 122 = .ok (.getfield 35, 3) := by decide +kernel
theorem dX0_weighIn_125 : decode cX0_weighIn 125 = .ok (.iload_n 1, 1) := by decide +kernel
theorem dX0_weighIn_126 : decode cX0_weighIn 126 = .ok (.aload_n 0, 1) := by decide +kernel
theorem dX0_weighIn_127 : decode cX0_weighIn 127 = .ok (.getfield 35, 3) := by decide +kernel
theorem dX0_weighIn_130 : decode cX0_weighIn 130 = .ok (.iload_n 1, 1) := by decide +kernel
theorem dX0_weighIn_131 : decode cX0_weighIn 131 = .ok (.iaload, 1) := by decide +kernel
theorem dX0_weighIn_132 : decode cX0_weighIn 132 = .ok (.aload_n 0, 1) := by decide +kernel
theorem dX0_weighIn_133 : decode cX0_weighIn 133 = .ok (.getfield 35, 3) := by decide +kernel
theorem dX0_weighIn_136 : decode cX0_weighIn 136 = .ok (.iload_n 2, 1) := by decide +kernel
theorem dX0_weighIn_137 : decode cX0_weighIn 137 = .ok (.iaload, 1) := by decide +kernel
theorem dX0_weighIn_138 : decode cX0_weighIn 138 = .ok (.iload_n 3, 1) := by decide +kernel
theorem dX0_weighIn_139 : decode cX0_weighIn 139 = .ok (.iadd, 1) := by decide +kernel
theorem dX0_weighIn_140 : decode cX0_weighIn 140 = .ok (.invokestatic 68, 3) := by decide +kernel
theorem dX0_weighIn_143 : decode cX0_weighIn 143 = .ok (.iastore, 1) := by decide +kernel
theorem dX0_weighIn_144 : decode cX0_weighIn 144 = .ok (.return_, 1) := by decide +kernel
theorem dX0_size_0 : decode cX0_size 0 = .ok (.aload_n 0, 1) := by decide +kernel
theorem dX0_size_1 : decode cX0_size 1 = .ok (.getfield 26, 3) := by decide +kernel
theorem dX0_size_4 : decode cX0_size 4 = .ok (.aload_n 0, 1) := by decide +kernel
theorem dX0_size_5 : decode cX0_size 5 = .ok (.getfield 19, 3) := by decide +kernel
theorem dX0_size_8 : decode cX0_size 8 = .ok (.iaload, 1) := by decide +kernel
theorem dX0_size_9 : decode cX0_size 9 = .ok (.ireturn, 1) := by decide +kernel
theorem dX0_missing_0 : decode cX0_missing 0 = .ok (.aload_n 0, 1) := by decide +kernel
theorem dX0_missing_1 : decode cX0_missing 1 = .ok (.getfield 23, 3) := by decide +kernel
theorem dX0_missing_4 : decode cX0_missing 4 = .ok (.iconst 2, 1) := by decide +kernel
theorem dX0_missing_5 : decode cX0_missing 5 = .ok (.aload_n 0, 1) := by decide +kernel
theorem dX0_missing_6 : decode cX0_missing 6 = .ok (.getfield 26, 3) := by decide +kernel
theorem dX0_missing_9 : decode cX0_missing 9 = .ok (.aload_n 0, 1) := by decide +kernel
theorem dX0_missing_10 : decode cX0_missing 10 = .ok (.getfield 19, 3) := by decide +kernel
theorem dX0_missing_13 : decode cX0_missing 13 = .ok (.iaload, 1) := by decide +kernel
theorem dX0_missing_14 : decode cX0_missing 14 = .ok (.imul, 1) := by decide +kernel
theorem dX0_missing_15 : decode cX0_missing 15 = .ok (.isub, 1) := by decide +kernel
theorem dX0_missing_16 : decode cX0_missing 16 = .ok (.ireturn, 1) := by decide +kernel
theorem dX0_count_0 : decode cX0_count 0 = .ok (.aload_n 0, 1) := by decide +kernel
theorem dX0_count_1 : decode cX0_count 1 = .ok (.getfield 29, 3) := by decide +kernel
theorem dX0_count_4 : decode cX0_count 4 = .ok (.aload_n 0, 1) := by decide +kernel
theorem dX0_count_5 : decode cX0_count 5 = .ok (.getfield 19, 3) := by decide +kernel
theorem dX0_count_8 : decode cX0_count 8 = .ok (.iaload, 1) := by decide +kernel
theorem dX0_count_9 : decode cX0_count 9 = .ok (.ireturn, 1) := by decide +kernel
theorem dX0_mostWeight_0 : decode cX0_mostWeight 0 = .ok (.aload_n 0, 1) := by decide +kernel
theorem dX0_mostWeight_1 : decode cX0_mostWeight 1 = .ok (.getfield 32, 3) := by decide +kernel
theorem dX0_mostWeight_4 : decode cX0_mostWeight 4 = .ok (.aload_n 0, 1) := by decide +kernel
theorem dX0_mostWeight_5 : decode cX0_mostWeight 5 = .ok (.getfield 19, 3) := by decide +kernel
theorem dX0_mostWeight_8 : decode cX0_mostWeight 8 = .ok (.iaload, 1) := by decide +kernel
theorem dX0_mostWeight_9 : decode cX0_mostWeight 9 = .ok (.ireturn, 1) := by decide +kernel
theorem dX0_leastWeight_0 : decode cX0_leastWeight 0 = .ok (.aload_n 0, 1) := by decide +kernel
theorem dX0_leastWeight_1 : decode cX0_leastWeight 1 = .ok (.getfield 35, 3) := by decide +kernel
theorem dX0_leastWeight_4 : decode cX0_leastWeight 4 = .ok (.aload_n 0, 1) := by decide +kernel
theorem dX0_leastWeight_5 : decode cX0_leastWeight 5 = .ok (.getfield 19, 3) := by decide +kernel
theorem dX0_leastWeight_8 : decode cX0_leastWeight 8 = .ok (.iaload, 1) := by decide +kernel
theorem dX0_leastWeight_9 : decode cX0_leastWeight 9 = .ok (.ireturn, 1) := by decide +kernel
theorem dX0_someHave_0 : decode cX0_someHave 0 = .ok (.aload_n 1, 1) := by decide +kernel
theorem dX0_someHave_1 : decode cX0_someHave 1 = .ok (.iload_n 2, 1) := by decide +kernel
theorem dX0_someHave_2 : decode cX0_someHave 2 = .ok (.iload_n 3, 1) := by decide +kernel
theorem dX0_someHave_3 : decode cX0_someHave 3 = .ok (.invokevirtual 71, 3) := by decide +kernel
theorem dX0_someHave_6 : decode cX0_someHave 6 = .ok (.ifCond .eq 32, 3) := by decide +kernel
theorem dX0_someHave_9 : decode cX0_someHave 9 = .ok (.aload_n 0, 1) := by decide +kernel
theorem dX0_someHave_10 : decode cX0_someHave 10 = .ok (.getfield 26, 3) := by decide +kernel
theorem dX0_someHave_13 : decode cX0_someHave 13 = .ok (.aload_n 0, 1) := by decide +kernel
theorem dX0_someHave_14 : decode cX0_someHave 14 = .ok (.iload_n 2, 1) := by decide +kernel
theorem dX0_someHave_15 : decode cX0_someHave 15 = .ok (.iload_n 3, 1) := by decide +kernel
theorem dX0_someHave_16 : decode cX0_someHave 16 = .ok (.invokevirtual 74, 3) := by decide +kernel
theorem dX0_someHave_19 : decode cX0_someHave 19 = .ok (.iaload, 1) := by decide +kernel
theorem dX0_someHave_20 : decode cX0_someHave 20 = .ok (.iconst 1, 1) := by decide +kernel
theorem dX0_someHave_21 : decode cX0_someHave 21 = .ok (.iadd, 1) := by decide +kernel
theorem dX0_someHave_22 : decode cX0_someHave 22 = .ok (.aload_n 0, 1) := by decide +kernel
theorem dX0_someHave_23 : decode cX0_someHave 23 = .ok (.getfield 26, 3) := by decide +kernel
theorem dX0_someHave_26 : decode cX0_someHave 26 = .ok (.aload_n 0, 1) := by decide +kernel
theorem dX0_someHave_27 : decode cX0_someHave 27 = .ok (.getfield 19, 3) := by decide +kernel
theorem dX0_someHave_30 : decode cX0_someHave 30 = .ok (.iaload, 1) := by decide +kernel
theorem dX0_someHave_31 : decode cX0_someHave 31 = .ok (.if_icmp .ne 7, 3) := by decide +kernel
theorem dX0_someHave_34 : decode cX0_someHave 34 = .ok (.iconst 1, 1) := by decide +kernel
theorem dX0_someHave_35 : decode cX0_someHave 35 = .ok (.goto 4, 3) := by decide +kernel
theorem dX0_someHave_38 : decode cX0_someHave 38 = .ok (.iconst 0, 1) := by decide +kernel
theorem dX0_someHave_39 : decode cX0_someHave 39 = .ok (.ireturn, 1) := by decide +kernel
theorem dX0_allHave_0 : decode cX0_allHave 0 = .ok (.aload_n 0, 1) := by decide +kernel
theorem dX0_allHave_1 : decode cX0_allHave 1 = .ok (.aload_n 1, 1) := by decide +kernel
theorem dX0_allHave_2 : decode cX0_allHave 2 = .ok (.iload_n 2, 1) := by decide +kernel
theorem dX0_allHave_3 : decode cX0_allHave 3 = .ok (.iload_n 3, 1) := by decide +kernel
theorem dX0_allHave_4 : decode cX0_allHave 4 = .ok (.invokevirtual 77, 3) := by decide +kernel
theorem dX0_allHave_7 : decode cX0_allHave 7 = .ok (.ifCond .eq 30, 3) := by decide +kernel
theorem dX0_allHave_10 : decode cX0_allHave 10 = .ok (.aload_n 0, 1) := by decide +kernel
theorem dX0_allHave_11 : decode cX0_allHave 11 = .ok (.getfield 29, 3) := by decide +kernel
theorem dX0_allHave_14 : decode cX0_allHave 14 = .ok (.aload_n 0, 1) := by decide +kernel
theorem dX0_allHave_15 : decode cX0_allHave 15 = .ok (.iload_n 2, 1) := by decide +kernel
theorem dX0_allHave_16 : decode cX0_allHave 16 = .ok (.iload_n 3, 1) := by decide +kernel
theorem dX0_allHave_17 : decode cX0_allHave 17 = .ok (.invokevirtual 74, 3) := by decide +kernel
theorem dX0_allHave_20 : decode cX0_allHave 20 = .ok (.iaload, 1) := by decide +kernel
theorem dX0_allHave_21 : decode cX0_allHave 21 = .ok (.aload_n 0, 1) := by decide +kernel
theorem dX0_allHave_22 : decode cX0_allHave 22 = .ok (.getfield 29, 3) := by decide +kernel
theorem dX0_allHave_25 : decode cX0_allHave 25 = .ok (.aload_n 0, 1) := by decide +kernel
theorem dX0_allHave_26 : decode cX0_allHave 26 = .ok (.getfield 19, 3) := by decide +kernel
theorem dX0_allHave_29 : decode cX0_allHave 29 = .ok (.iaload, 1) := by decide +kernel
theorem dX0_allHave_30 : decode cX0_allHave 30 = .ok (.if_icmp .ne 7, 3) := by decide +kernel
theorem dX0_allHave_33 : decode cX0_allHave 33 = .ok (.iconst 1, 1) := by decide +kernel
theorem dX0_allHave_34 : decode cX0_allHave 34 = .ok (.goto 4, 3) := by decide +kernel
theorem dX0_allHave_37 : decode cX0_allHave 37 = .ok (.iconst 0, 1) := by decide +kernel
theorem dX0_allHave_38 : decode cX0_allHave 38 = .ok (.ireturn, 1) := by decide +kernel
theorem dX0_without_0 : decode cX0_without 0 = .ok (.aload_n 0, 1) := by decide +kernel
theorem dX0_without_1 : decode cX0_without 1 = .ok (.getfield 19, 3) := by decide +kernel
theorem dX0_without_4 : decode cX0_without 4 = .ok (.iconst 1, 1) := by decide +kernel
theorem dX0_without_5 : decode cX0_without 5 = .ok (.iload_n 1, 1) := by decide +kernel
theorem dX0_without_6 : decode cX0_without 6 = .ok (.ishl, 1) := by decide +kernel
theorem dX0_without_7 : decode cX0_without 7 = .ok (.iconst 1, 1) := by decide +kernel
theorem dX0_without_8 : decode cX0_without 8 = .ok (.iload_n 2, 1) := by decide +kernel
theorem dX0_without_9 : decode cX0_without 9 = .ok (.ishl, 1) := by decide +kernel
theorem dX0_without_10 : decode cX0_without 10 = .ok (.ior, 1) := by decide +kernel
theorem dX0_without_11 : decode cX0_without 11 = .ok (.iconst (-1), 1) := by decide +kernel
theorem dX0_without_12 : decode cX0_without 12 = .ok (.ixor, 1) := by decide +kernel
theorem dX0_without_13 : decode cX0_without 13 = .ok (.iand, 1) := by decide +kernel
theorem dX0_without_14 : decode cX0_without 14 = .ok (.ireturn, 1) := by decide +kernel
theorem dX0_bitsOfSet_0 : decode cX0_bitsOfSet 0 = .ok (.iconst 0, 1) := by decide +kernel
theorem dX0_bitsOfSet_1 : decode cX0_bitsOfSet 1 = .ok (.istore_n 3, 1) := by decide +kernel
theorem dX0_bitsOfSet_2 : decode cX0_bitsOfSet 2 = .ok (.iconst 0, 1) := by decide +kernel
theorem dX0_bitsOfSet_3 : decode cX0_bitsOfSet 3 = .ok (.istore 4, 2) := by decide +kernel
theorem dX0_bitsOfSet_5 : decode cX0_bitsOfSet 5 = .ok (.iload 4, 2) := by decide +kernel
theorem dX0_bitsOfSet_7 : decode cX0_bitsOfSet 7 = .ok (.aload_n 0, 1) := by decide +kernel
theorem dX0_bitsOfSet_8 : decode cX0_bitsOfSet 8 = .ok (.getfield 23, 3) := by decide +kernel
theorem dX0_bitsOfSet_11 : decode cX0_bitsOfSet 11 = .ok (.if_icmp .ge 44, 3) := by decide +kernel
theorem dX0_bitsOfSet_14 : decode cX0_bitsOfSet 14 = .ok (.aload_n 0, 1) := by decide +kernel
theorem dX0_bitsOfSet_15 : decode cX0_bitsOfSet 15 = .ok (.getfield 26, 3) := by decide +kernel
theorem dX0_bitsOfSet_18 : decode cX0_bitsOfSet 18 = .ok (.aload_n 0, 1) := by decide +kernel
theorem dX0_bitsOfSet_19 : decode cX0_bitsOfSet 19 = .ok (.getfield 19, 3) := by decide +kernel
theorem dX0_bitsOfSet_22 : decode cX0_bitsOfSet 22 = .ok (.iconst 1, 1) := by decide +kernel
theorem dX0_bitsOfSet_23 : decode cX0_bitsOfSet 23 = .ok (.iload 4, 2) := by decide +kernel
theorem dX0_bitsOfSet_25 : decode cX0_bitsOfSet 25 = .ok (.ishl, 1) := by decide +kernel
theorem dX0_bitsOfSet_26 : decode cX0_bitsOfSet 26 = .ok (.iconst (-1), 1) := by decide +kernel
theorem dX0_bitsOfSet_27 : decode cX0_bitsOfSet 27 = .ok (.ixor, 1) := by decide +kernel
theorem dX0_bitsOfSet_28 : decode cX0_bitsOfSet 28 = .ok (.iand, 1) := by decide +kernel
theorem dX0_bitsOfSet_29 : decode cX0_bitsOfSet 29 = .ok (.iaload, 1) := by decide +kernel
theorem dX0_bitsOfSet_30 : decode cX0_bitsOfSet 30 = .ok (.aload_n 0, 1) := by decide +kernel
theorem dX0_bitsOfSet_31 : decode cX0_bitsOfSet 31 = .ok (.getfield 26, 3) := by decide +kernel
theorem dX0_bitsOfSet_34 : decode cX0_bitsOfSet 34 = .ok (.aload_n 0, 1) := by decide +kernel
theorem dX0_bitsOfSet_35 : decode cX0_bitsOfSet 35 = .ok (.getfield 19, 3) := by decide +kernel
theorem dX0_bitsOfSet_38 : decode cX0_bitsOfSet 38 = .ok (.iaload, 1) := by decide +kernel
theorem dX0_bitsOfSet_39 : decode cX0_bitsOfSet 39 = .ok (.if_icmp .ne 10, 3) := by decide +kernel
theorem dX0_bitsOfSet_42 : decode cX0_bitsOfSet 42 = .ok (.iload_n 3, 1) := by decide +kernel
theorem dX0_bitsOfSet_43 : decode cX0_bitsOfSet 43 = .ok (.iconst 1, 1) := by decide +kernel
theorem dX0_bitsOfSet_44 : decode cX0_bitsOfSet 44 = .ok (.iload 4, 2) := by decide +kernel
theorem dX0_bitsOfSet_46 : decode cX0_bitsOfSet 46 = .ok (.ishl, 1) := by decide +kernel
theorem dX0_bitsOfSet_47 : decode cX0_bitsOfSet 47 = .ok (.ior, 1) := by decide +kernel
theorem dX0_bitsOfSet_48 : decode cX0_bitsOfSet 48 = .ok (.istore_n 3, 1) := by decide +kernel
theorem dX0_bitsOfSet_49 : decode cX0_bitsOfSet 49 = .ok (.iinc 4 1, 3) := by decide +kernel
theorem dX0_bitsOfSet_52 : decode cX0_bitsOfSet 52 = .ok (.goto (-47), 3) := by decide +kernel
theorem dX0_bitsOfSet_55 : decode cX0_bitsOfSet 55 = .ok (.iconst 0, 1) := by decide +kernel
theorem dX0_bitsOfSet_56 : decode cX0_bitsOfSet 56 = .ok (.istore 4, 2) := by decide +kernel
theorem dX0_bitsOfSet_58 : decode cX0_bitsOfSet 58 = .ok (.iconst 0, 1) := by decide +kernel
theorem dX0_bitsOfSet_59 : decode cX0_bitsOfSet 59 = .ok (.istore 5, 2) := by decide +kernel
theorem dX0_bitsOfSet_61 : decode cX0_bitsOfSet 61 = .ok (.iload 5, 2) := by decide +kernel
theorem dX0_bitsOfSet_63 : decode cX0_bitsOfSet 63 = .ok (.aload_n 0, 1) := by decide +kernel
theorem dX0_bitsOfSet_64 : decode cX0_bitsOfSet 64 = .ok (.getfield 23, 3) := by decide +kernel
theorem dX0_bitsOfSet_67 : decode cX0_bitsOfSet 67 = .ok (.if_icmp .ge 39, 3) := by decide +kernel
theorem dX0_bitsOfSet_70 : decode cX0_bitsOfSet 70 = .ok (.iload_n 3, 1) := by decide +kernel
theorem dX0_bitsOfSet_71 : decode cX0_bitsOfSet 71 = .ok (.iload 5, 2) := by decide +kernel
theorem dX0_bitsOfSet_73 : decode cX0_bitsOfSet 73 = .ok (.invokestatic 51, 3) := by decide +kernel
theorem dX0_bitsOfSet_76 : decode cX0_bitsOfSet 76 = .ok (.ifCond .ne 24, 3) := by decide +kernel
theorem dX0_bitsOfSet_79 : decode cX0_bitsOfSet 79 = .ok (.aload_n 1, 1) := by decide +kernel
theorem dX0_bitsOfSet_80 : decode cX0_bitsOfSet 80 = .ok (.getfield 48, 3) := by decide +kernel
theorem dX0_bitsOfSet_83 : decode cX0_bitsOfSet 83 = .ok (.iload 5, 2) := by decide +kernel
theorem dX0_bitsOfSet_85 : decode cX0_bitsOfSet 85 = .ok (.iaload, 1) := by decide +kernel
theorem dX0_bitsOfSet_86 : decode cX0_bitsOfSet 86 = .ok (.iload_n 3, 1) := by decide +kernel
theorem dX0_bitsOfSet_87 : decode cX0_bitsOfSet 87 = .ok (.iand, 1) := by decide +kernel
theorem dX0_bitsOfSet_88 : decode cX0_bitsOfSet 88 = .ok (.ifCond .eq 12, 3) := by decide +kernel
theorem dX0_bitsOfSet_91 : decode cX0_bitsOfSet 91 = .ok (.iload 4, 2) := by decide +kernel
theorem dX0_bitsOfSet_93 : decode cX0_bitsOfSet 93 = .ok (.iconst 1, 1) := by decide +kernel
theorem dX0_bitsOfSet_94 : decode cX0_bitsOfSet 94 = .ok (.iload 5, 2) := by decide +kernel
theorem dX0_bitsOfSet_96 : decode cX0_bitsOfSet 96 = .ok (.ishl, 1) := by decide +kernel
theorem dX0_bitsOfSet_97 : decode cX0_bitsOfSet 97 = .ok (.ior, 1) := by decide +kernel
theorem dX0_bitsOfSet_98 : decode cX0_bitsOfSet 98 = .ok (.istore 4, 2) := by decide +kernel
theorem dX0_bitsOfSet_100 : decode cX0_bitsOfSet 100 = .ok (.iinc 5 1, 3) := by decide +kernel
theorem dX0_bitsOfSet_103 : decode cX0_bitsOfSet 103 = .ok (.goto (-42), 3) := by decide +kernel
theorem dX0_bitsOfSet_106 : decode cX0_bitsOfSet 106 = .ok (.iload_n 2, 1) := by decide +kernel
theorem dX0_bitsOfSet_107 : decode cX0_bitsOfSet 107 = .ok (.ifCond .ne 5, 3) := by decide +kernel
theorem dX0_bitsOfSet_110 : decode cX0_bitsOfSet 110 = .ok (.iload_n 3, 1) := by decide +kernel
theorem dX0_bitsOfSet_111 : decode cX0_bitsOfSet 111 = .ok (.ireturn, 1) := by decide +kernel
theorem dX0_bitsOfSet_112 : decode cX0_bitsOfSet 112 = .ok (.iload_n 2, 1) := by decide +kernel
theorem dX0_bitsOfSet_113 : decode cX0_bitsOfSet 113 = .ok (.iconst 1, 1) := by decide +kernel
theorem dX0_bitsOfSet_114 : decode cX0_bitsOfSet 114 = .ok (.if_icmp .ne 8, 3) := by decide +kernel
theorem dX0_bitsOfSet_117 : decode cX0_bitsOfSet 117 = .ok (.iload 4, 2) := by decide +kernel
theorem dX0_bitsOfSet_119 : decode cX0_bitsOfSet 119 = .ok (.goto 16, 3) := by decide +kernel
theorem dX0_bitsOfSet_122 : decode cX0_bitsOfSet 122 = .ok (.aload_n 0, 1) := by decide +kernel
theorem dX0_bitsOfSet_123 : decode cX0_bitsOfSet 123 = .ok (.getfield 19, 3) := by decide +kernel
theorem dX0_bitsOfSet_126 : decode cX0_bitsOfSet 126 = .ok (.iload_n 3, 1) := by decide +kernel
theorem dX0_bitsOfSet_127 : decode cX0_bitsOfSet 127 = .ok (.iconst (-1), 1) := by decide +kernel
theorem dX0_bitsOfSet_128 : decode cX0_bitsOfSet 128 = .ok (.ixor, 1) := by decide +kernel
theorem dX0_bitsOfSet_129 : decode cX0_bitsOfSet 129 = .ok (.iand, 1) := by decide +kernel
theorem dX0_bitsOfSet_130 : decode cX0_bitsOfSet 130 = .ok (.iload 4, 2) := by decide +kernel
theorem dX0_bitsOfSet_132 : decode cX0_bitsOfSet 132 = .ok (.iconst (-1), 1) := by decide +kernel
theorem dX0_bitsOfSet_133 : decode cX0_bitsOfSet 133 = .ok (.ixor, 1) := by decide +kernel
theorem dX0_bitsOfSet_134 : decode cX0_bitsOfSet 134 = .ok (.iand, 1) := by decide +kernel
theorem dX0_bitsOfSet_135 : decode cX0_bitsOfSet 135 = .ok (.ireturn, 1) := by decide +kernel
theorem dX0_fillFirst_0 : decode cX0_fillFirst 0 = .ok (.aload_n 0, 1) := by decide +kernel
theorem dX0_fillFirst_1 : decode cX0_fillFirst 1 = .ok (.aload_n 1, 1) := by decide +kernel
theorem dX0_fillFirst_2 : decode cX0_fillFirst 2 = .ok (.invokevirtual 81, 3) := by decide +kernel
theorem dX0_fillFirst_5 : decode cX0_fillFirst 5 = .ok (.aload_n 0, 1) := by decide +kernel
theorem dX0_fillFirst_6 : decode cX0_fillFirst 6 = .ok (.getfield 15, 3) := by decide +kernel
theorem dX0_fillFirst_9 : decode cX0_fillFirst 9 = .ok (.iconst (-1), 1) := by decide +kernel
theorem dX0_fillFirst_10 : decode cX0_fillFirst 10 = .ok (.invokestatic 85, 3) := by decide +kernel
theorem dX0_fillFirst_13 : decode cX0_fillFirst 13 = .ok (.aload_n 0, 1) := by decide +kernel
theorem dX0_fillFirst_14 : decode cX0_fillFirst 14 = .ok (.getfield 19, 3) := by decide +kernel
theorem dX0_fillFirst_17 : decode cX0_fillFirst 17 = .ok (.istore_n 2, 1) := by decide +kernel
theorem dX0_fillFirst_18 : decode cX0_fillFirst 18 = .ok (.iconst 0, 1) := by decide +kernel
theorem dX0_fillFirst_19 : decode cX0_fillFirst 19 = .ok (.istore_n 3, 1) := by decide +kernel
theorem dX0_fillFirst_20 : decode cX0_fillFirst 20 = .ok (.iload_n 3, 1) := by decide +kernel
theorem dX0_fillFirst_21 : decode cX0_fillFirst 21 = .ok (.aload_n 0, 1) := by decide +kernel
theorem dX0_fillFirst_22 : decode cX0_fillFirst 22 = .ok (.getfield 23, 3) := by decide +kernel
theorem dX0_fillFirst_25 : decode cX0_fillFirst 25 = .ok (.if_icmp .ge 68, 3) := by decide +kernel
theorem dX0_fillFirst_28 : decode cX0_fillFirst 28 = .ok (.iload_n 2, 1) := by decide +kernel
theorem dX0_fillFirst_29 : decode cX0_fillFirst 29 = .ok (.iload_n 3, 1) := by decide +kernel
theorem dX0_fillFirst_30 : decode cX0_fillFirst 30 = .ok (.invokestatic 51, 3) := by decide +kernel
theorem dX0_fillFirst_33 : decode cX0_fillFirst 33 = .ok (.ifCond .ne 6, 3) := by decide +kernel
theorem dX0_fillFirst_36 : decode cX0_fillFirst 36 = .ok (.goto 51, 3) := by decide +kernel
theorem dX0_fillFirst_39 : decode cX0_fillFirst 39 = .ok (.aload_n 0, 1) := by decide +kernel
theorem dX0_fillFirst_40 : decode cX0_fillFirst 40 = .ok (.aload_n 1, 1) := by decide +kernel
theorem dX0_fillFirst_41 : decode cX0_fillFirst 41 = .ok (.iload_n 3, 1) := by decide +kernel
theorem dX0_fillFirst_42 : decode cX0_fillFirst 42 = .ok (.iload_n 2, 1) := by decide +kernel
theorem dX0_fillFirst_43 : decode cX0_fillFirst 43 = .ok (.invokevirtual 91, 3) := by decide +kernel
theorem dX0_fillFirst_46 : decode cX0_fillFirst 46 = .ok (.istore 4, 2) := by decide +kernel
theorem dX0_fillFirst_48 : decode cX0_fillFirst 48 = .ok (.iload_n 2, 1) := by decide +kernel
theorem dX0_fillFirst_49 : decode cX0_fillFirst 49 = .ok (.iconst 1, 1) := by decide +kernel
theorem dX0_fillFirst_50 : decode cX0_fillFirst 50 = .ok (.iload_n 3, 1) := by decide +kernel
theorem dX0_fillFirst_51 : decode cX0_fillFirst 51 = .ok (.ishl, 1) := by decide +kernel
theorem dX0_fillFirst_52 : decode cX0_fillFirst 52 = .ok (.iconst (-1), 1) := by decide +kernel
theorem dX0_fillFirst_53 : decode cX0_fillFirst 53 = .ok (.ixor, 1) := by decide +kernel
theorem dX0_fillFirst_54 : decode cX0_fillFirst 54 = .ok (.iand, 1) := by decide +kernel
theorem dX0_fillFirst_55 : decode cX0_fillFirst 55 = .ok (.istore_n 2, 1) := by decide +kernel
theorem dX0_fillFirst_56 : decode cX0_fillFirst 56 = .ok (.iload 4, 2) := by decide +kernel
theorem dX0_fillFirst_58 : decode cX0_fillFirst 58 = .ok (.iconst (-1), 1) := by decide +kernel
theorem dX0_fillFirst_59 : decode cX0_fillFirst 59 = .ok (.if_icmp .eq 28, 3) := by decide +kernel
theorem dX0_fillFirst_62 : decode cX0_fillFirst 62 = .ok (.aload_n 0, 1) := by decide +kernel
theorem dX0_fillFirst_63 : decode cX0_fillFirst 63 = .ok (.getfield 15, 3) := by decide +kernel
theorem dX0_fillFirst_66 : decode cX0_fillFirst 66 = .ok (.iload_n 3, 1) := by decide +kernel
theorem dX0_fillFirst_67 : decode cX0_fillFirst 67 = .ok (.iload 4, 2) := by decide +kernel
theorem dX0_fillFirst_69 : decode cX0_fillFirst 69 = .ok (.iastore, 1) := by decide +kernel
theorem dX0_fillFirst_70 : decode cX0_fillFirst 70 = .ok (.aload_n 0, 1) := by decide +kernel
theorem dX0_fillFirst_71 : decode cX0_fillFirst 71 = .ok (.getfield 15, 3) := by decide +kernel
theorem dX0_fillFirst_74 : decode cX0_fillFirst 74 = .ok (.iload 4, 2) := by decide +kernel
theorem dX0_fillFirst_76 : decode cX0_fillFirst 76 = .ok (.iload_n 3, 1) := by decide +kernel
theorem dX0_fillFirst_77 : decode cX0_fillFirst 77 = .ok (.iastore, 1) := by decide +kernel
theorem dX0_fillFirst_78 : decode cX0_fillFirst 78 = .ok (.iload_n 2, 1) := by decide +kernel
theorem dX0_fillFirst_79 : decode cX0_fillFirst 79 = .ok (.iconst 1, 1) := by decide +kernel
theorem dX0_fillFirst_80 : decode cX0_fillFirst 80 = .ok (.iload 4, 2) := by decide +kernel
theorem dX0_fillFirst_82 : decode cX0_fillFirst 82 = .ok (.ishl, 1) := by decide +kernel
theorem dX0_fillFirst_83 : decode cX0_fillFirst 83 = .ok (.iconst (-1), 1) := by decide +kernel
theorem dX0_fillFirst_84 : decode cX0_fillFirst 84 = .ok (.ixor, 1) := by decide +kernel
theorem dX0_fillFirst_85 : decode cX0_fillFirst 85 = .ok (.iand, 1) := by decide +kernel
theorem dX0_fillFirst_86 : decode cX0_fillFirst 86 = .ok (.istore_n 2, 1) := by decide +kernel
theorem dX0_fillFirst_87 : decode cX0_fillFirst 87 = .ok (.iinc 3 1, 3) := by decide +kernel
theorem dX0_fillFirst_90 : decode cX0_fillFirst 90 = .ok (.goto (-70), 3) := by decide +kernel
theorem dX0_fillFirst_93 : decode cX0_fillFirst 93 = .ok (.return_, 1) := by decide +kernel
theorem dX0_firstMate_0 : decode cX0_firstMate 0 = .ok (.iload_n 2, 1) := by decide +kernel
theorem dX0_firstMate_1 : decode cX0_firstMate 1 = .ok (.iconst 1, 1) := by decide +kernel
theorem dX0_firstMate_2 : decode cX0_firstMate 2 = .ok (.iadd, 1) := by decide +kernel
theorem dX0_firstMate_3 : decode cX0_firstMate 3 = .ok (.istore 4, 2) := by decide +kernel
theorem dX0_firstMate_5 : decode cX0_firstMate 5 = .ok (.iload 4, 2) := by decide +kernel
theorem dX0_firstMate_7 : decode cX0_firstMate 7 = .ok (.aload_n 0, 1) := by decide +kernel
theorem dX0_firstMate_8 : decode cX0_firstMate 8 = .ok (.getfield 23, 3) := by decide +kernel
theorem dX0_firstMate_11 : decode cX0_firstMate 11 = .ok (.if_icmp .ge 59, 3) := by decide +kernel
theorem dX0_firstMate_14 : decode cX0_firstMate 14 = .ok (.iload_n 3, 1) := by decide +kernel
theorem dX0_firstMate_15 : decode cX0_firstMate 15 = .ok (.iload 4, 2) := by decide +kernel
theorem dX0_firstMate_17 : decode cX0_firstMate 17 = .ok (.invokestatic 51, 3) := by decide +kernel
theorem dX0_firstMate_20 : decode cX0_firstMate 20 = .ok (.ifCond .eq 44, 3) := by decide +kernel
theorem dX0_firstMate_23 : decode cX0_firstMate 23 = .ok (.aload_n 1, 1) := by decide +kernel
theorem dX0_firstMate_24 : decode cX0_firstMate 24 = .ok (.iload_n 2, 1) := by decide +kernel
theorem dX0_firstMate_25 : decode cX0_firstMate 25 = .ok (.iload 4, 2) := by decide +kernel
theorem dX0_firstMate_27 : decode cX0_firstMate 27 = .ok (.invokevirtual 71, 3) := by decide +kernel
theorem dX0_firstMate_30 : decode cX0_firstMate 30 = .ok (.ifCond .eq 34, 3) := by decide +kernel
theorem dX0_firstMate_33 : decode cX0_firstMate 33 = .ok (.aload_n 0, 1) := by decide +kernel
theorem dX0_firstMate_34 : decode cX0_firstMate 34 = .ok (.getfield 26, 3) := by decide +kernel
theorem dX0_firstMate_37 : decode cX0_firstMate 37 = .ok (.iload_n 3, 1) := by decide +kernel
theorem dX0_firstMate_38 : decode cX0_firstMate 38 = .ok (.iconst 1, 1) := by decide +kernel
theorem dX0_firstMate_39 : decode cX0_firstMate 39 = .ok (.iload_n 2, 1) := by decide +kernel
theorem dX0_firstMate_40 : decode cX0_firstMate 40 = .ok (.ishl, 1) := by decide +kernel
theorem dX0_firstMate_41 : decode cX0_firstMate 41 = .ok (.iconst 1, 1) := by decide +kernel
theorem dX0_firstMate_42 : decode cX0_firstMate 42 = .ok (.iload 4, 2) := by decide +kernel
theorem dX0_firstMate_44 : decode cX0_firstMate 44 = .ok (.ishl, 1) := by decide +kernel
theorem dX0_firstMate_45 : decode cX0_firstMate 45 = .ok (.ior, 1) := by decide +kernel
theorem dX0_firstMate_46 : decode cX0_firstMate 46 = .ok (.iconst (-1), 1) := by decide +kernel
theorem dX0_firstMate_47 : decode cX0_firstMate 47 = .ok (.ixor, 1) := by decide +kernel
theorem dX0_firstMate_48 : decode cX0_firstMate 48 = .ok (.iand, 1) := by decide +kernel
theorem dX0_firstMate_49 : decode cX0_firstMate 49 = .ok (.iaload, 1) := by decide +kernel
theorem dX0_firstMate_50 : decode cX0_firstMate 50 = .ok (.iconst 1, 1) := by decide +kernel
theorem dX0_firstMate_51 : decode cX0_firstMate 51 = .ok (.iadd, 1) := by decide +kernel
theorem dX0_firstMate_52 : decode cX0_firstMate 52 = .ok (.aload_n 0, 1) := by decide +kernel
theorem dX0_firstMate_53 : decode cX0_firstMate 53 = .ok (.getfield 26, 3) := by decide +kernel
theorem dX0_firstMate_56 : decode cX0_firstMate 56 = .ok (.iload_n 3, 1) := by decide +kernel
theorem dX0_firstMate_57 : decode cX0_firstMate 57 = .ok (.iaload, 1) := by decide +kernel
theorem dX0_firstMate_58 : decode cX0_firstMate 58 = .ok (.if_icmp .ne 6, 3) := by decide +kernel
theorem dX0_firstMate_61 : decode cX0_firstMate 61 = .ok (.iload 4, 2) := by decide +kernel
theorem dX0_firstMate_63 : decode cX0_firstMate 63 = .ok (.ireturn, 1) := by decide +kernel
theorem dX0_firstMate_64 : decode cX0_firstMate 64 = .ok (.iinc 4 1, 3) := by decide +kernel
theorem dX0_firstMate_67 : decode cX0_firstMate 67 = .ok (.goto (-62), 3) := by decide +kernel
theorem dX0_firstMate_70 : decode cX0_firstMate 70 = .ok (.iconst (-1), 1) := by decide +kernel
theorem dX0_firstMate_71 : decode cX0_firstMate 71 = .ok (.ireturn, 1) := by decide +kernel
theorem dX1_init_0 : decode cX1_init 0 = .ok (.aload_n 0, 1) := by decide +kernel
theorem dX1_init_1 : decode cX1_init 1 = .ok (.invokespecial 3, 3) := by decide +kernel
theorem dX1_init_4 : decode cX1_init 4 = .ok (.aload_n 0, 1) := by decide +kernel
theorem dX1_init_5 : decode cX1_init 5 = .ok (.sipush 144, 3) := by decide +kernel
theorem dX1_init_8 : decode cX1_init 8 = .ok (.newarray .int, 2) := by decide +kernel
theorem dX1_init_10 : decode cX1_init 10 = .ok (.putfield 9, 3) := by decide +kernel
theorem dX1_init_13 : decode cX1_init 13 = .ok (.aload_n 0, 1) := by decide +kernel
theorem dX1_init_14 : decode cX1_init 14 = .ok (.bipush 12, 2) := by decide +kernel
theorem dX1_init_16 : decode cX1_init 16 = .ok (.newarray .int, 2) := by decide +kernel
theorem dX1_init_18 : decode cX1_init 18 = .ok (.putfield 15, 3) := by decide +kernel
theorem dX1_init_21 : decode cX1_init 21 = .ok (.aload_n 0, 1) := by decide +kernel
theorem dX1_init_22 : decode cX1_init 22 = .ok (.bipush 12, 2) := by decide +kernel
theorem dX1_init_24 : decode cX1_init 24 = .ok (.newarray .int, 2) := by decide +kernel
theorem dX1_init_26 : decode cX1_init 26 = .ok (.putfield 18, 3) := by decide +kernel
theorem dX1_init_29 : decode cX1_init 29 = .ok (.aload_n 0, 1) := by decide +kernel
theorem dX1_init_30 : decode cX1_init 30 = .ok (.iconst 1, 1) := by decide +kernel
theorem dX1_init_31 : decode cX1_init 31 = .ok (.invokevirtual 21, 3) := by decide +kernel
theorem dX1_init_34 : decode cX1_init 34 = .ok (.return_, 1) := by decide +kernel
theorem dX1_clear_0 : decode cX1_clear 0 = .ok (.aload_n 0, 1) := by decide +kernel
theorem dX1_clear_1 : decode cX1_clear 1 = .ok (.iload_n 1, 1) := by decide +kernel
theorem dX1_clear_2 : decode cX1_clear 2 = .ok (.putfield 25, 3) := by decide +kernel
theorem dX1_clear_5 : decode cX1_clear 5 = .ok (.aload_n 0, 1) := by decide +kernel
theorem dX1_clear_6 : decode cX1_clear 6 = .ok (.iconst 0, 1) := by decide +kernel
theorem dX1_clear_7 : decode cX1_clear 7 = .ok (.putfield 29, 3) := by decide +kernel
theorem dX1_clear_10 : decode cX1_clear 10 = .ok (.aload_n 0, 1) := by decide +kernel
theorem dX1_clear_11 : decode cX1_clear 11 = .ok (.getfield 9, 3) := by decide +kernel
theorem dX1_clear_14 : decode cX1_clear 14 = .ok (.iconst (-1), 1) := by decide +kernel
theorem dX1_clear_15 : decode cX1_clear 15 = .ok (.invokestatic 32, 3) := by decide +kernel
theorem dX1_clear_18 : decode cX1_clear 18 = .ok (.aload_n 0, 1) := by decide +kernel
theorem dX1_clear_19 : decode cX1_clear 19 = .ok (.getfield 15, 3) := by decide +kernel
theorem dX1_clear_22 : decode cX1_clear 22 = .ok (.iconst 0, 1) := by decide +kernel
theorem dX1_clear_23 : decode cX1_clear 23 = .ok (.invokestatic 32, 3) := by decide +kernel
theorem dX1_clear_26 : decode cX1_clear 26 = .ok (.aload_n 0, 1) := by decide +kernel
theorem dX1_clear_27 : decode cX1_clear 27 = .ok (.getfield 18, 3) := by decide +kernel
theorem dX1_clear_30 : decode cX1_clear 30 = .ok (.iconst (-1), 1) := by decide +kernel
theorem dX1_clear_31 : decode cX1_clear 31 = .ok (.invokestatic 32, 3) := by decide +kernel
theorem dX1_clear_34 : decode cX1_clear 34 = .ok (.return_, 1) := by decide +kernel
theorem dX1_copyFrom_0 : decode cX1_copyFrom 0 = .ok (.aload_n 0, 1) := by decide +kernel
theorem dX1_copyFrom_1 : decode cX1_copyFrom 1 = .ok (.aload_n 1, 1) := by decide +kernel
theorem dX1_copyFrom_2 : decode cX1_copyFrom 2 = .ok (.getfield 25, 3) := by decide +kernel
theorem dX1_copyFrom_5 : decode cX1_copyFrom 5 = .ok (.putfield 25, 3) := by decide +kernel
theorem dX1_copyFrom_8 : decode cX1_copyFrom 8 = .ok (.aload_n 0, 1) := by decide +kernel
theorem dX1_copyFrom_9 : decode cX1_copyFrom 9 = .ok (.aload_n 1, 1) := by decide +kernel
theorem dX1_copyFrom_10 : decode cX1_copyFrom 10 = .ok (.getfield 29, 3) := by decide +kernel
theorem dX1_copyFrom_13 : decode cX1_copyFrom 13 = .ok (.putfield 29, 3) := by decide +kernel
theorem dX1_copyFrom_16 : decode cX1_copyFrom 16 = .ok (.aload_n 1, 1) := by decide +kernel
theorem dX1_copyFrom_17 : decode cX1_copyFrom 17 = .ok (.getfield 9, 3) := by decide +kernel
theorem dX1_copyFrom_20 : decode cX1_copyFrom 20 = .ok (.iconst 0, 1) := by decide +kernel
theorem dX1_copyFrom_21 : decode cX1_copyFrom 21 = .ok (.aload_n 0, 1) := by decide +kernel
theorem dX1_copyFrom_22 : decode cX1_copyFrom 22 = .ok (.getfield 9, 3) := by decide +kernel
theorem dX1_copyFrom_25 : decode cX1_copyFrom 25 = .ok (.iconst 0, 1) := by decide +kernel
theorem dX1_copyFrom_26 : decode cX1_copyFrom 26 = .ok (.aload_n 0, 1) := by decide +kernel
theorem dX1_copyFrom_27 : decode cX1_copyFrom 27 = .ok (.getfield 9, 3) := by decide +kernel
theorem dX1_copyFrom_30 : decode cX1_copyFrom 30 = .ok (.arraylength, 1) := by decide +kernel
theorem dX1_copyFrom_31 : decode cX1_copyFrom 31 = .ok (.invokestatic 38, 3) := by decide +kernel
theorem dX1_copyFrom_34 : decode cX1_copyFrom 34 = .ok (.aload_n 1, 1) := by decide +kernel
theorem dX1_copyFrom_35 : decode cX1_copyFrom 35 = .ok (.getfield 15, 3) := by decide +kernel
theorem dX1_copyFrom_38 : decode cX1_copyFrom 38 = .ok (.iconst 0, 1) := by decide +kernel
theorem dX1_copyFrom_39 : decode cX1_copyFrom 39 = .ok (.aload_n 0, 1) := by decide +kernel
theorem dX1_copyFrom_40 : decode cX1_copyFrom 40 = .ok (.getfield 15, 3) := by decide +kernel
theorem dX1_copyFrom_43 : decode cX1_copyFrom 43 = .ok (.iconst 0, 1) := by decide +kernel
theorem dX1_copyFrom_44 : decode cX1_copyFrom 44 = .ok (.bipush 12, 2) := by decide +kernel
theorem dX1_copyFrom_46 : decode cX1_copyFrom 46 = .ok (.invokestatic 38, 3) := by decide +kernel
theorem dX1_copyFrom_49 : decode cX1_copyFrom 49 = .ok (.aload_n 1, 1) := by decide +kernel
theorem dX1_copyFrom_50 : decode cX1_copyFrom 50 = .ok (.getfield 18, 3) := by decide +kernel
theorem dX1_copyFrom_53 : decode cX1_copyFrom 53 = .ok (.iconst 0, 1) := by decide +kernel
theorem dX1_copyFrom_54 : decode cX1_copyFrom 54 = .ok (.aload_n 0, 1) := by decide +kernel
theorem dX1_copyFrom_55 : decode cX1_copyFrom 55 = .ok (.getfield 18, 3) := by decide +kernel
theorem dX1_copyFrom_58 : decode cX1_copyFrom 58 = .ok (.iconst 0, 1) := by decide +kernel
theorem dX1_copyFrom_59 : decode cX1_copyFrom 59 = .ok (.bipush 12, 2) := by decide +kernel
theorem dX1_copyFrom_61 : decode cX1_copyFrom 61 = .ok (.invokestatic 38, 3) := by decide +kernel
theorem dX1_copyFrom_64 : decode cX1_copyFrom 64 = .ok (.return_, 1) := by decide +kernel
theorem dX1_all_0 : decode cX1_all 0 = .ok (.iconst 1, 1) := by decide +kernel
theorem dX1_all_1 : decode cX1_all 1 = .ok (.aload_n 0, 1) := by decide +kernel
theorem dX1_all_2 : decode cX1_all 2 = .ok (.getfield 25, 3) := by decide +kernel
theorem dX1_all_5 : decode cX1_all 5 = .ok (.ishl, 1) := by decide +kernel
theorem dX1_all_6 : decode cX1_all 6 = .ok (.iconst 1, 1) := by decide +kernel
theorem dX1_all_7 : decode cX1_all 7 = .ok (.isub, 1) := by decide +kernel
theorem dX1_all_8 : decode cX1_all 8 = .ok (.ireturn, 1) := by decide +kernel
theorem dX1_holds_0 : decode cX1_holds 0 = .ok (.iload_n 1, 1) := by decide +kernel
theorem dX1_holds_1 : decode cX1_holds 1 = .ok (.ifCond .lt 15, 3) := by decide +kernel
theorem dX1_holds_4 : decode cX1_holds 4 = .ok (.iload_n 1, 1) := by decide +kernel
theorem dX1_holds_5 : decode cX1_holds 5 = .ok (.aload_n 0, 1) := by decide +kernel
theorem dX1_holds_6 : decode cX1_holds 6 = .ok (.getfield 25, 3) := by decide +kernel
theorem dX1_holds_9 : decode cX1_holds 9 = .ok (.if_icmp .ge 7, 3) := by decide +kernel
theorem dX1_holds_12 : decode cX1_holds 12 = .ok (.iconst 1, 1) := by decide +kernel
theorem dX1_holds_13 : decode cX1_holds 13 = .ok (.goto 4, 3) := by decide +kernel
theorem dX1_holds_16 : decode cX1_holds 16 = .ok (.iconst 0, 1) := by decide +kernel
theorem dX1_holds_17 : decode cX1_holds 17 = .ok (.ireturn, 1) := by decide +kernel
theorem dX1_isLine_0 : decode cX1_isLine 0 = .ok (.aload_n 0, 1) := by decide +kernel
theorem dX1_isLine_1 : decode cX1_isLine 1 = .ok (.getfield 15, 3) := by decide +kernel
theorem dX1_isLine_4 : decode cX1_isLine 4 = .ok (.iload_n 1, 1) := by decide +kernel
theorem dX1_isLine_5 : decode cX1_isLine 5 = .ok (.iaload, 1) := by decide +kernel
theorem dX1_isLine_6 : decode cX1_isLine 6 = .ok (.iload_n 2, 1) := by decide +kernel
theorem dX1_isLine_7 : decode cX1_isLine 7 = .ok (.invokestatic 44, 3) := by decide +kernel
theorem dX1_isLine_10 : decode cX1_isLine 10 = .ok (.ireturn, 1) := by decide +kernel
theorem dX1_isFree_0 : decode cX1_isFree 0 = .ok (.aload_n 0, 1) := by decide +kernel
theorem dX1_isFree_1 : decode cX1_isFree 1 = .ok (.getfield 18, 3) := by decide +kernel
theorem dX1_isFree_4 : decode cX1_isFree 4 = .ok (.iload_n 1, 1) := by decide +kernel
theorem dX1_isFree_5 : decode cX1_isFree 5 = .ok (.iaload, 1) := by decide +kernel
theorem dX1_isFree_6 : decode cX1_isFree 6 = .ok (.iconst (-1), 1) := by decide +kernel
theorem dX1_isFree_7 : decode cX1_isFree 7 = .ok (.if_icmp .ne 7, 3) := by decide +kernel
theorem dX1_isFree_10 : decode cX1_isFree 10 = .ok (.iconst 1, 1) := by decide +kernel
theorem dX1_isFree_11 : decode cX1_isFree 11 = .ok (.goto 4, 3) := by decide +kernel
theorem dX1_isFree_14 : decode cX1_isFree 14 = .ok (.iconst 0, 1) := by decide +kernel
theorem dX1_isFree_15 : decode cX1_isFree 15 = .ok (.ireturn, 1) := by decide +kernel
theorem dX1_weightOf_0 : decode cX1_weightOf 0 = .ok (.aload_n 0, 1) := by decide +kernel
theorem dX1_weightOf_1 : decode cX1_weightOf 1 = .ok (.getfield 9, 3) := by decide +kernel
theorem dX1_weightOf_4 : decode cX1_weightOf 4 = .ok (.iload_n 1, 1) := by decide +kernel
theorem dX1_weightOf_5 : decode cX1_weightOf 5 = .ok (.bipush 12, 2) := by decide +kernel
theorem dX1_weightOf_7 : decode cX1_weightOf 7 = .ok (.imul, 1) := by decide +kernel
theorem dX1_weightOf_8 : decode cX1_weightOf 8 = .ok (.iload_n 2, 1) := by decide +kernel
theorem dX1_weightOf_9 : decode cX1_weightOf 9 = .ok (.iadd, 1) := by decide +kernel
theorem dX1_weightOf_10 : decode cX1_weightOf 10 = .ok (.iaload, 1) := by decide +kernel
theorem dX1_weightOf_11 : decode cX1_weightOf 11 = .ok (.ireturn, 1) := by decide +kernel
theorem dX1_putLine_0 : decode cX1_putLine 0 = .ok (.aload_n 0, 1) := by decide +kernel
theorem dX1_putLine_1 : decode cX1_putLine 1 = .ok (.iload_n 1, 1) := by decide +kernel
theorem dX1_putLine_2 : decode cX1_putLine 2 = .ok (.iload_n 2, 1) := by decide +kernel
theorem dX1_putLine_3 : decode cX1_putLine 3 = .ok (.invokevirtual 48, 3) := by decide +kernel
theorem dX1_putLine_6 : decode cX1_putLine 6 = .ok (.ifCond .ne 13, 3) := by decide +kernel
theorem dX1_putLine_9 : decode cX1_putLine 9 = .ok (.aload_n 0, 1) := by decide +kernel
theorem dX1_putLine_10 : decode cX1_putLine 10 = .ok (.dup, 1) := by decide +kernel
theorem dX1_putLine_11 : decode cX1_putLine 11 = .ok (.getfield 29, 3) := by decide +kernel
theorem dX1_putLine_14 : decode cX1_putLine 14 = .ok (.iconst 1, 1) := by decide +kernel
theorem dX1_putLine_15 : decode cX1_putLine 15 = .ok (.iadd, 1) := by decide +kernel
theorem dX1_putLine_16 : decode cX1_putLine 16 = .ok (.putfield 29, 3) := by decide +kernel
theorem dX1_putLine_19 : decode cX1_putLine 19 = .ok (.aload_n 0, 1) := by decide +kernel
theorem dX1_putLine_20 : decode cX1_putLine 20 = .ok (.getfield 15, 3) := by decide +kernel
theorem dX1_putLine_23 : decode cX1_putLine 23 = .ok (.iload_n 1, 1) := by decide +kernel
theorem dX1_putLine_24 : decode cX1_putLine 24 = .ok (.dup2, 1) := by decide +kernel
theorem dX1_putLine_25 : decode cX1_putLine 25 = .ok (.iaload, 1) := by decide +kernel
theorem dX1_putLine_26 : decode cX1_putLine 26 = .ok (.iconst 1, 1) := by decide +kernel
theorem dX1_putLine_27 : decode cX1_putLine 27 = .ok (.iload_n 2, 1) := by decide +kernel
theorem dX1_putLine_28 : decode cX1_putLine 28 = .ok (.ishl, 1) := by decide +kernel
theorem dX1_putLine_29 : decode cX1_putLine 29 = .ok (.ior, 1) := by decide +kernel
theorem dX1_putLine_30 : decode cX1_putLine 30 = .ok (.iastore, 1) := by decide +kernel
theorem dX1_putLine_31 : decode cX1_putLine 31 = .ok (.aload_n 0, 1) := by decide +kernel
theorem dX1_putLine_32 : decode cX1_putLine 32 = .ok (.getfield 15, 3) := by decide +kernel
theorem dX1_putLine_35 : decode cX1_putLine 35 = .ok (.iload_n 2, 1) := by decide +kernel
theorem dX1_putLine_36 : decode cX1_putLine 36 = .ok (.dup2, 1) := by decide +kernel
theorem dX1_putLine_37 : decode cX1_putLine 37 = .ok (.iaload, 1) := by decide +kernel
theorem dX1_putLine_38 : decode cX1_putLine 38 = .ok (.iconst 1, 1) := by decide +kernel
theorem dX1_putLine_39 : decode cX1_putLine 39 = .ok (.iload_n 1, 1) := by decide +kernel
theorem dX1_putLine_40 : decode cX1_putLine 40 = .ok (.ishl, 1) := by decide +kernel
theorem dX1_putLine_41 : decode cX1_putLine 41 = .ok (.ior, 1) := by decide +kernel
theorem dX1_putLine_42 : decode cX1_putLine 42 = .ok (.iastore, 1) := by decide +kernel
theorem dX1_putLine_43 : decode cX1_putLine 43 = .ok (.aload_n 0, 1) := by decide +kernel
theorem dX1_putLine_44 : decode cX1_putLine 44 = .ok (.iload_n 1, 1) := by decide +kernel
theorem dX1_putLine_45 : decode cX1_putLine 45 = .ok (.iload_n 2, 1) := by decide +kernel
theorem dX1_putLine_46 : decode cX1_putLine 46 = .ok (.iload_n 3, 1) := by decide +kernel
theorem dX1_putLine_47 : decode cX1_putLine 47 = .ok (.invokevirtual 51, 3) := by decide +kernel
theorem dX1_putLine_50 : decode cX1_putLine 50 = .ok (.return_, 1) := by decide +kernel
theorem dX1_putLineIfNone_0 : decode cX1_putLineIfNone 0 = .ok (.aload_n 0, 1) := by decide +kernel
theorem dX1_putLineIfNone_1 : decode cX1_putLineIfNone 1 = .ok (.iload_n 1, 1) := by decide +kernel
theorem dX1_putLineIfNone_2 : decode cX1_putLineIfNone 2 = .ok (.iload_n 2, 1) := by decide +kernel
theorem dX1_putLineIfNone_3 : decode cX1_putLineIfNone 3 = .ok (.invokevirtual 48, 3) := by decide +kernel
theorem dX1_putLineIfNone_6 : decode cX1_putLineIfNone 6 = .ok (.ifCond .ne 10, 3) := by decide +kernel
theorem dX1_putLineIfNone_9 : decode cX1_putLineIfNone 9 = .ok (.aload_n 0, 1) := by decide +kernel
theorem dX1_putLineIfNone_10 : decode cX1_putLineIfNone 10 = .ok (.iload_n 1, 1) := by decide +kernel
theorem dX1_putLineIfNone_11 : decode cX1_putLineIfNone 11 = .ok (.iload_n 2, 1) := by decide +kernel
theorem dX1_putLineIfNone_12 : decode cX1_putLineIfNone 12 = .ok (.iconst 1, 1) := by decide +kernel
theorem dX1_putLineIfNone_13 : decode cX1_putLineIfNone 13 = .ok (.invokevirtual 55, 3) := by decide +kernel
theorem dX1_putLineIfNone_16 : decode cX1_putLineIfNone 16 = .ok (.return_, 1) := by decide +kernel
theorem dX1_removeLine_0 : decode cX1_removeLine 0 = .ok (.aload_n 0, 1) := by decide +kernel
theorem dX1_removeLine_1 : decode cX1_removeLine 1 = .ok (.getfield 18, 3) := by decide +kernel
theorem dX1_removeLine_4 : decode cX1_removeLine 4 = .ok (.iload_n 1, 1) := by decide +kernel
theorem dX1_removeLine_5 : decode cX1_removeLine 5 = .ok (.iaload, 1) := by decide +kernel
theorem dX1_removeLine_6 : decode cX1_removeLine 6 = .ok (.iload_n 2, 1) := by decide +kernel
theorem dX1_removeLine_7 : decode cX1_removeLine 7 = .ok (.if_icmp .ne 8, 3) := by decide +kernel
theorem dX1_removeLine_10 : decode cX1_removeLine 10 = .ok (.aload_n 0, 1) := by decide +kernel
theorem dX1_removeLine_11 : decode cX1_removeLine 11 = .ok (.iload_n 1, 1) := by decide +kernel
theorem dX1_removeLine_12 : decode cX1_removeLine 12 = .ok (.invokevirtual 58, 3) := by decide +kernel
theorem dX1_removeLine_15 : decode cX1_removeLine 15 = .ok (.aload_n 0, 1) := by decide +kernel
theorem dX1_removeLine_16 : decode cX1_removeLine 16 = .ok (.iload_n 1, 1) := by decide +kernel
theorem dX1_removeLine_17 : decode cX1_removeLine 17 = .ok (.iload_n 2, 1) := by decide +kernel
theorem dX1_removeLine_18 : decode cX1_removeLine 18 = .ok (.invokevirtual 48, 3) := by decide +kernel
theorem dX1_removeLine_21 : decode cX1_removeLine 21 = .ok (.ifCond .eq 13, 3) := by decide +kernel
theorem dX1_removeLine_24 : decode cX1_removeLine 24 = .ok (.aload_n 0, 1) := by decide +kernel
theorem dX1_removeLine_25 : decode cX1_removeLine 25 = .ok (.dup, 1) := by decide +kernel
theorem dX1_removeLine_26 : decode cX1_removeLine 26 = .ok (.getfield 29, 3) := by decide +kernel
theorem dX1_removeLine_29 : decode cX1_removeLine 29 = .ok (.iconst 1, 1) := by decide +kernel
theorem dX1_removeLine_30 : decode cX1_removeLine 30 = .ok (.isub, 1) := by decide +kernel
theorem dX1_removeLine_31 : decode cX1_removeLine 31 = .ok (.putfield 29, 3) := by decide +kernel
theorem dX1_removeLine_34 : decode cX1_removeLine 34 = .ok (.aload_n 0, 1) := by decide +kernel
theorem dX1_removeLine_35 : decode cX1_removeLine 35 = .ok (.getfield 15, 3) := by decide +kernel
theorem dX1_removeLine_38 : decode cX1_removeLine 38 = .ok (.iload_n 1, 1) := by decide +kernel
theorem dX1_removeLine_39 : decode cX1_removeLine 39 = .ok (.dup2, 1) := by decide +kernel
theorem dX1_removeLine_40 : decode cX1_removeLine 40 = .ok (.iaload, 1) := by decide +kernel
theorem dX1_removeLine_41 : decode cX1_removeLine 41 = .ok (.iconst 1, 1) := by decide +kernel
theorem dX1_removeLine_42 : decode cX1_removeLine 42 = .ok (.iload_n 2, 1) := by decide +kernel
theorem dX1_removeLine_43 : decode cX1_removeLine 43 = .ok (.ishl, 1) := by decide +kernel
theorem dX1_removeLine_44 : decode cX1_removeLine 44 = .ok (.iconst (-1), 1) := by decide +kernel
theorem dX1_removeLine_45 : decode cX1_removeLine 45 = .ok (.ixor, 1) := by decide +kernel
theorem dX1_removeLine_46 : decode cX1_removeLine 46 = .ok (.iand, 1) := by decide +kernel
theorem dX1_removeLine_47 : decode cX1_removeLine 47 = .ok (.iastore, 1) := by decide +kernel
theorem dX1_removeLine_48 : decode cX1_removeLine 48 = .ok (.aload_n 0, 1) := by decide +kernel
theorem dX1_removeLine_49 : decode cX1_removeLine 49 = .ok (.getfield 15, 3) := by decide +kernel
theorem dX1_removeLine_52 : decode cX1_removeLine 52 = .ok (.iload_n 2, 1) := by decide +kernel
theorem dX1_removeLine_53 : decode cX1_removeLine 53 = .ok (.dup2, 1) := by decide +kernel
theorem dX1_removeLine_54 : decode cX1_removeLine 54 = .ok (.iaload, 1) := by decide +kernel
theorem dX1_removeLine_55 : decode cX1_removeLine 55 = .ok (.iconst 1, 1) := by decide +kernel
theorem dX1_removeLine_56 : decode cX1_removeLine 56 = .ok (.iload_n 1, 1) := by decide +kernel
theorem dX1_removeLine_57 : decode cX1_removeLine 57 = .ok (.ishl, 1) := by decide +kernel
theorem dX1_removeLine_58 : decode cX1_removeLine 58 = .ok (.iconst (-1), 1) := by decide +kernel
theorem dX1_removeLine_59 : decode cX1_removeLine 59 = .ok (.ixor, 1) := by decide +kernel
theorem dX1_removeLine_60 : decode cX1_removeLine 60 = .ok (.iand, 1) := by decide +kernel
theorem dX1_removeLine_61 : decode cX1_removeLine 61 = .ok (.iastore, 1) := by decide +kernel
theorem dX1_removeLine_62 : decode cX1_removeLine 62 = .ok (.aload_n 0, 1) := by decide +kernel
theorem dX1_removeLine_63 : decode cX1_removeLine 63 = .ok (.iload_n 1, 1) := by decide +kernel
theorem dX1_removeLine_64 : decode cX1_removeLine 64 = .ok (.iload_n 2, 1) := by decide +kernel
theorem dX1_removeLine_65 : decode cX1_removeLine 65 = .ok (.iconst (-1), 1) := by decide +kernel
theorem dX1_removeLine_66 : decode cX1_removeLine 66 = .ok (.invokevirtual 51, 3) := by decide +kernel
theorem dX1_removeLine_69 : decode cX1_removeLine 69 = .ok (.return_, 1) := by decide +kernel
theorem dX1_setWeight_0 : decode cX1_setWeight 0 = .ok (.aload_n 0, 1) := by decide +kernel
theorem dX1_setWeight_1 : decode cX1_setWeight 1 = .ok (.getfield 9, 3) := by decide +kernel
theorem dX1_setWeight_4 : decode cX1_setWeight 4 = .ok (.iload_n 1, 1) := by decide +kernel
theorem dX1_setWeight_5 : decode cX1_setWeight 5 = .ok (.bipush 12, 2) := by decide +kernel
theorem dX1_setWeight_7 : decode cX1_setWeight 7 = .ok (.imul, 1) := by decide +kernel
theorem dX1_setWeight_8 : decode cX1_setWeight 8 = .ok (.iload_n 2, 1) := by decide +kernel
theorem dX1_setWeight_9 : decode cX1_setWeight 9 = .ok (.iadd, 1) := by decide +kernel
theorem dX1_setWeight_10 : decode cX1_setWeight 10 = .ok (.iload_n 3, 1) := by decide +kernel
theorem dX1_setWeight_11 : decode cX1_setWeight 11 = .ok (.iastore, 1) := by decide +kernel
theorem dX1_setWeight_12 : decode cX1_setWeight 12 = .ok (.aload_n 0, 1) := by decide +kernel
theorem dX1_setWeight_13 : decode cX1_setWeight 13 = .ok (.getfield 9, 3) := by decide +kernel
theorem dX1_setWeight_16 : decode cX1_setWeight 16 = .ok (.iload_n 2, 1) := by decide +kernel
theorem dX1_setWeight_17 : decode cX1_setWeight 17 = .ok (.bipush 12, 2) := by decide +kernel
theorem dX1_setWeight_19 : decode cX1_setWeight 19 = .ok (.imul, 1) := by decide +kernel
theorem dX1_setWeight_20 : decode cX1_setWeight 20 = .ok (.iload_n 1, 1) := by decide +kernel
theorem dX1_setWeight_21 : decode cX1_setWeight 21 = .ok (.iadd, 1) := by decide +kernel
theorem dX1_setWeight_22 : decode cX1_setWeight 22 = .ok (.iload_n 3, 1) := by decide +kernel
theorem dX1_setWeight_23 : decode cX1_setWeight 23 = .ok (.iastore, 1) := by decide +kernel
theorem dX1_setWeight_24 : decode cX1_setWeight 24 = .ok (.return_, 1) := by decide +kernel
theorem dX1_putPair_0 : decode cX1_putPair 0 = .ok (.aload_n 0, 1) := by decide +kernel
theorem dX1_putPair_1 : decode cX1_putPair 1 = .ok (.getfield 18, 3) := by decide +kernel
theorem dX1_putPair_4 : decode cX1_putPair 4 = .ok (.iload_n 1, 1) := by decide +kernel
theorem dX1_putPair_5 : decode cX1_putPair 5 = .ok (.iload_n 2, 1) := by decide +kernel
theorem dX1_putPair_6 : decode cX1_putPair 6 = .ok (.iastore, 1) := by decide +kernel
theorem dX1_putPair_7 : decode cX1_putPair 7 = .ok (.aload_n 0, 1) := by decide +kernel
theorem dX1_putPair_8 : decode cX1_putPair 8 = .ok (.getfield 18, 3) := by decide +kernel
theorem dX1_putPair_11 : decode cX1_putPair 11 = .ok (.iload_n 2, 1) := by decide +kernel
theorem dX1_putPair_12 : decode cX1_putPair 12 = .ok (.iload_n 1, 1) := by decide +kernel
theorem dX1_putPair_13 : decode cX1_putPair 13 = .ok (.iastore, 1) := by decide +kernel
theorem dX1_putPair_14 : decode cX1_putPair 14 = .ok (.return_, 1) := by decide +kernel
theorem dX1_removePair_0 : decode cX1_removePair 0 = .ok (.aload_n 0, 1) := by decide +kernel
theorem dX1_removePair_1 : decode cX1_removePair 1 = .ok (.getfield 18, 3) := by decide +kernel
theorem dX1_removePair_4 : decode cX1_removePair 4 = .ok (.iload_n 1, 1) := by decide +kernel
theorem dX1_removePair_5 : decode cX1_removePair 5 = .ok (.iaload, 1) := by decide +kernel
theorem dX1_removePair_6 : decode cX1_removePair 6 = .ok (.istore_n 2, 1) := by decide +kernel
theorem dX1_removePair_7 : decode cX1_removePair 7 = .ok (.aload_n 0, 1) := by decide +kernel
theorem dX1_removePair_8 : decode cX1_removePair 8 = .ok (.getfield 18, 3) := by decide +kernel
theorem dX1_removePair_11 : decode cX1_removePair 11 = .ok (.iload_n 1, 1) := by decide +kernel
theorem dX1_removePair_12 : decode cX1_removePair 12 = .ok (.iconst (-1), 1) := by decide +kernel
theorem dX1_removePair_13 : decode cX1_removePair 13 = .ok (.iastore, 1) := by decide +kernel
theorem dX1_removePair_14 : decode cX1_removePair 14 = .ok (.iload_n 2, 1) := by decide +kernel
theorem dX1_removePair_15 : decode cX1_removePair 15 = .ok (.iconst (-1), 1) := by decide +kernel
theorem dX1_removePair_16 : decode cX1_removePair 16 = .ok (.if_icmp .eq 10, 3) := by decide +kernel
theorem dX1_removePair_19 : decode cX1_removePair 19 = .ok (.aload_n 0, 1) := by decide +kernel
theorem dX1_removePair_20 : decode cX1_removePair 20 = .ok (.getfield 18, 3) := by decide +kernel
theorem dX1_removePair_23 : decode cX1_removePair 23 = .ok (.iload_n 2, 1) := by decide +kernel
theorem dX1_removePair_24 : decode cX1_removePair 24 = .ok (.iconst (-1), 1) := by decide +kernel
theorem dX1_removePair_25 : decode cX1_removePair 25 = .ok (.iastore, 1) := by decide +kernel
theorem dX1_removePair_26 : decode cX1_removePair 26 = .ok (.return_, 1) := by decide +kernel
theorem dX1_countPairs_0 : decode cX1_countPairs 0 = .ok (.iconst 0, 1) := by decide +kernel
theorem dX1_countPairs_1 : decode cX1_countPairs 1 = .ok (.istore_n 1, 1) := by decide +kernel
theorem dX1_countPairs_2 : decode cX1_countPairs 2 = .ok (.iconst 0, 1) := by decide +kernel
theorem dX1_countPairs_3 : decode cX1_countPairs 3 = .ok (.istore_n 2, 1) := by decide +kernel
theorem dX1_countPairs_4 : decode cX1_countPairs 4 = .ok (.iload_n 2, 1) := by decide +kernel
theorem dX1_countPairs_5 : decode cX1_countPairs 5 = .ok (.aload_n 0, 1) := by decide +kernel
theorem dX1_countPairs_6 : decode cX1_countPairs 6 = .ok (.getfield 25, 3) := by decide +kernel
theorem dX1_countPairs_9 : decode cX1_countPairs 9 = .ok (.if_icmp .ge 22, 3) := by decide +kernel
theorem dX1_countPairs_12 : decode cX1_countPairs 12 = .ok (.aload_n 0, 1) := by decide +kernel
theorem dX1_countPairs_13 : decode cX1_countPairs 13 = .ok (.getfield 18, 3) := by decide +kernel
theorem dX1_countPairs_16 : decode cX1_countPairs 16 = .ok (.iload_n 2, 1) := by decide +kernel
theorem dX1_countPairs_17 : decode cX1_countPairs 17 = .ok (.iaload, 1) := by decide +kernel
theorem dX1_countPairs_18 : decode cX1_countPairs 18 = .ok (.iload_n 2, 1) := by decide +kernel
theorem dX1_countPairs_19 : decode cX1_countPairs 19 = .ok (.if_icmp .le 6, 3) := by decide +kernel
theorem dX1_countPairs_22 : decode cX1_countPairs 22 = .ok (.iinc 1 1, 3) := by decide +kernel
theorem dX1_countPairs_25 : decode cX1_countPairs 25 = .ok (.iinc 2 1, 3) := by decide +kernel
theorem dX1_countPairs_28 : decode cX1_countPairs 28 = .ok (.goto (-24), 3) := by decide +kernel
theorem dX1_countPairs_31 : decode cX1_countPairs 31 = .ok (.iload_n 1, 1) := by decide +kernel
theorem dX1_countPairs_32 : decode cX1_countPairs 32 = .ok (.ireturn, 1) := by decide +kernel
theorem dX1_weighPairs_0 : decode cX1_weighPairs 0 = .ok (.iconst 0, 1) := by decide +kernel
theorem dX1_weighPairs_1 : decode cX1_weighPairs 1 = .ok (.istore_n 1, 1) := by decide +kernel
theorem dX1_weighPairs_2 : decode cX1_weighPairs 2 = .ok (.iconst 0, 1) := by decide +kernel
theorem dX1_weighPairs_3 : decode cX1_weighPairs 3 = .ok (.istore_n 2, 1) := by decide +kernel
theorem dX1_weighPairs_4 : decode cX1_weighPairs 4 = .ok (.iload_n 2, 1) := by decide +kernel
theorem dX1_weighPairs_5 : decode cX1_weighPairs 5 = .ok (.aload_n 0, 1) := by decide +kernel
theorem dX1_weighPairs_6 : decode cX1_weighPairs 6 = .ok (.getfield 25, 3) := by decide +kernel
theorem dX1_weighPairs_9 : decode cX1_weighPairs 9 = .ok (.if_icmp .ge 33, 3) := by decide +kernel
theorem dX1_weighPairs_12 : decode cX1_weighPairs 12 = .ok (.aload_n 0, 1) := by decide +kernel
theorem dX1_weighPairs_13 : decode cX1_weighPairs 13 = .ok (.getfield 18, 3) := by decide +kernel
theorem dX1_weighPairs_16 : decode cX1_weighPairs 16 = .ok (.iload_n 2, 1) := by decide +kernel
theorem dX1_weighPairs_17 : decode cX1_weighPairs 17 = .ok (.iaload, 1) := by decide +kernel
theorem dX1_weighPairs_18 : decode cX1_weighPairs 18 = .ok (.iload_n 2, 1) := by decide +kernel
theorem dX1_weighPairs_19 : decode cX1_weighPairs 19 = .ok (.if_icmp .le 17, 3) := by decide +kernel
theorem dX1_weighPairs_22 : decode cX1_weighPairs 22 = .ok (.iload_n 1, 1) := by decide +kernel
theorem dX1_weighPairs_23 : decode cX1_weighPairs 23 = .ok (.aload_n 0, 1) := by decide +kernel
theorem dX1_weighPairs_24 : decode cX1_weighPairs 24 = .ok (.iload_n 2, 1) := by decide +kernel
theorem dX1_weighPairs_25 : decode cX1_weighPairs 25 = .ok (.aload_n 0, 1) := by decide +kernel
theorem dX1_weighPairs_26 : decode cX1_weighPairs 26 = .ok (.getfield 18, 3) := by decide +kernel
theorem dX1_weighPairs_29 : decode cX1_weighPairs 29 = .ok (.iload_n 2, 1) := by decide +kernel
theorem dX1_weighPairs_30 : decode cX1_weighPairs 30 = .ok (.iaload, 1) := by decide +kernel
theorem dX1_weighPairs_31 : decode cX1_weighPairs 31 = .ok (.invokevirtual 61, 3) := by decide +kernel
theorem dX1_weighPairs_34 : decode cX1_weighPairs 34 = .ok (.iadd, 1) := by decide +kernel
theorem dX1_weighPairs_35 : decode cX1_weighPairs 35 = .ok (.istore_n 1, 1) := by decide +kernel
theorem dX1_weighPairs_36 : decode cX1_weighPairs 36 = .ok (.iinc 2 1, 3) := by decide +kernel
theorem dX1_weighPairs_39 : decode cX1_weighPairs 39 = .ok (.goto (-35), 3) := by decide +kernel
theorem dX1_weighPairs_42 : decode cX1_weighPairs 42 = .ok (.iload_n 1, 1) := by decide +kernel
theorem dX1_weighPairs_43 : decode cX1_weighPairs 43 = .ok (.ireturn, 1) := by decide +kernel
theorem dX1_pairsAreLines_0 : decode cX1_pairsAreLines 0 = .ok (.iconst 0, 1) := by decide +kernel
theorem dX1_pairsAreLines_1 : decode cX1_pairsAreLines 1 = .ok (.istore_n 1, 1) := by decide +kernel
theorem dX1_pairsAreLines_2 : decode cX1_pairsAreLines 2 = .ok (.iload_n 1, 1) := by decide +kernel
theorem dX1_pairsAreLines_3 : decode cX1_pairsAreLines 3 = .ok (.aload_n 0, 1) := by decide +kernel
theorem dX1_pairsAreLines_4 : decode cX1_pairsAreLines 4 = .ok (.getfield 25, 3) := by decide +kernel
theorem dX1_pairsAreLines_7 : decode cX1_pairsAreLines 7 = .ok (.if_icmp .ge 35, 3) := by decide +kernel
theorem dX1_pairsAreLines_10 : decode cX1_pairsAreLines 10 = .ok (.aload_n 0, 1) := by decide +kernel
theorem dX1_pairsAreLines_11 : decode cX1_pairsAreLines 11 = .ok (.getfield 18, 3) := by decide +kernel
theorem dX1_pairsAreLines_14 : decode cX1_pairsAreLines 14 = .ok (.iload_n 1, 1) := by decide +kernel
theorem dX1_pairsAreLines_15 : decode cX1_pairsAreLines 15 = .ok (.iaload, 1) := by decide +kernel
theorem dX1_pairsAreLines_16 : decode cX1_pairsAreLines 16 = .ok (.iconst (-1), 1) := by decide +kernel
theorem dX1_pairsAreLines_17 : decode cX1_pairsAreLines 17 = .ok (.if_icmp .eq 19, 3) := by decide +kernel
theorem dX1_pairsAreLines_20 : decode cX1_pairsAreLines 20 = .ok (.aload_n 0, 1) := by decide +kernel
theorem dX1_pairsAreLines_21 : decode cX1_pairsAreLines 21 = .ok (.iload_n 1, 1) := by decide +kernel
theorem dX1_pairsAreLines_22 : decode cX1_pairsAreLines 22 = .ok (.aload_n 0, 1) := by decide +kernel
theorem dX1_pairsAreLines_23 : decode cX1_pairsAreLines 23 = .ok (.getfield 18, 3) := by decide +kernel
theorem dX1_pairsAreLines_26 : decode cX1_pairsAreLines 26 = .ok (.iload_n 1, 1) := by decide +kernel
theorem dX1_pairsAreLines_27 : decode cX1_pairsAreLines 27 = .ok (.iaload, 1) := by decide +kernel
theorem dX1_pairsAreLines_28 : decode cX1_pairsAreLines 28 = .ok (.invokevirtual 48, 3) := by decide +kernel
theorem dX1_pairsAreLines_31 : decode cX1_pairsAreLines 31 = .ok (.ifCond .ne 5, 3) := by decide +kernel
theorem dX1_pairsAreLines_34 : decode cX1_pairsAreLines 34 = .ok (.iconst 0, 1) := by decide +kernel
theorem dX1_pairsAreLines_35 : decode cX1_pairsAreLines 35 = .ok (.ireturn, 1) := by decide +kernel
theorem dX1_pairsAreLines_36 : decode cX1_pairsAreLines 36 = .ok (.iinc 1 1, 3) := by decide +kernel
theorem dX1_pairsAreLines_39 : decode cX1_pairsAreLines 39 = .ok (.goto (-37), 3) := by decide +kernel
theorem dX1_pairsAreLines_42 : decode cX1_pairsAreLines 42 = .ok (.iconst 1, 1) := by decide +kernel
theorem dX1_pairsAreLines_43 : decode cX1_pairsAreLines 43 = .ok (.ireturn, 1) := by decide +kernel
theorem dX2_init_0 : decode cX2_init 0 = .ok (.aload_n 0, 1) := by decide +kernel
theorem dX2_init_1 : decode cX2_init 1 = .ok (.invokespecial 3, 3) := by decide +kernel
theorem dX2_init_4 : decode cX2_init 4 = .ok (.aload_n 0, 1) := by decide +kernel
theorem dX2_init_5 : decode cX2_init 5 = .ok (.iconst 0, 1) := by decide +kernel
theorem dX2_init_6 : decode cX2_init 6 = .ok (.putfield 9, 3) := by decide +kernel
theorem dX2_init_9 : decode cX2_init 9 = .ok (.aload_n 0, 1) := by decide +kernel
theorem dX2_init_10 : decode cX2_init 10 = .ok (.iconst 0, 1) := by decide +kernel
theorem dX2_init_11 : decode cX2_init 11 = .ok (.putfield 15, 3) := by decide +kernel
theorem dX2_init_14 : decode cX2_init 14 = .ok (.aload_n 0, 1) := by decide +kernel
theorem dX2_init_15 : decode cX2_init 15 = .ok (.sipush 4096, 3) := by decide +kernel
theorem dX2_init_18 : decode cX2_init 18 = .ok (.newarray .int, 2) := by decide +kernel
theorem dX2_init_20 : decode cX2_init 20 = .ok (.putfield 19, 3) := by decide +kernel
theorem dX2_init_23 : decode cX2_init 23 = .ok (.aload_n 0, 1) := by decide +kernel
theorem dX2_init_24 : decode cX2_init 24 = .ok (.sipush 4096, 3) := by decide +kernel
theorem dX2_init_27 : decode cX2_init 27 = .ok (.newarray .int, 2) := by decide +kernel
theorem dX2_init_29 : decode cX2_init 29 = .ok (.putfield 23, 3) := by decide +kernel
theorem dX2_init_32 : decode cX2_init 32 = .ok (.return_, 1) := by decide +kernel
theorem dX2_learn_0 : decode cX2_learn 0 = .ok (.aload_n 0, 1) := by decide +kernel
theorem dX2_learn_1 : decode cX2_learn 1 = .ok (.getfield 9, 3) := by decide +kernel
theorem dX2_learn_4 : decode cX2_learn 4 = .ok (.ifCond .eq 4, 3) := by decide +kernel
theorem dX2_learn_7 : decode cX2_learn 7 = .ok (.return_, 1) := by decide +kernel
theorem dX2_learn_8 : decode cX2_learn 8 = .ok (.aload_n 0, 1) := by decide +kernel
theorem dX2_learn_9 : decode cX2_learn 9 = .ok (.iconst 1, 1) := by decide +kernel
theorem dX2_learn_10 : decode cX2_learn 10 = .ok (.putfield 9, 3) := by decide +kernel
theorem dX2_learn_13 : decode cX2_learn 13 = .ok (.aload_n 0, 1) := by decide +kernel
theorem dX2_learn_14 : decode cX2_learn 14 = .ok (.aload_n 1, 1) := by decide +kernel
theorem dX2_learn_15 : decode cX2_learn 15 = .ok (.invokevirtual 26, 3) := by decide +kernel
theorem dX2_learn_18 : decode cX2_learn 18 = .ok (.putfield 15, 3) := by decide +kernel
theorem dX2_learn_21 : decode cX2_learn 21 = .ok (.iconst 0, 1) := by decide +kernel
theorem dX2_learn_22 : decode cX2_learn 22 = .ok (.istore_n 2, 1) := by decide +kernel
theorem dX2_learn_23 : decode cX2_learn 23 = .ok (.iload_n 2, 1) := by decide +kernel
theorem dX2_learn_24 : decode cX2_learn 24 = .ok (.aload_n 1, 1) := by decide +kernel
theorem dX2_learn_25 : decode cX2_learn 25 = .ok (.getfield 31, 3) := by decide +kernel
theorem dX2_learn_28 : decode cX2_learn 28 = .ok (.if_icmp .ge 86, 3) := by decide +kernel
theorem dX2_learn_31 : decode cX2_learn 31 = .ok (.iconst 1, 1) := by decide +kernel
theorem dX2_learn_32 : decode cX2_learn 32 = .ok (.iload_n 2, 1) := by decide +kernel
theorem dX2_learn_33 : decode cX2_learn 33 = .ok (.ishl, 1) := by decide +kernel
theorem dX2_learn_34 : decode cX2_learn 34 = .ok (.istore_n 3, 1) := by decide +kernel
theorem dX2_learn_35 : decode cX2_learn 35 = .ok (.iload_n 3, 1) := by decide +kernel
theorem dX2_learn_36 : decode cX2_learn 36 = .ok (.iconst 1, 1) := by decide +kernel
theorem dX2_learn_37 : decode cX2_learn 37 = .ok (.iload_n 2, 1) := by decide +kernel
theorem dX2_learn_38 : decode cX2_learn 38 = .ok (.iconst 1, 1) := by decide +kernel
theorem dX2_learn_39 : decode cX2_learn 39 = .ok (.iadd, 1) := by decide +kernel
theorem dX2_learn_40 : decode cX2_learn 40 = .ok (.ishl, 1) := by decide +kernel
theorem dX2_learn_41 : decode cX2_learn 41 = .ok (.if_icmp .ge 67, 3) := by decide +kernel
theorem dX2_learn_44 : decode cX2_learn 44 = .ok (.aload_n 0, 1) := by decide +kernel
theorem dX2_learn_45 : decode cX2_learn 45 = .ok (.getfield 19, 3) := by decide +kernel
theorem dX2_learn_48 : decode cX2_learn 48 = .ok (.iload_n 3, 1) := by decide +kernel
theorem dX2_learn_49 : decode cX2_learn 49 = .ok (.aload_n 0, 1) := by decide +kernel
theorem dX2_learn_50 : decode cX2_learn 50 = .ok (.getfield 19, 3) := by decide +kernel
theorem dX2_learn_53 : decode cX2_learn 53 = .ok (.iload_n 3, 1) := by decide +kernel
theorem dX2_learn_54 : decode cX2_learn 54 = .ok (.iconst 1, 1) := by decide +kernel
theorem dX2_learn_55 : decode cX2_learn 55 = .ok (.iload_n 2, 1) := by decide +kernel
theorem dX2_learn_56 : decode cX2_learn 56 = .ok (.ishl, 1) := by decide +kernel
theorem dX2_learn_57 : decode cX2_learn 57 = .ok (.iconst (-1), 1) := by decide +kernel
theorem dX2_learn_58 : decode cX2_learn 58 = .ok (.ixor, 1) := by decide +kernel
theorem dX2_learn_59 : decode cX2_learn 59 = .ok (.iand, 1) := by decide +kernel
theorem dX2_learn_60 : decode cX2_learn 60 = .ok (.iaload, 1) := by decide +kernel
theorem dX2_learn_61 : decode cX2_learn 61 = .ok (.aload_n 1, 1) := by decide +kernel
theorem dX2_learn_62 : decode cX2_learn 62 = .ok (.getfield 34, 3) := by decide +kernel
theorem dX2_learn_65 : decode cX2_learn 65 = .ok (.iload_n 2, 1) := by decide +kernel
theorem dX2_learn_66 : decode cX2_learn 66 = .ok (.iaload, 1) := by decide +kernel
theorem dX2_learn_67 : decode cX2_learn 67 = .ok (.ior, 1) := by decide +kernel
theorem dX2_learn_68 : decode cX2_learn 68 = .ok (.iastore, 1) := by decide +kernel
theorem dX2_learn_69 : decode cX2_learn 69 = .ok (.aload_n 0, 1) := by decide +kernel
theorem dX2_learn_70 : decode cX2_learn 70 = .ok (.iload_n 2, 1) := by decide +kernel
theorem dX2_learn_71 : decode cX2_learn 71 = .ok (.iload_n 3, 1) := by decide +kernel
theorem dX2_learn_72 : decode cX2_learn 72 = .ok (.invokevirtual 37, 3) := by decide +kernel
theorem dX2_learn_75 : decode cX2_learn 75 = .ok (.istore 4, 2) := by decide +kernel
theorem dX2_learn_77 : decode cX2_learn 77 = .ok (.aload_n 0, 1) := by decide +kernel
theorem dX2_learn_78 : decode cX2_learn 78 = .ok (.getfield 23, 3) := by decide +kernel
theorem dX2_learn_81 : decode cX2_learn 81 = .ok (.iload_n 3, 1) := by decide +kernel
theorem dX2_learn_82 : decode cX2_learn 82 = .ok (.aload_n 0, 1) := by decide +kernel
theorem dX2_learn_83 : decode cX2_learn 83 = .ok (.getfield 23, 3) := by decide +kernel
theorem dX2_learn_86 : decode cX2_learn 86 = .ok (.iload_n 3, 1) := by decide +kernel
theorem dX2_learn_87 : decode cX2_learn 87 = .ok (.iload 4, 2) := by decide +kernel
theorem dX2_learn_89 : decode cX2_learn 89 = .ok (.iconst (-1), 1) := by decide +kernel
theorem dX2_learn_90 : decode cX2_learn 90 = .ok (.ixor, 1) := by decide +kernel
theorem dX2_learn_91 : decode cX2_learn 91 = .ok (.iand, 1) := by decide +kernel
theorem dX2_learn_92 : decode cX2_learn 92 = .ok (.iaload, 1) := by decide +kernel
theorem dX2_learn_93 : decode cX2_learn 93 = .ok (.iload 4, 2) := by decide +kernel
theorem dX2_learn_95 : decode cX2_learn 95 = .ok (.invokestatic 41, 3) := by decide +kernel
theorem dX2_learn_98 : decode cX2_learn 98 = .ok (.iconst 1, 1) := by decide +kernel
theorem dX2_learn_99 : decode cX2_learn 99 = .ok (.iand, 1) := by decide +kernel
theorem dX2_learn_100 : decode cX2_learn 100 = .ok (.iadd, 1) := by decide +kernel
theorem dX2_learn_101 : decode cX2_learn 101 = .ok (.iastore, 1) := by decide +kernel
theorem dX2_learn_102 : decode cX2_learn 102 = .ok (.iinc 3 1, 3) := by decide +kernel
theorem dX2_learn_105 : decode cX2_learn 105 = .ok (.goto (-70), 3) := by decide +kernel
theorem dX2_learn_108 : decode cX2_learn 108 = .ok (.iinc 2 1, 3) := by decide +kernel
theorem dX2_learn_111 : decode cX2_learn 111 = .ok (.goto (-88), 3) := by decide +kernel
theorem dX2_learn_114 : decode cX2_learn 114 = .ok (.return_, 1) := by decide +kernel
theorem dX2_partOf_0 : decode cX2_partOf 0 = .ok (.iconst 1, 1) := by decide +kernel
theorem dX2_partOf_1 : decode cX2_partOf 1 = .ok (.iload_n 1, 1) := by decide +kernel
theorem dX2_partOf_2 : decode cX2_partOf 2 = .ok (.ishl, 1) := by decide +kernel
theorem dX2_partOf_3 : decode cX2_partOf 3 = .ok (.istore_n 3, 1) := by decide +kernel
theorem dX2_partOf_4 : decode cX2_partOf 4 = .ok (.iconst 0, 1) := by decide +kernel
theorem dX2_partOf_5 : decode cX2_partOf 5 = .ok (.istore 4, 2) := by decide +kernel
theorem dX2_partOf_7 : decode cX2_partOf 7 = .ok (.iload 4, 2) := by decide +kernel
theorem dX2_partOf_9 : decode cX2_partOf 9 = .ok (.bipush 12, 2) := by decide +kernel
theorem dX2_partOf_11 : decode cX2_partOf 11 = .ok (.if_icmp .ge 33, 3) := by decide +kernel
theorem dX2_partOf_14 : decode cX2_partOf 14 = .ok (.iload_n 3, 1) := by decide +kernel
theorem dX2_partOf_15 : decode cX2_partOf 15 = .ok (.aload_n 0, 1) := by decide +kernel
theorem dX2_partOf_16 : decode cX2_partOf 16 = .ok (.getfield 19, 3) := by decide +kernel
theorem dX2_partOf_19 : decode cX2_partOf 19 = .ok (.iload_n 3, 1) := by decide +kernel
theorem dX2_partOf_20 : decode cX2_partOf 20 = .ok (.iaload, 1) := by decide +kernel
theorem dX2_partOf_21 : decode cX2_partOf 21 = .ok (.iload_n 2, 1) := by decide +kernel
theorem dX2_partOf_22 : decode cX2_partOf 22 = .ok (.iand, 1) := by decide +kernel
theorem dX2_partOf_23 : decode cX2_partOf 23 = .ok (.ior, 1) := by decide +kernel
theorem dX2_partOf_24 : decode cX2_partOf 24 = .ok (.istore 5, 2) := by decide +kernel
theorem dX2_partOf_26 : decode cX2_partOf 26 = .ok (.iload 5, 2) := by decide +kernel
theorem dX2_partOf_28 : decode cX2_partOf 28 = .ok (.iload_n 3, 1) := by decide +kernel
theorem dX2_partOf_29 : decode cX2_partOf 29 = .ok (.if_icmp .ne 6, 3) := by decide +kernel
theorem dX2_partOf_32 : decode cX2_partOf 32 = .ok (.goto 12, 3) := by decide +kernel
theorem dX2_partOf_35 : decode cX2_partOf 35 = .ok (.iload 5, 2) := by decide +kernel
theorem dX2_partOf_37 : decode cX2_partOf 37 = .ok (.istore_n 3, 1) := by decide +kernel
theorem dX2_partOf_38 : decode cX2_partOf 38 = .ok (.iinc 4 1, 3) := by decide +kernel
theorem dX2_partOf_41 : decode cX2_partOf 41 = .ok (.goto (-34), 3) := by decide +kernel
theorem dX2_partOf_44 : decode cX2_partOf 44 = .ok (.iload_n 3, 1) := by decide +kernel
theorem dX2_partOf_45 : decode cX2_partOf 45 = .ok (.ireturn, 1) := by decide +kernel
theorem dX2_oddWithout_0 : decode cX2_oddWithout 0 = .ok (.aload_n 0, 1) := by decide +kernel
theorem dX2_oddWithout_1 : decode cX2_oddWithout 1 = .ok (.getfield 23, 3) := by decide +kernel
theorem dX2_oddWithout_4 : decode cX2_oddWithout 4 = .ok (.aload_n 0, 1) := by decide +kernel
theorem dX2_oddWithout_5 : decode cX2_oddWithout 5 = .ok (.getfield 15, 3) := by decide +kernel
theorem dX2_oddWithout_8 : decode cX2_oddWithout 8 = .ok (.iload_n 1, 1) := by decide +kernel
theorem dX2_oddWithout_9 : decode cX2_oddWithout 9 = .ok (.iconst (-1), 1) := by decide +kernel
theorem dX2_oddWithout_10 : decode cX2_oddWithout 10 = .ok (.ixor, 1) := by decide +kernel
theorem dX2_oddWithout_11 : decode cX2_oddWithout 11 = .ok (.iand, 1) := by decide +kernel
theorem dX2_oddWithout_12 : decode cX2_oddWithout 12 = .ok (.iaload, 1) := by decide +kernel
theorem dX2_oddWithout_13 : decode cX2_oddWithout 13 = .ok (.ireturn, 1) := by decide +kernel
theorem dX2_isBarrier_0 : decode cX2_isBarrier 0 = .ok (.aload_n 0, 1) := by decide +kernel
theorem dX2_isBarrier_1 : decode cX2_isBarrier 1 = .ok (.iload_n 1, 1) := by decide +kernel
theorem dX2_isBarrier_2 : decode cX2_isBarrier 2 = .ok (.invokevirtual 47, 3) := by decide +kernel
theorem dX2_isBarrier_5 : decode cX2_isBarrier 5 = .ok (.iload_n 1, 1) := by decide +kernel
theorem dX2_isBarrier_6 : decode cX2_isBarrier 6 = .ok (.invokestatic 41, 3) := by decide +kernel
theorem dX2_isBarrier_9 : decode cX2_isBarrier 9 = .ok (.isub, 1) := by decide +kernel
theorem dX2_isBarrier_10 : decode cX2_isBarrier 10 = .ok (.iload_n 2, 1) := by decide +kernel
theorem dX2_isBarrier_11 : decode cX2_isBarrier 11 = .ok (.if_icmp .ne 7, 3) := by decide +kernel
theorem dX2_isBarrier_14 : decode cX2_isBarrier 14 = .ok (.iconst 1, 1) := by decide +kernel
theorem dX2_isBarrier_15 : decode cX2_isBarrier 15 = .ok (.goto 4, 3) := by decide +kernel
theorem dX2_isBarrier_18 : decode cX2_isBarrier 18 = .ok (.iconst 0, 1) := by decide +kernel
theorem dX2_isBarrier_19 : decode cX2_isBarrier 19 = .ok (.ireturn, 1) := by decide +kernel
theorem dX2_smallestBarrier_0 : decode cX2_smallestBarrier 0 = .ok (.iconst 0, 1) := by decide +kernel
theorem dX2_smallestBarrier_1 : decode cX2_smallestBarrier 1 = .ok (.istore_n 2, 1) := by decide +kernel
theorem dX2_smallestBarrier_2 : decode cX2_smallestBarrier 2 = .ok (.bipush 13, 2) := by decide +kernel
theorem dX2_smallestBarrier_4 : decode cX2_smallestBarrier 4 = .ok (.istore_n 3, 1) := by decide +kernel
theorem dX2_smallestBarrier_5 : decode cX2_smallestBarrier 5 = .ok (.iconst 0, 1) := by decide +kernel
theorem dX2_smallestBarrier_6 : decode cX2_smallestBarrier 6 = .ok (.istore 4, 2) := by decide +kernel
theorem dX2_smallestBarrier_8 : decode cX2_smallestBarrier 8 = .ok (.iload 4, 2) := by decide +kernel
theorem dX2_smallestBarrier_10 : decode cX2_smallestBarrier 10 = .ok (.aload_n 0, 1) := by decide +kernel
theorem dX2_smallestBarrier_11 : decode cX2_smallestBarrier 11 = .ok (.getfield 15, 3) := by decide +kernel
theorem dX2_smallestBarrier_14 : decode cX2_smallestBarrier 14 = .ok (.if_icmp .gt 38, 3) := by decide +kernel
theorem dX2_smallestBarrier_17 : decode cX2_smallestBarrier 17 = .ok (.iload 4, 2) := by decide +kernel
theorem dX2_smallestBarrier_19 : decode cX2_smallestBarrier 19 = .ok (.invokestatic 41, 3) := by decide +kernel
theorem dX2_smallestBarrier_22 : decode cX2_smallestBarrier 22 = .ok (.istore 5, 2) := by decide +kernel
theorem dX2_smallestBarrier_24 : decode cX2_smallestBarrier 24 = .ok (.iload 5, 2) := by decide +kernel
theorem dX2_smallestBarrier_26 : decode cX2_smallestBarrier 26 = .ok (.iload_n 3, 1) := by decide +kernel
theorem dX2_smallestBarrier_27 : decode cX2_smallestBarrier 27 = .ok (.if_icmp .ge 19, 3) := by decide +kernel
theorem dX2_smallestBarrier_30 : decode cX2_smallestBarrier 30 = .ok (.aload_n 0, 1) := by decide +kernel
theorem dX2_smallestBarrier_31 : decode cX2_smallestBarrier 31 = .ok (.iload 4, 2) := by decide +kernel
theorem dX2_smallestBarrier_33 : decode cX2_smallestBarrier 33 = .ok (.iload_n 1, 1) := by decide +kernel
theorem dX2_smallestBarrier_34 : decode cX2_smallestBarrier 34 = .ok (.invokevirtual 50, 3) := by decide +kernel
theorem dX2_smallestBarrier_37 : decode cX2_smallestBarrier 37 = .ok (.ifCond .eq 9, 3) := by decide +kernel
theorem dX2_smallestBarrier_40 : decode cX2_smallestBarrier 40 = .ok (.iload 4, 2) := by decide +kernel
theorem dX2_smallestBarrier_42 : decode cX2_smallestBarrier 42 = .ok (.istore_n 2, 1) := by decide +kernel
theorem dX2_smallestBarrier_43 : decode cX2_smallestBarrier 43 = .ok (.iload 5, 2) := by decide +kernel
theorem dX2_smallestBarrier_45 : decode cX2_smallestBarrier 45 = .ok (.istore_n 3, 1) := by decide +kernel
theorem dX2_smallestBarrier_46 : decode cX2_smallestBarrier 46 = .ok (.iinc 4 1, 3) := by decide +kernel
theorem dX2_smallestBarrier_49 : decode cX2_smallestBarrier 49 = .ok (.goto (-41), 3) := by decide +kernel
theorem dX2_smallestBarrier_52 : decode cX2_smallestBarrier 52 = .ok (.iload_n 2, 1) := by decide +kernel
theorem dX2_smallestBarrier_53 : decode cX2_smallestBarrier 53 = .ok (.ireturn, 1) := by decide +kernel
theorem dX2_greatestBarrier_0 : decode cX2_greatestBarrier 0 = .ok (.iconst 0, 1) := by decide +kernel
theorem dX2_greatestBarrier_1 : decode cX2_greatestBarrier 1 = .ok (.istore_n 2, 1) := by decide +kernel
theorem dX2_greatestBarrier_2 : decode cX2_greatestBarrier 2 = .ok (.iconst (-1), 1) := by decide +kernel
theorem dX2_greatestBarrier_3 : decode cX2_greatestBarrier 3 = .ok (.istore_n 3, 1) := by decide +kernel
theorem dX2_greatestBarrier_4 : decode cX2_greatestBarrier 4 = .ok (.iconst 0, 1) := by decide +kernel
theorem dX2_greatestBarrier_5 : decode cX2_greatestBarrier 5 = .ok (.istore 4, 2) := by decide +kernel
theorem dX2_greatestBarrier_7 : decode cX2_greatestBarrier 7 = .ok (.iload 4, 2) := by decide +kernel
theorem dX2_greatestBarrier_9 : decode cX2_greatestBarrier 9 = .ok (.aload_n 0, 1) := by decide +kernel
theorem dX2_greatestBarrier_10 : decode cX2_greatestBarrier 10 = .ok (.getfield 15, 3) := by decide +kernel
theorem dX2_greatestBarrier_13 : decode cX2_greatestBarrier 13 = .ok (.if_icmp .gt 38, 3) := by decide +kernel
theorem dX2_greatestBarrier_16 : decode cX2_greatestBarrier 16 = .ok (.iload 4, 2) := by decide +kernel
theorem dX2_greatestBarrier_18 : decode cX2_greatestBarrier 18 = .ok (.invokestatic 41, 3) := by decide +kernel
theorem dX2_greatestBarrier_21 : decode cX2_greatestBarrier 21 = .ok (.istore 5, 2) := by decide +kernel
theorem dX2_greatestBarrier_23 : decode cX2_greatestBarrier 23 = .ok (.iload 5, 2) := by decide +kernel
theorem dX2_greatestBarrier_25 : decode cX2_greatestBarrier 25 = .ok (.iload_n 3, 1) := by decide +kernel
theorem dX2_greatestBarrier_26 : decode cX2_greatestBarrier 26 = .ok (.if_icmp .le 19, 3) := by decide +kernel
theorem dX2_greatestBarrier_29 : decode cX2_greatestBarrier 29 = .ok (.aload_n 0, 1) := by decide +kernel
theorem dX2_greatestBarrier_30 : decode cX2_greatestBarrier 30 = .ok (.iload 4, 2) := by decide +kernel
theorem dX2_greatestBarrier_32 : decode cX2_greatestBarrier 32 = .ok (.iload_n 1, 1) := by decide +kernel
theorem dX2_greatestBarrier_33 : decode cX2_greatestBarrier 33 = .ok (.invokevirtual 50, 3) := by decide +kernel
theorem dX2_greatestBarrier_36 : decode cX2_greatestBarrier 36 = .ok (.ifCond .eq 9, 3) := by decide +kernel
theorem dX2_greatestBarrier_39 : decode cX2_greatestBarrier 39 = .ok (.iload 4, 2) := by decide +kernel
theorem dX2_greatestBarrier_41 : decode cX2_greatestBarrier 41 = .ok (.istore_n 2, 1) := by decide +kernel
theorem dX2_greatestBarrier_42 : decode cX2_greatestBarrier 42 = .ok (.iload 5, 2) := by decide +kernel
theorem dX2_greatestBarrier_44 : decode cX2_greatestBarrier 44 = .ok (.istore_n 3, 1) := by decide +kernel
theorem dX2_greatestBarrier_45 : decode cX2_greatestBarrier 45 = .ok (.iinc 4 1, 3) := by decide +kernel
theorem dX2_greatestBarrier_48 : decode cX2_greatestBarrier 48 = .ok (.goto (-41), 3) := by decide +kernel
theorem dX2_greatestBarrier_51 : decode cX2_greatestBarrier 51 = .ok (.iload_n 2, 1) := by decide +kernel
theorem dX2_greatestBarrier_52 : decode cX2_greatestBarrier 52 = .ok (.ireturn, 1) := by decide +kernel
theorem dX3_init_0 : decode cX3_init 0 = .ok (.aload_n 0, 1) := by decide +kernel
theorem dX3_init_1 : decode cX3_init 1 = .ok (.invokespecial 3, 3) := by decide +kernel
theorem dX3_init_4 : decode cX3_init 4 = .ok (.aload_n 0, 1) := by decide +kernel
theorem dX3_init_5 : decode cX3_init 5 = .ok (.bipush 12, 2) := by decide +kernel
theorem dX3_init_7 : decode cX3_init 7 = .ok (.newarray .int, 2) := by decide +kernel
theorem dX3_init_9 : decode cX3_init 9 = .ok (.putfield 9, 3) := by decide +kernel
theorem dX3_init_12 : decode cX3_init 12 = .ok (.aload_n 0, 1) := by decide +kernel
theorem dX3_init_13 : decode cX3_init 13 = .ok (.iconst 0, 1) := by decide +kernel
theorem dX3_init_14 : decode cX3_init 14 = .ok (.newarray .byte, 2) := by decide +kernel
theorem dX3_init_16 : decode cX3_init 16 = .ok (.putfield 15, 3) := by decide +kernel
theorem dX3_init_19 : decode cX3_init 19 = .ok (.return_, 1) := by decide +kernel
theorem dX3_read_0 : decode cX3_read 0 = .ok (.aload_n 0, 1) := by decide +kernel
theorem dX3_read_1 : decode cX3_read 1 = .ok (.aload_n 1, 1) := by decide +kernel
theorem dX3_read_2 : decode cX3_read 2 = .ok (.putfield 15, 3) := by decide +kernel
theorem dX3_read_5 : decode cX3_read 5 = .ok (.aload_n 0, 1) := by decide +kernel
theorem dX3_read_6 : decode cX3_read 6 = .ok (.iload_n 2, 1) := by decide +kernel
theorem dX3_read_7 : decode cX3_read 7 = .ok (.putfield 19, 3) := by decide +kernel
theorem dX3_read_10 : decode cX3_read 10 = .ok (.aload_n 0, 1) := by decide +kernel
theorem dX3_read_11 : decode cX3_read 11 = .ok (.iconst 0, 1) := by decide +kernel
theorem dX3_read_12 : decode cX3_read 12 = .ok (.putfield 23, 3) := by decide +kernel
theorem dX3_read_15 : decode cX3_read 15 = .ok (.aload_n 0, 1) := by decide +kernel
theorem dX3_read_16 : decode cX3_read 16 = .ok (.iconst 0, 1) := by decide +kernel
theorem dX3_read_17 : decode cX3_read 17 = .ok (.putfield 26, 3) := by decide +kernel
theorem dX3_read_20 : decode cX3_read 20 = .ok (.aload_n 0, 1) := by decide +kernel
theorem dX3_read_21 : decode cX3_read 21 = .ok (.iconst (-1), 1) := by decide +kernel
theorem dX3_read_22 : decode cX3_read 22 = .ok (.putfield 29, 3) := by decide +kernel
theorem dX3_read_25 : decode cX3_read 25 = .ok (.aload_n 0, 1) := by decide +kernel
theorem dX3_read_26 : decode cX3_read 26 = .ok (.iconst 0, 1) := by decide +kernel
theorem dX3_read_27 : decode cX3_read 27 = .ok (.putfield 32, 3) := by decide +kernel
theorem dX3_read_30 : decode cX3_read 30 = .ok (.aload_n 0, 1) := by decide +kernel
theorem dX3_read_31 : decode cX3_read 31 = .ok (.aload_n 3, 1) := by decide +kernel
theorem dX3_read_32 : decode cX3_read 32 = .ok (.invokevirtual 36, 3) := by decide +kernel
theorem dX3_read_35 : decode cX3_read 35 = .ok (.iconst 0, 1) := by decide +kernel
theorem dX3_read_36 : decode cX3_read 36 = .ok (.istore 4, 2) := by decide +kernel
theorem dX3_read_38 : decode cX3_read 38 = .ok (.iload 4, 2) := by decide +kernel
theorem dX3_read_40 : decode cX3_read 40 = .ok (.sipush 500, 3) := by decide +kernel
theorem dX3_read_43 : decode cX3_read 43 = .ok (.if_icmp .ge 28, 3) := by decide +kernel
theorem dX3_read_46 : decode cX3_read 46 = .ok (.aload_n 0, 1) := by decide +kernel
theorem dX3_read_47 : decode cX3_read 47 = .ok (.getfield 26, 3) := by decide +kernel
theorem dX3_read_50 : decode cX3_read 50 = .ok (.ifCond .ne 21, 3) := by decide +kernel
theorem dX3_read_53 : decode cX3_read 53 = .ok (.aload_n 0, 1) := by decide +kernel
theorem dX3_read_54 : decode cX3_read 54 = .ok (.invokevirtual 40, 3) := by decide +kernel
theorem dX3_read_57 : decode cX3_read 57 = .ok (.ifCond .ne 14, 3) := by decide +kernel
theorem dX3_read_60 : decode cX3_read 60 = .ok (.aload_n 0, 1) := by decide +kernel
theorem dX3_read_61 : decode cX3_read 61 = .ok (.aload_n 3, 1) := by decide +kernel
theorem dX3_read_62 : decode cX3_read 62 = .ok (.invokevirtual 44, 3) := by decide +kernel
theorem dX3_read_65 : decode cX3_read 65 = .ok (.iinc 4 1, 3) := by decide +kernel
theorem dX3_read_68 : decode cX3_read 68 = .ok (.goto (-30), 3) := by decide +kernel
theorem dX3_read_71 : decode cX3_read 71 = .ok (.aload_n 0, 1) := by decide +kernel
theorem dX3_read_72 : decode cX3_read 72 = .ok (.getfield 26, 3) := by decide +kernel
theorem dX3_read_75 : decode cX3_read 75 = .ok (.ifCond .ne 26, 3) := by decide +kernel
theorem dX3_read_78 : decode cX3_read 78 = .ok (.aload_n 0, 1) := by decide +kernel
theorem dX3_read_79 : decode cX3_read 79 = .ok (.getfield 32, 3) := by decide +kernel
theorem dX3_read_82 : decode cX3_read 82 = .ok (.ifCond .ne 10, 3) := by decide +kernel
theorem dX3_read_85 : decode cX3_read 85 = .ok (.aload_n 3, 1) := by decide +kernel
theorem dX3_read_86 : decode cX3_read 86 = .ok (.invokevirtual 47, 3) := by decide +kernel
theorem dX3_read_89 : decode cX3_read 89 = .ok (.ifCond .ne 12, 3) := by decide +kernel
theorem dX3_read_92 : decode cX3_read 92 = .ok (.aload_n 0, 1) := by decide +kernel
theorem dX3_read_93 : decode cX3_read 93 = .ok (.iconst 3, 1) := by decide +kernel
theorem dX3_read_94 : decode cX3_read 94 = .ok (.aload_n 0, 1) := by decide +kernel
theorem dX3_read_95 : decode cX3_read 95 = .ok (.getfield 19, 3) := by decide +kernel
theorem dX3_read_98 : decode cX3_read 98 = .ok (.invokevirtual 52, 3) := by decide +kernel
theorem dX3_read_101 : decode cX3_read 101 = .ok (.return_, 1) := by decide +kernel
theorem dX3_readNodes_0 : decode cX3_readNodes 0 = .ok (.aload_n 0, 1) := by decide +kernel
theorem dX3_readNodes_1 : decode cX3_readNodes 1 = .ok (.ldc 56, 2) := by decide +kernel
theorem dX3_readNodes_3 : decode cX3_readNodes 3 = .ok (.invokevirtual 58, 3) := by decide +kernel
theorem dX3_readNodes_6 : decode cX3_readNodes 6 = .ok (.ifCond .ne 12, 3) := by decide +kernel
theorem dX3_readNodes_9 : decode cX3_readNodes 9 = .ok (.aload_n 0, 1) := by decide +kernel
theorem dX3_readNodes_10 : decode cX3_readNodes 10 = .ok (.iconst 1, 1) := by decide +kernel
theorem dX3_readNodes_11 : decode cX3_readNodes 11 = .ok (.aload_n 0, 1) := by decide +kernel
theorem dX3_readNodes_12 : decode cX3_readNodes 12 = .ok (.getfield 23, 3) := by decide +kernel
theorem dX3_readNodes_15 : decode cX3_readNodes 15 = .ok (.invokevirtual 52, 3) := by decide +kernel
theorem dX3_readNodes_18 : decode cX3_readNodes 18 = .ok (.aload_n 0, 1) := by decide +kernel
theorem dX3_readNodes_19 : decode cX3_readNodes 19 = .ok (.iconst 1, 1) := by decide +kernel
theorem dX3_readNodes_20 : decode cX3_readNodes 20 = .ok (.bipush 12, 2) := by decide +kernel
theorem dX3_readNodes_22 : decode cX3_readNodes 22 = .ok (.invokevirtual 62, 3) := by decide +kernel
theorem dX3_readNodes_25 : decode cX3_readNodes 25 = .ok (.istore_n 2, 1) := by decide +kernel
theorem dX3_readNodes_26 : decode cX3_readNodes 26 = .ok (.aload_n 0, 1) := by decide +kernel
theorem dX3_readNodes_27 : decode cX3_readNodes 27 = .ok (.invokevirtual 66, 3) := by decide +kernel
theorem dX3_readNodes_30 : decode cX3_readNodes 30 = .ok (.aload_n 0, 1) := by decide +kernel
theorem dX3_readNodes_31 : decode cX3_readNodes 31 = .ok (.getfield 26, 3) := by decide +kernel
theorem dX3_readNodes_34 : decode cX3_readNodes 34 = .ok (.ifCond .ne 8, 3) := by decide +kernel
theorem dX3_readNodes_37 : decode cX3_readNodes 37 = .ok (.aload_n 1, 1) := by decide +kernel
theorem dX3_readNodes_38 : decode cX3_readNodes 38 = .ok (.iload_n 2, 1) := by decide +kernel
theorem dX3_readNodes_39 : decode cX3_readNodes 39 = .ok (.invokevirtual 69, 3) := by decide +kernel
theorem dX3_readNodes_42 : decode cX3_readNodes 42 = .ok (.return_, 1) := by decide +kernel
theorem dX3_readStatement_0 : decode cX3_readStatement 0 = .ok (.aload_n 0, 1) := by decide +kernel
theorem dX3_readStatement_1 : decode cX3_readStatement 1 = .ok (.ldc 73, 2) := by decide +kernel
theorem dX3_readStatement_3 : decode cX3_readStatement 3 = .ok (.invokevirtual 58, 3) := by decide +kernel
theorem dX3_readStatement_6 : decode cX3_readStatement 6 = .ok (.ifCond .eq 11, 3) := by decide +kernel
theorem dX3_readStatement_9 : decode cX3_readStatement 9 = .ok (.aload_n 0, 1) := by decide +kernel
theorem dX3_readStatement_10 : decode cX3_readStatement 10 = .ok (.aload_n 1, 1) := by decide +kernel
theorem dX3_readStatement_11 : decode cX3_readStatement 11 = .ok (.invokevirtual 75, 3) := by decide +kernel
theorem dX3_readStatement_14 : decode cX3_readStatement 14 = .ok (.goto 63, 3) := by decide +kernel
theorem dX3_readStatement_17 : decode cX3_readStatement 17 = .ok (.aload_n 0, 1) := by decide +kernel
theorem dX3_readStatement_18 : decode cX3_readStatement 18 = .ok (.ldc 78, 2) := by decide +kernel
theorem dX3_readStatement_20 : decode cX3_readStatement 20 = .ok (.invokevirtual 58, 3) := by decide +kernel
theorem dX3_readStatement_23 : decode cX3_readStatement 23 = .ok (.ifCond .eq 11, 3) := by decide +kernel
theorem dX3_readStatement_26 : decode cX3_readStatement 26 = .ok (.aload_n 0, 1) := by decide +kernel
theorem dX3_readStatement_27 : decode cX3_readStatement 27 = .ok (.aload_n 1, 1) := by decide +kernel
theorem dX3_readStatement_28 : decode cX3_readStatement 28 = .ok (.invokevirtual 79, 3) := by decide +kernel
theorem dX3_readStatement_31 : decode cX3_readStatement 31 = .ok (.goto 46, 3) := by decide +kernel
theorem dX3_readStatement_34 : decode cX3_readStatement 34 = .ok (.aload_n 0, 1) := by decide +kernel
theorem dX3_readStatement_35 : decode cX3_readStatement 35 = .ok (.ldc 82, 2) := by decide +kernel
theorem dX3_readStatement_37 : decode cX3_readStatement 37 = .ok (.invokevirtual 58, 3) := by decide +kernel
theorem dX3_readStatement_40 : decode cX3_readStatement 40 = .ok (.ifCond .eq 11, 3) := by decide +kernel
theorem dX3_readStatement_43 : decode cX3_readStatement 43 = .ok (.aload_n 0, 1) := by decide +kernel
theorem dX3_readStatement_44 : decode cX3_readStatement 44 = .ok (.aload_n 1, 1) := by decide +kernel
theorem dX3_readStatement_45 : decode cX3_readStatement 45 = .ok (.invokevirtual 84, 3) := by decide +kernel
theorem dX3_readStatement_48 : decode cX3_readStatement 48 = .ok (.goto 29, 3) := by decide +kernel
theorem dX3_readStatement_51 : decode cX3_readStatement 51 = .ok (.aload_n 0, 1) := by decide +kernel
theorem dX3_readStatement_52 : decode cX3_readStatement 52 = .ok (.ldc 87, 2) := by decide +kernel
theorem dX3_readStatement_54 : decode cX3_readStatement 54 = .ok (.invokevirtual 58, 3) := by decide +kernel
theorem dX3_readStatement_57 : decode cX3_readStatement 57 = .ok (.ifCond .eq 11, 3) := by decide +kernel
theorem dX3_readStatement_60 : decode cX3_readStatement 60 = .ok (.aload_n 0, 1) := by decide +kernel
theorem dX3_readStatement_61 : decode cX3_readStatement 61 = .ok (.aload_n 1, 1) := by decide +kernel
theorem dX3_readStatement_62 : decode cX3_readStatement 62 = .ok (.invokevirtual 89, 3) := by decide +kernel
theorem dX3_readStatement_65 : decode cX3_readStatement 65 = .ok (.goto 12, 3) := by decide +kernel
theorem dX3_readStatement_68 : decode cX3_readStatement 68 = .ok (.aload_n 0, 1) := by decide +kernel
theorem dX3_readStatement_69 : decode cX3_readStatement 69 = .ok (.iconst 1, 1) := by decide +kernel
theorem dX3_readStatement_70 : decode cX3_readStatement 70 = .ok (.aload_n 0, 1) := by decide +kernel
theorem dX3_readStatement_71 : decode cX3_readStatement 71 = .ok (.getfield 23, 3) := by decide +kernel
theorem dX3_readStatement_74 : decode cX3_readStatement 74 = .ok (.invokevirtual 52, 3) := by decide +kernel
theorem dX3_readStatement_77 : decode cX3_readStatement 77 = .ok (.return_, 1) := by decide +kernel
theorem dX3_readLine_0 : decode cX3_readLine 0 = .ok (.aload_n 0, 1) := by decide +kernel
theorem dX3_readLine_1 : decode cX3_readLine 1 = .ok (.iconst 0, 1) := by decide +kernel
theorem dX3_readLine_2 : decode cX3_readLine 2 = .ok (.aload_n 1, 1) := by decide +kernel
theorem dX3_readLine_3 : decode cX3_readLine 3 = .ok (.getfield 92, 3) := by decide +kernel
theorem dX3_readLine_6 : decode cX3_readLine 6 = .ok (.iconst 1, 1) := by decide +kernel
theorem dX3_readLine_7 : decode cX3_readLine 7 = .ok (.isub, 1) := by decide +kernel
theorem dX3_readLine_8 : decode cX3_readLine 8 = .ok (.invokevirtual 62, 3) := by decide +kernel
theorem dX3_readLine_11 : decode cX3_readLine 11 = .ok (.istore_n 2, 1) := by decide +kernel
theorem dX3_readLine_12 : decode cX3_readLine 12 = .ok (.aload_n 0, 1) := by decide +kernel
theorem dX3_readLine_13 : decode cX3_readLine 13 = .ok (.iconst 0, 1) := by decide +kernel
theorem dX3_readLine_14 : decode cX3_readLine 14 = .ok (.aload_n 1, 1) := by decide +kernel
theorem dX3_readLine_15 : decode cX3_readLine 15 = .ok (.getfield 92, 3) := by decide +kernel
theorem dX3_readLine_18 : decode cX3_readLine 18 = .ok (.iconst 1, 1) := by decide +kernel
theorem dX3_readLine_19 : decode cX3_readLine 19 = .ok (.isub, 1) := by decide +kernel
theorem dX3_readLine_20 : decode cX3_readLine 20 = .ok (.invokevirtual 62, 3) := by decide +kernel
theorem dX3_readLine_23 : decode cX3_readLine 23 = .ok (.istore_n 3, 1) := by decide +kernel
theorem dX3_readLine_24 : decode cX3_readLine 24 = .ok (.aload_n 0, 1) := by decide +kernel
theorem dX3_readLine_25 : decode cX3_readLine 25 = .ok (.iload_n 2, 1) := by decide +kernel
theorem dX3_readLine_26 : decode cX3_readLine 26 = .ok (.iload_n 3, 1) := by decide +kernel
theorem dX3_readLine_27 : decode cX3_readLine 27 = .ok (.invokevirtual 94, 3) := by decide +kernel
theorem dX3_readLine_30 : decode cX3_readLine 30 = .ok (.iconst 1, 1) := by decide +kernel
theorem dX3_readLine_31 : decode cX3_readLine 31 = .ok (.istore 4, 2) := by decide +kernel
theorem dX3_readLine_33 : decode cX3_readLine 33 = .ok (.aload_n 0, 1) := by decide +kernel
theorem dX3_readLine_34 : decode cX3_readLine 34 = .ok (.invokevirtual 97, 3) := by decide +kernel
theorem dX3_readLine_37 : decode cX3_readLine 37 = .ok (.ifCond .eq 13, 3) := by decide +kernel
theorem dX3_readLine_40 : decode cX3_readLine 40 = .ok (.aload_n 0, 1) := by decide +kernel
theorem dX3_readLine_41 : decode cX3_readLine 41 = .ok (.iconst 0, 1) := by decide +kernel
theorem dX3_readLine_42 : decode cX3_readLine 42 = .ok (.sipush 999, 3) := by decide +kernel
theorem dX3_readLine_45 : decode cX3_readLine 45 = .ok (.invokevirtual 62, 3) := by decide +kernel
theorem dX3_readLine_48 : decode cX3_readLine 48 = .ok (.istore 4, 2) := by decide +kernel
theorem dX3_readLine_50 : decode cX3_readLine 50 = .ok (.aload_n 0, 1) := by decide +kernel
theorem dX3_readLine_51 : decode cX3_readLine 51 = .ok (.invokevirtual 66, 3) := by decide +kernel
theorem dX3_readLine_54 : decode cX3_readLine 54 = .ok (.aload_n 0, 1) := by decide +kernel
theorem dX3_readLine_55 : decode cX3_readLine 55 = .ok (.getfield 26, 3) := by decide +kernel
theorem dX3_readLine_58 : decode cX3_readLine 58 = .ok (.ifCond .ne 11, 3) := by decide +kernel
theorem dX3_readLine_61 : decode cX3_readLine 61 = .ok (.aload_n 1, 1) := by decide +kernel
theorem dX3_readLine_62 : decode cX3_readLine 62 = .ok (.iload_n 2, 1) := by decide +kernel
theorem dX3_readLine_63 : decode cX3_readLine 63 = .ok (.iload_n 3, 1) := by decide +kernel
theorem dX3_readLine_64 : decode cX3_readLine 64 = .ok (.iload 4, 2) := by decide +kernel
theorem dX3_readLine_66 : decode cX3_readLine 66 = .ok (.invokevirtual 100, 3) := by decide +kernel
theorem dX3_readLine_69 : decode cX3_readLine 69 = .ok (.return_, 1) := by decide +kernel
theorem dX3_readRing_0 : decode cX3_readRing 0 = .ok (.iconst 0, 1) := by decide +kernel
theorem dX3_readRing_1 : decode cX3_readRing 1 = .ok (.istore_n 2, 1) := by decide +kernel
theorem dX3_readRing_2 : decode cX3_readRing 2 = .ok (.iconst 0, 1) := by decide +kernel
theorem dX3_readRing_3 : decode cX3_readRing 3 = .ok (.istore_n 3, 1) := by decide +kernel
theorem dX3_readRing_4 : decode cX3_readRing 4 = .ok (.iload_n 3, 1) := by decide +kernel
theorem dX3_readRing_5 : decode cX3_readRing 5 = .ok (.bipush 12, 2) := by decide +kernel
theorem dX3_readRing_7 : decode cX3_readRing 7 = .ok (.if_icmp .ge 88, 3) := by decide +kernel
theorem dX3_readRing_10 : decode cX3_readRing 10 = .ok (.aload_n 0, 1) := by decide +kernel
theorem dX3_readRing_11 : decode cX3_readRing 11 = .ok (.getfield 26, 3) := by decide +kernel
theorem dX3_readRing_14 : decode cX3_readRing 14 = .ok (.ifCond .ne 81, 3) := by decide +kernel
theorem dX3_readRing_17 : decode cX3_readRing 17 = .ok (.iload_n 3, 1) := by decide +kernel
theorem dX3_readRing_18 : decode cX3_readRing 18 = .ok (.iconst 2, 1) := by decide +kernel
theorem dX3_readRing_19 : decode cX3_readRing 19 = .ok (.if_icmp .lt 10, 3) := by decide +kernel
theorem dX3_readRing_22 : decode cX3_readRing 22 = .ok (.aload_n 0, 1) := by decide +kernel
theorem dX3_readRing_23 : decode cX3_readRing 23 = .ok (.invokevirtual 97, 3) := by decide +kernel
theorem dX3_readRing_26 : decode cX3_readRing 26 = .ok (.ifCond .eq 69, 3) := by decide +kernel
theorem dX3_readRing_29 : decode cX3_readRing 29 = .ok (.aload_n 0, 1) := by decide +kernel
theorem dX3_readRing_30 : decode cX3_readRing 30 = .ok (.iconst 0, 1) := by decide +kernel
theorem dX3_readRing_31 : decode cX3_readRing 31 = .ok (.aload_n 1, 1) := by decide +kernel
theorem dX3_readRing_32 : decode cX3_readRing 32 = .ok (.getfield 92, 3) := by decide +kernel
theorem dX3_readRing_35 : decode cX3_readRing 35 = .ok (.iconst 1, 1) := by decide +kernel
theorem dX3_readRing_36 : decode cX3_readRing 36 = .ok (.isub, 1) := by decide +kernel
theorem dX3_readRing_37 : decode cX3_readRing 37 = .ok (.invokevirtual 62, 3) := by decide +kernel
theorem dX3_readRing_40 : decode cX3_readRing 40 = .ok (.istore 4, 2) := by decide +kernel
theorem dX3_readRing_42 : decode cX3_readRing 42 = .ok (.aload_n 0, 1) := by decide +kernel
theorem dX3_readRing_43 : decode cX3_readRing 43 = .ok (.getfield 26, 3) := by decide +kernel
theorem dX3_readRing_46 : decode cX3_readRing 46 = .ok (.ifCond .ne 21, 3) := by decide +kernel
theorem dX3_readRing_49 : decode cX3_readRing 49 = .ok (.iload_n 2, 1) := by decide +kernel
theorem dX3_readRing_50 : decode cX3_readRing 50 = .ok (.iload 4, 2) := by decide +kernel
theorem dX3_readRing_52 : decode cX3_readRing 52 = .ok (.invokestatic 104, 3) := by decide +kernel
theorem dX3_readRing_55 : decode cX3_readRing 55 = .ok (.ifCond .eq 12, 3) := by decide +kernel
theorem dX3_readRing_58 : decode cX3_readRing 58 = .ok (.aload_n 0, 1) := by decide +kernel
theorem dX3_readRing_59 : decode cX3_readRing 59 = .ok (.iconst 2, 1) := by decide +kernel
theorem dX3_readRing_60 : decode cX3_readRing 60 = .ok (.aload_n 0, 1) := by decide +kernel
theorem dX3_readRing_61 : decode cX3_readRing 61 = .ok (.getfield 108, 3) := by decide +kernel
theorem dX3_readRing_64 : decode cX3_readRing 64 = .ok (.invokevirtual 52, 3) := by decide +kernel
theorem dX3_readRing_67 : decode cX3_readRing 67 = .ok (.aload_n 0, 1) := by decide +kernel
theorem dX3_readRing_68 : decode cX3_readRing 68 = .ok (.getfield 26, 3) := by decide +kernel
theorem dX3_readRing_71 : decode cX3_readRing 71 = .ok (.ifCond .ne 18, 3) := by decide +kernel
theorem dX3_readRing_74 : decode cX3_readRing 74 = .ok (.iload_n 2, 1) := by decide +kernel
theorem dX3_readRing_75 : decode cX3_readRing 75 = .ok (.iconst 1, 1) := by decide +kernel
theorem dX3_readRing_76 : decode cX3_readRing 76 = .ok (.iload 4, 2) := by decide +kernel
theorem dX3_readRing_78 : decode cX3_readRing 78 = .ok (.ishl, 1) := by decide +kernel
theorem dX3_readRing_79 : decode cX3_readRing 79 = .ok (.ior, 1) := by decide +kernel
theorem dX3_readRing_80 : decode cX3_readRing 80 = .ok (.istore_n 2, 1) := by decide +kernel
theorem dX3_readRing_81 : decode cX3_readRing 81 = .ok (.aload_n 0, 1) := by decide +kernel
theorem dX3_readRing_82 : decode cX3_readRing 82 = .ok (.getfield 9, 3) := by decide +kernel
theorem dX3_readRing_85 : decode cX3_readRing 85 = .ok (.iload_n 3, 1) := by decide +kernel
theorem dX3_readRing_86 : decode cX3_readRing 86 = .ok (.iload 4, 2) := by decide +kernel
theorem dX3_readRing_88 : decode cX3_readRing 88 = .ok (.iastore, 1) := by decide +kernel
theorem dX3_readRing_89 : decode cX3_readRing 89 = .ok (.iinc 3 1, 3) := by decide +kernel
theorem dX3_readRing_92 : decode cX3_readRing 92 = .ok (.goto (-88), 3) := by decide +kernel
theorem dX3_readRing_95 : decode cX3_readRing 95 = .ok (.aload_n 0, 1) := by decide +kernel
theorem dX3_readRing_96 : decode cX3_readRing 96 = .ok (.invokevirtual 66, 3) := by decide +kernel
theorem dX3_readRing_99 : decode cX3_readRing 99 = .ok (.iconst 0, 1) := by decide +kernel
theorem dX3_readRing_100 : decode cX3_readRing 100 = .ok (.istore 4, 2) := by decide +kernel
theorem dX3_readRing_102 : decode cX3_readRing 102 = .ok (.iload 4, 2) := by decide +kernel
theorem dX3_readRing_104 : decode cX3_readRing 104 = .ok (.iload_n 3, 1) := by decide +kernel
theorem dX3_readRing_105 : decode cX3_readRing 105 = .ok (.if_icmp .ge 48, 3) := by decide +kernel
theorem dX3_readRing_108 : decode cX3_readRing 108 = .ok (.aload_n 0, 1) := by decide +kernel
theorem dX3_readRing_109 : decode cX3_readRing 109 = .ok (.getfield 26, 3) := by decide +kernel
theorem dX3_readRing_112 : decode cX3_readRing 112 = .ok (.ifCond .ne 41, 3) := by decide +kernel
theorem dX3_readRing_115 : decode cX3_readRing 115 = .ok (.aload_n 1, 1) := by decide +kernel
theorem dX3_readRing_116 : decode cX3_readRing 116 = .ok (.aload_n 0, 1) := by decide +kernel
theorem dX3_readRing_117 : decode cX3_readRing 117 = .ok (.getfield 9, 3) := by decide +kernel
theorem dX3_readRing_120 : decode cX3_readRing 120 = .ok (.iload 4, 2) := by decide +kernel
theorem dX3_readRing_122 : decode cX3_readRing 122 = .ok (.iaload, 1) := by decide +kernel
theorem dX3_readRing_123 : decode cX3_readRing 123 = .ok (.aload_n 0, 1) := by decide +kernel
theorem dX3_readRing_124 : decode cX3_readRing 124 = .ok (.getfield 9, 3) := by decide +kernel
theorem dX3_readRing_127 : decode cX3_readRing 127 = .ok (.iload 4, 2) := by decide +kernel
theorem dX3_readRing_129 : decode cX3_readRing 129 = .ok (.iconst 1, 1) := by decide +kernel
theorem dX3_readRing_130 : decode cX3_readRing 130 = .ok (.iadd, 1) := by decide +kernel
theorem dX3_readRing_131 : decode cX3_readRing 131 = .ok (.iload_n 3, 1) := by decide +kernel
theorem dX3_readRing_132 : decode cX3_readRing 132 = .ok (.if_icmp .ge 10, 3) := by decide +kernel
theorem dX3_readRing_135 : decode cX3_readRing 135 = .ok (.iload 4, 2) := by decide +kernel
theorem dX3_readRing_137 : decode cX3_readRing 137 = .ok (.iconst 1, 1) := by decide +kernel
theorem dX3_readRing_138 : decode cX3_readRing 138 = .ok (.iadd, 1) := by decide +kernel
theorem dX3_readRing_139 : decode cX3_readRing 139 = .ok (.goto 4, 3) := by decide +kernel
theorem dX3_readRing_142 : decode cX3_readRing 142 = .ok (.iconst 0, 1) := by decide +kernel
theorem dX3_readRing_143 : decode cX3_readRing 143 = .ok (.iaload, 1) := by decide +kernel
theorem dX3_readRing_144 : decode cX3_readRing 144 = .ok (.invokevirtual 111, 3) := by decide +kernel
theorem dX3_readRing_147 : decode cX3_readRing 147 = .ok (.iinc 4 1, 3) := by decide +kernel
theorem dX3_readRing_150 : decode cX3_readRing 150 = .ok (.goto (-48), 3) := by decide +kernel
theorem dX3_readRing_153 : decode cX3_readRing 153 = .ok (.return_, 1) := by decide +kernel
theorem dX3_readAll_0 : decode cX3_readAll 0 = .ok (.aload_n 0, 1) := by decide +kernel
theorem dX3_readAll_1 : decode cX3_readAll 1 = .ok (.invokevirtual 66, 3) := by decide +kernel
theorem dX3_readAll_4 : decode cX3_readAll 4 = .ok (.iconst 0, 1) := by decide +kernel
theorem dX3_readAll_5 : decode cX3_readAll 5 = .ok (.istore_n 2, 1) := by decide +kernel
theorem dX3_readAll_6 : decode cX3_readAll 6 = .ok (.iload_n 2, 1) := by decide +kernel
theorem dX3_readAll_7 : decode cX3_readAll 7 = .ok (.aload_n 1, 1) := by decide +kernel
theorem dX3_readAll_8 : decode cX3_readAll 8 = .ok (.getfield 92, 3) := by decide +kernel
theorem dX3_readAll_11 : decode cX3_readAll 11 = .ok (.if_icmp .ge 40, 3) := by decide +kernel
theorem dX3_readAll_14 : decode cX3_readAll 14 = .ok (.aload_n 0, 1) := by decide +kernel
theorem dX3_readAll_15 : decode cX3_readAll 15 = .ok (.getfield 26, 3) := by decide +kernel
theorem dX3_readAll_18 : decode cX3_readAll 18 = .ok (.ifCond .ne 33, 3) := by decide +kernel
theorem dX3_readAll_21 : decode cX3_readAll 21 = .ok (.iload_n 2, 1) := by decide +kernel
theorem dX3_readAll_22 : decode cX3_readAll 22 = .ok (.iconst 1, 1) := by decide +kernel
theorem dX3_readAll_23 : decode cX3_readAll 23 = .ok (.iadd, 1) := by decide +kernel
theorem dX3_readAll_24 : decode cX3_readAll 24 = .ok (.istore_n 3, 1) := by decide +kernel
theorem dX3_readAll_25 : decode cX3_readAll 25 = .ok (.iload_n 3, 1) := by decide +kernel
theorem dX3_readAll_26 : decode cX3_readAll 26 = .ok (.aload_n 1, 1) := by decide +kernel
theorem dX3_readAll_27 : decode cX3_readAll 27 = .ok (.getfield 92, 3) := by decide +kernel
theorem dX3_readAll_30 : decode cX3_readAll 30 = .ok (.if_icmp .ge 15, 3) := by decide +kernel
theorem dX3_readAll_33 : decode cX3_readAll 33 = .ok (.aload_n 1, 1) := by decide +kernel
theorem dX3_readAll_34 : decode cX3_readAll 34 = .ok (.iload_n 2, 1) := by decide +kernel
theorem dX3_readAll_35 : decode cX3_readAll 35 = .ok (.iload_n 3, 1) := by decide +kernel
theorem dX3_readAll_36 : decode cX3_readAll 36 = .ok (.invokevirtual 111, 3) := by decide +kernel
theorem dX3_readAll_39 : decode cX3_readAll 39 = .ok (.iinc 3 1, 3) := by decide +kernel
theorem dX3_readAll_42 : decode cX3_readAll 42 = .ok (.goto (-17), 3) := by decide +kernel
theorem dX3_readAll_45 : decode cX3_readAll 45 = .ok (.iinc 2 1, 3) := by decide +kernel
theorem dX3_readAll_48 : decode cX3_readAll 48 = .ok (.goto (-42), 3) := by decide +kernel
theorem dX3_readAll_51 : decode cX3_readAll 51 = .ok (.return_, 1) := by decide +kernel
theorem dX3_readPair_0 : decode cX3_readPair 0 = .ok (.aload_n 0, 1) := by decide +kernel
theorem dX3_readPair_1 : decode cX3_readPair 1 = .ok (.iconst 0, 1) := by decide +kernel
theorem dX3_readPair_2 : decode cX3_readPair 2 = .ok (.aload_n 1, 1) := by decide +kernel
theorem dX3_readPair_3 : decode cX3_readPair 3 = .ok (.getfield 92, 3) := by decide +kernel
theorem dX3_readPair_6 : decode cX3_readPair 6 = .ok (.iconst 1, 1) := by decide +kernel
theorem dX3_readPair_7 : decode cX3_readPair 7 = .ok (.isub, 1) := by decide +kernel
theorem dX3_readPair_8 : decode cX3_readPair 8 = .ok (.invokevirtual 62, 3) := by decide +kernel
theorem dX3_readPair_11 : decode cX3_readPair 11 = .ok (.istore_n 2, 1) := by decide +kernel
theorem dX3_readPair_12 : decode cX3_readPair 12 = .ok (.aload_n 0, 1) := by decide +kernel
theorem dX3_readPair_13 : decode cX3_readPair 13 = .ok (.iconst 0, 1) := by decide +kernel
theorem dX3_readPair_14 : decode cX3_readPair 14 = .ok (.aload_n 1, 1) := by decide +kernel
theorem dX3_readPair_15 : decode cX3_readPair 15 = .ok (.getfield 92, 3) := by decide +kernel
theorem dX3_readPair_18 : decode cX3_readPair 18 = .ok (.iconst 1, 1) := by decide +kernel
theorem dX3_readPair_19 : decode cX3_readPair 19 = .ok (.isub, 1) := by decide +kernel
theorem dX3_readPair_20 : decode cX3_readPair 20 = .ok (.invokevirtual 62, 3) := by decide +kernel
theorem dX3_readPair_23 : decode cX3_readPair 23 = .ok (.istore_n 3, 1) := by decide +kernel
theorem dX3_readPair_24 : decode cX3_readPair 24 = .ok (.aload_n 0, 1) := by decide +kernel
theorem dX3_readPair_25 : decode cX3_readPair 25 = .ok (.iload_n 2, 1) := by decide +kernel
theorem dX3_readPair_26 : decode cX3_readPair 26 = .ok (.iload_n 3, 1) := by decide +kernel
theorem dX3_readPair_27 : decode cX3_readPair 27 = .ok (.invokevirtual 94, 3) := by decide +kernel
theorem dX3_readPair_30 : decode cX3_readPair 30 = .ok (.aload_n 0, 1) := by decide +kernel
theorem dX3_readPair_31 : decode cX3_readPair 31 = .ok (.invokevirtual 66, 3) := by decide +kernel
theorem dX3_readPair_34 : decode cX3_readPair 34 = .ok (.aload_n 0, 1) := by decide +kernel
theorem dX3_readPair_35 : decode cX3_readPair 35 = .ok (.getfield 26, 3) := by decide +kernel
theorem dX3_readPair_38 : decode cX3_readPair 38 = .ok (.ifCond .eq 4, 3) := by decide +kernel
theorem dX3_readPair_41 : decode cX3_readPair 41 = .ok (.return_, 1) := by decide +kernel
theorem dX3_readPair_42 : decode cX3_readPair 42 = .ok (.aload_n 1, 1) := by decide +kernel
theorem dX3_readPair_43 : decode cX3_readPair 43 = .ok (.iload_n 2, 1) := by decide +kernel
theorem dX3_readPair_44 : decode cX3_readPair 44 = .ok (.invokevirtual 114, 3) := by decide +kernel
theorem dX3_readPair_47 : decode cX3_readPair 47 = .ok (.ifCond .eq 20, 3) := by decide +kernel
theorem dX3_readPair_50 : decode cX3_readPair 50 = .ok (.aload_n 1, 1) := by decide +kernel
theorem dX3_readPair_51 : decode cX3_readPair 51 = .ok (.iload_n 3, 1) := by decide +kernel
theorem dX3_readPair_52 : decode cX3_readPair 52 = .ok (.invokevirtual 114, 3) := by decide +kernel
theorem dX3_readPair_55 : decode cX3_readPair 55 = .ok (.ifCond .eq 12, 3) := by decide +kernel
theorem dX3_readPair_58 : decode cX3_readPair 58 = .ok (.aload_n 1, 1) := by decide +kernel
theorem dX3_readPair_59 : decode cX3_readPair 59 = .ok (.iload_n 2, 1) := by decide +kernel
theorem dX3_readPair_60 : decode cX3_readPair 60 = .ok (.iload_n 3, 1) := by decide +kernel
theorem dX3_readPair_61 : decode cX3_readPair 61 = .ok (.invokevirtual 118, 3) := by decide +kernel
theorem dX3_readPair_64 : decode cX3_readPair 64 = .ok (.goto 8, 3) := by decide +kernel
theorem dX3_readPair_67 : decode cX3_readPair 67 = .ok (.aload_n 0, 1) := by decide +kernel
theorem dX3_readPair_68 : decode cX3_readPair 68 = .ok (.iconst 1, 1) := by decide +kernel
theorem dX3_readPair_69 : decode cX3_readPair 69 = .ok (.putfield 32, 3) := by decide +kernel
theorem dX3_readPair_72 : decode cX3_readPair 72 = .ok (.return_, 1) := by decide +kernel
theorem dX3_needUnlike_0 : decode cX3_needUnlike 0 = .ok (.iload_n 1, 1) := by decide +kernel
theorem dX3_needUnlike_1 : decode cX3_needUnlike 1 = .ok (.iload_n 2, 1) := by decide +kernel
theorem dX3_needUnlike_2 : decode cX3_needUnlike 2 = .ok (.if_icmp .ne 12, 3) := by decide +kernel
theorem dX3_needUnlike_5 : decode cX3_needUnlike 5 = .ok (.aload_n 0, 1) := by decide +kernel
theorem dX3_needUnlike_6 : decode cX3_needUnlike 6 = .ok (.iconst 2, 1) := by decide +kernel
theorem dX3_needUnlike_7 : decode cX3_needUnlike 7 = .ok (.aload_n 0, 1) := by decide +kernel
theorem dX3_needUnlike_8 : decode cX3_needUnlike 8 = .ok (.getfield 108, 3) := by decide +kernel
theorem dX3_needUnlike_11 : decode cX3_needUnlike 11 = .ok (.invokevirtual 52, 3) := by decide +kernel
theorem dX3_needUnlike_14 : decode cX3_needUnlike 14 = .ok (.return_, 1) := by decide +kernel
theorem dX3_takeWord_0 : decode cX3_takeWord 0 = .ok (.aload_n 0, 1) := by decide +kernel
theorem dX3_takeWord_1 : decode cX3_takeWord 1 = .ok (.invokevirtual 121, 3) := by decide +kernel
theorem dX3_takeWord_4 : decode cX3_takeWord 4 = .ok (.aload_n 0, 1) := by decide +kernel
theorem dX3_takeWord_5 : decode cX3_takeWord 5 = .ok (.getfield 23, 3) := by decide +kernel
theorem dX3_takeWord_8 : decode cX3_takeWord 8 = .ok (.istore_n 2, 1) := by decide +kernel
theorem dX3_takeWord_9 : decode cX3_takeWord 9 = .ok (.iload_n 2, 1) := by decide +kernel
theorem dX3_takeWord_10 : decode cX3_takeWord 10 = .ok (.aload_n 0, 1) := by decide +kernel
theorem dX3_takeWord_11 : decode cX3_takeWord 11 = .ok (.getfield 19, 3) := by decide +kernel
theorem dX3_takeWord_14 : decode cX3_takeWord 14 = .ok (.if_icmp .ge 31, 3) := by decide +kernel
theorem dX3_takeWord_17 : decode cX3_takeWord 17 = .ok (.aload_n 0, 1) := by decide +kernel
theorem dX3_takeWord_18 : decode cX3_takeWord 18 = .ok (.getfield 15, 3) := by decide +kernel
theorem dX3_takeWord_21 : decode cX3_takeWord 21 = .ok (.iload_n 2, 1) := by decide +kernel
theorem dX3_takeWord_22 : decode cX3_takeWord 22 = .ok (.baload, 1) := by decide +kernel
theorem dX3_takeWord_23 : decode cX3_takeWord 23 = .ok (.bipush 97, 2) := by decide +kernel
theorem dX3_takeWord_25 : decode cX3_takeWord 25 = .ok (.if_icmp .lt 20, 3) := by decide +kernel
theorem dX3_takeWord_28 : decode cX3_takeWord 28 = .ok (.aload_n 0, 1) := by decide +kernel
theorem dX3_takeWord_29 : decode cX3_takeWord 29 = .ok (.getfield 15, 3) := by decide +kernel
theorem dX3_takeWord_32 : decode cX3_takeWord 32 = .ok (.iload_n 2, 1) := by decide +kernel
theorem dX3_takeWord_33 : decode cX3_takeWord 33 = .ok (.baload, 1) := by decide +kernel
theorem dX3_takeWord_34 : decode cX3_takeWord 34 = .ok (.bipush 122, 2) := by decide +kernel
theorem dX3_takeWord_36 : decode cX3_takeWord 36 = .ok (.if_icmp .gt 9, 3) := by decide +kernel
theorem dX3_takeWord_39 : decode cX3_takeWord 39 = .ok (.iinc 2 1, 3) := by decide +kernel
theorem dX3_takeWord_42 : decode cX3_takeWord 42 = .ok (.goto (-33), 3) := by decide +kernel
theorem dX3_takeWord_45 : decode cX3_takeWord 45 = .ok (.iload_n 2, 1) := by decide +kernel
theorem dX3_takeWord_46 : decode cX3_takeWord 46 = .ok (.aload_n 0, 1) := by decide +kernel
theorem dX3_takeWord_47 : decode cX3_takeWord 47 = .ok (.getfield 23, 3) := by decide +kernel
theorem dX3_takeWord_50 : decode cX3_takeWord 50 = .ok (.isub, 1) := by decide +kernel
theorem dX3_takeWord_51 : decode cX3_takeWord 51 = .ok (.aload_n 1, 1) := by decide +kernel
theorem dX3_takeWord_52 : decode cX3_takeWord 52 = .ok (.invokevirtual 124, 3) := by decide +kernel
theorem dX3_takeWord_55 : decode cX3_takeWord 55 = .ok (.if_icmp .eq 5, 3) := by decide +kernel
theorem dX3_takeWord_58 : decode cX3_takeWord 58 = .ok (.iconst 0, 1) := by decide +kernel
theorem dX3_takeWord_59 : decode cX3_takeWord 59 = .ok (.ireturn, 1) := by decide +kernel
theorem dX3_takeWord_60 : decode cX3_takeWord 60 = .ok (.iconst 0, 1) := by decide +kernel
theorem dX3_takeWord_61 : decode cX3_takeWord 61 = .ok (.istore_n 3, 1) := by decide +kernel
theorem dX3_takeWord_62 : decode cX3_takeWord 62 = .ok (.iload_n 3, 1) := by decide +kernel
theorem dX3_takeWord_63 : decode cX3_takeWord 63 = .ok (.aload_n 1, 1) := by decide +kernel
theorem dX3_takeWord_64 : decode cX3_takeWord 64 = .ok (.invokevirtual 124, 3) := by decide +kernel
theorem dX3_takeWord_67 : decode cX3_takeWord 67 = .ok (.if_icmp .ge 30, 3) := by decide +kernel
theorem dX3_takeWord_70 : decode cX3_takeWord 70 = .ok (.aload_n 0, 1) := by decide +kernel
theorem dX3_takeWord_71 : decode cX3_takeWord 71 = .ok (.getfield 15, 3) := by decide +kernel
theorem dX3_takeWord_74 : decode cX3_takeWord 74 = .ok (.aload_n 0, 1) := by decide +kernel
theorem dX3_takeWord_75 : decode cX3_takeWord 75 = .ok (.getfield 23, 3) := by decide +kernel
theorem dX3_takeWord_78 : decode cX3_takeWord 78 = .ok (.iload_n 3, 1) := by decide +kernel
theorem dX3_takeWord_79 : decode cX3_takeWord 79 = .ok (.iadd, 1) := by decide +kernel
theorem dX3_takeWord_80 : decode cX3_takeWord 80 = .ok (.baload, 1) := by decide +kernel
theorem dX3_takeWord_81 : decode cX3_takeWord 81 = .ok (.aload_n 1, 1) := by decide +kernel
theorem dX3_takeWord_82 : decode cX3_takeWord 82 = .ok (.iload_n 3, 1) := by decide +kernel
theorem dX3_takeWord_83 : decode cX3_takeWord 83 = .ok (.invokevirtual 129, 3) := by decide +kernel
theorem dX3_takeWord_86 : decode cX3_takeWord 86 = .ok (.if_icmp .eq 5, 3) := by decide +kernel
theorem dX3_takeWord_89 : decode cX3_takeWord 89 = .ok (.iconst 0, 1) := by decide +kernel
theorem dX3_takeWord_90 : decode cX3_takeWord 90 = .ok (.ireturn, 1) := by decide +kernel
theorem dX3_takeWord_91 : decode cX3_takeWord 91 = .ok (.iinc 3 1, 3) := by decide +kernel
theorem dX3_takeWord_94 : decode cX3_takeWord 94 = .ok (.goto (-32), 3) := by decide +kernel
theorem dX3_takeWord_97 : decode cX3_takeWord 97 = .ok (.aload_n 0, 1) := by decide +kernel
theorem dX3_takeWord_98 : decode cX3_takeWord 98 = .ok (.iload_n 2, 1) := by decide +kernel
theorem dX3_takeWord_99 : decode cX3_takeWord 99 = .ok (.putfield 23, 3) := by decide +kernel
theorem dX3_takeWord_102 : decode cX3_takeWord 102 = .ok (.iconst 1, 1) := by decide +kernel
theorem dX3_takeWord_103 : decode cX3_takeWord 103 = .ok (.ireturn, 1) := by decide +kernel
theorem dX3_takeNumber_0 : decode cX3_takeNumber 0 = .ok (.aload_n 0, 1) := by decide +kernel
theorem dX3_takeNumber_1 : decode cX3_takeNumber 1 = .ok (.getfield 26, 3) := by decide +kernel
theorem dX3_takeNumber_4 : decode cX3_takeNumber 4 = .ok (.ifCond .ne 19, 3) := by decide +kernel
theorem dX3_takeNumber_7 : decode cX3_takeNumber 7 = .ok (.aload_n 0, 1) := by decide +kernel
theorem dX3_takeNumber_8 : decode cX3_takeNumber 8 = .ok (.invokevirtual 97, 3) := by decide +kernel
theorem dX3_takeNumber_11 : decode cX3_takeNumber 11 = .ok (.ifCond .ne 12, 3) := by decide +kernel
theorem dX3_takeNumber_14 : decode cX3_takeNumber 14 = .ok (.aload_n 0, 1) := by decide +kernel
theorem dX3_takeNumber_15 : decode cX3_takeNumber 15 = .ok (.iconst 1, 1) := by decide +kernel
theorem dX3_takeNumber_16 : decode cX3_takeNumber 16 = .ok (.aload_n 0, 1) := by decide +kernel
theorem dX3_takeNumber_17 : decode cX3_takeNumber 17 = .ok (.getfield 23, 3) := by decide +kernel
theorem dX3_takeNumber_20 : decode cX3_takeNumber 20 = .ok (.invokevirtual 52, 3) := by decide +kernel
theorem dX3_takeNumber_23 : decode cX3_takeNumber 23 = .ok (.aload_n 0, 1) := by decide +kernel
theorem dX3_takeNumber_24 : decode cX3_takeNumber 24 = .ok (.getfield 26, 3) := by decide +kernel
theorem dX3_takeNumber_27 : decode cX3_takeNumber 27 = .ok (.ifCond .eq 5, 3) := by decide +kernel
theorem dX3_takeNumber_30 : decode cX3_takeNumber 30 = .ok (.iconst (-1), 1) := by decide +kernel
theorem dX3_takeNumber_31 : decode cX3_takeNumber 31 = .ok (.ireturn, 1) := by decide +kernel
theorem dX3_takeNumber_32 : decode cX3_takeNumber 32 = .ok (.aload_n 0, 1) := by decide +kernel
theorem dX3_takeNumber_33 : decode cX3_takeNumber 33 = .ok (.aload_n 0, 1) := by decide +kernel
theorem dX3_takeNumber_34 : decode cX3_takeNumber 34 = .ok (.getfield 23, 3) := by decide +kernel
theorem dX3_takeNumber_37 : decode cX3_takeNumber 37 = .ok (.putfield 108, 3) := by decide +kernel
theorem dX3_takeNumber_40 : decode cX3_takeNumber 40 = .ok (.iconst 0, 1) := by decide +kernel
theorem dX3_takeNumber_41 : decode cX3_takeNumber 41 = .ok (.istore_n 3, 1) := by decide +kernel
theorem dX3_takeNumber_42 : decode cX3_takeNumber 42 = .ok (.aload_n 0, 1) := by decide +kernel
theorem dX3_takeNumber_43 : decode cX3_takeNumber 43 = .ok (.getfield 23, 3) := by decide +kernel
theorem dX3_takeNumber_46 : decode cX3_takeNumber 46 = .ok (.aload_n 0, 1) := by decide +kernel
theorem dX3_takeNumber_47 : decode cX3_takeNumber 47 = .ok (.getfield 19, 3) := by decide +kernel
theorem dX3_takeNumber_50 : decode cX3_takeNumber 50 = .ok (.if_icmp .ge 55, 3) := by decide +kernel
theorem dX3_takeNumber_53 : decode cX3_takeNumber 53 = .ok (.aload_n 0, 1) := by decide +kernel
theorem dX3_takeNumber_54 : decode cX3_takeNumber 54 = .ok (.getfield 15, 3) := by decide +kernel
theorem dX3_takeNumber_57 : decode cX3_takeNumber 57 = .ok (.aload_n 0, 1) := by decide +kernel
theorem dX3_takeNumber_58 : decode cX3_takeNumber 58 = .ok (.getfield 23, 3) := by decide +kernel
theorem dX3_takeNumber_61 : decode cX3_takeNumber 61 = .ok (.baload, 1) := by decide +kernel
theorem dX3_takeNumber_62 : decode cX3_takeNumber 62 = .ok (.invokestatic 133, 3) := by decide +kernel
theorem dX3_takeNumber_65 : decode cX3_takeNumber 65 = .ok (.ifCond .eq 40, 3) := by decide +kernel
theorem dX3_takeNumber_68 : decode cX3_takeNumber 68 = .ok (.sipush 10000, 3) := by decide +kernel
theorem dX3_takeNumber_71 : decode cX3_takeNumber 71 = .ok (.iload_n 3, 1) := by decide +kernel
theorem dX3_takeNumber_72 : decode cX3_takeNumber 72 = .ok (.bipush 10, 2) := by decide +kernel
theorem dX3_takeNumber_74 : decode cX3_takeNumber 74 = .ok (.imul, 1) := by decide +kernel
theorem dX3_takeNumber_75 : decode cX3_takeNumber 75 = .ok (.aload_n 0, 1) := by decide +kernel
theorem dX3_takeNumber_76 : decode cX3_takeNumber 76 = .ok (.getfield 15, 3) := by decide +kernel
theorem dX3_takeNumber_79 : decode cX3_takeNumber 79 = .ok (.aload_n 0, 1) := by decide +kernel
theorem dX3_takeNumber_80 : decode cX3_takeNumber 80 = .ok (.getfield 23, 3) := by decide +kernel
theorem dX3_takeNumber_83 : decode cX3_takeNumber 83 = .ok (.baload, 1) := by decide +kernel
theorem dX3_takeNumber_84 : decode cX3_takeNumber 84 = .ok (.iadd, 1) := by decide +kernel
theorem dX3_takeNumber_85 : decode cX3_takeNumber 85 = .ok (.bipush 48, 2) := by decide +kernel
theorem dX3_takeNumber_87 : decode cX3_takeNumber 87 = .ok (.isub, 1) := by decide +kernel
theorem dX3_takeNumber_88 : decode cX3_takeNumber 88 = .ok (.invokestatic 137, 3) := by decide +kernel
theorem dX3_takeNumber_91 : decode cX3_takeNumber 91 = .ok (.istore_n 3, 1) := by decide +kernel
theorem dX3_takeNumber_92 : decode cX3_takeNumber 92 = .ok (.aload_n 0, 1) := by decide +kernel
theorem dX3_takeNumber_93 : decode cX3_takeNumber 93 = .ok (.dup, 1) := by decide +kernel
theorem dX3_takeNumber_94 : decode cX3_takeNumber 94 = .ok (.getfield 23, 3) := by decide +kernel
theorem dX3_takeNumber_97 : decode cX3_takeNumber 97 = .ok (.iconst 1, 1) := by decide +kernel
theorem dX3_takeNumber_98 : decode cX3_takeNumber 98 = .ok (.iadd, 1) := by decide +kernel
theorem dX3_takeNumber_99 : decode cX3_takeNumber 99 = .ok (.putfield 23, 3) := by decide +kernel
theorem dX3_takeNumber_102 : decode cX3_takeNumber 102 = .ok (.goto (-60), 3) := by decide +kernel
theorem dX3_takeNumber_105 : decode cX3_takeNumber 105 = .ok (.iload_n 3, 1) := by decide +kernel
theorem dX3_takeNumber_106 : decode cX3_takeNumber 106 = .ok (.iload_n 1, 1) := by decide +kernel
theorem dX3_takeNumber_107 : decode cX3_takeNumber 107 = .ok (.if_icmp .lt 8, 3) := by decide +kernel
theorem dX3_takeNumber_110 : decode cX3_takeNumber 110 = .ok (.iload_n 3, 1) := by decide +kernel
theorem dX3_takeNumber_111 : decode cX3_takeNumber 111 = .ok (.iload_n 2, 1) := by decide +kernel
theorem dX3_takeNumber_112 : decode cX3_takeNumber 112 = .ok (.if_icmp .le 12, 3) := by decide +kernel
theorem dX3_takeNumber_115 : decode cX3_takeNumber 115 = .ok (.aload_n 0, 1) := by decide +kernel
theorem dX3_takeNumber_116 : decode cX3_takeNumber 116 = .ok (.iconst 2, 1) := by decide +kernel
theorem dX3_takeNumber_117 : decode cX3_takeNumber 117 = .ok (.aload_n 0, 1) := by decide +kernel
theorem dX3_takeNumber_118 : decode cX3_takeNumber 118 = .ok (.getfield 108, 3) := by decide +kernel
theorem dX3_takeNumber_121 : decode cX3_takeNumber 121 = .ok (.invokevirtual 52, 3) := by decide +kernel
theorem dX3_takeNumber_124 : decode cX3_takeNumber 124 = .ok (.iload_n 3, 1) := by decide +kernel
theorem dX3_takeNumber_125 : decode cX3_takeNumber 125 = .ok (.ireturn, 1) := by decide +kernel
theorem dX3_takeEnd_0 : decode cX3_takeEnd 0 = .ok (.aload_n 0, 1) := by decide +kernel
theorem dX3_takeEnd_1 : decode cX3_takeEnd 1 = .ok (.invokevirtual 121, 3) := by decide +kernel
theorem dX3_takeEnd_4 : decode cX3_takeEnd 4 = .ok (.aload_n 0, 1) := by decide +kernel
theorem dX3_takeEnd_5 : decode cX3_takeEnd 5 = .ok (.getfield 23, 3) := by decide +kernel
theorem dX3_takeEnd_8 : decode cX3_takeEnd 8 = .ok (.aload_n 0, 1) := by decide +kernel
theorem dX3_takeEnd_9 : decode cX3_takeEnd 9 = .ok (.getfield 19, 3) := by decide +kernel
theorem dX3_takeEnd_12 : decode cX3_takeEnd 12 = .ok (.if_icmp .ge 30, 3) := by decide +kernel
theorem dX3_takeEnd_15 : decode cX3_takeEnd 15 = .ok (.aload_n 0, 1) := by decide +kernel
theorem dX3_takeEnd_16 : decode cX3_takeEnd 16 = .ok (.getfield 15, 3) := by decide +kernel
theorem dX3_takeEnd_19 : decode cX3_takeEnd 19 = .ok (.aload_n 0, 1) := by decide +kernel
theorem dX3_takeEnd_20 : decode cX3_takeEnd 20 = .ok (.getfield 23, 3) := by decide +kernel
theorem dX3_takeEnd_23 : decode cX3_takeEnd 23 = .ok (.baload, 1) := by decide +kernel
theorem dX3_takeEnd_24 : decode cX3_takeEnd 24 = .ok (.bipush 59, 2) := by decide +kernel
theorem dX3_takeEnd_26 : decode cX3_takeEnd 26 = .ok (.if_icmp .ne 16, 3) := by decide +kernel
theorem dX3_takeEnd_29 : decode cX3_takeEnd 29 = .ok (.aload_n 0, 1) := by decide +kernel
theorem dX3_takeEnd_30 : decode cX3_takeEnd 30 = .ok (.dup, 1) := by decide +kernel
theorem dX3_takeEnd_31 : decode cX3_takeEnd 31 = .ok (.getfield 23, 3) := by decide +kernel
theorem dX3_takeEnd_34 : decode cX3_takeEnd 34 = .ok (.iconst 1, 1) := by decide +kernel
theorem dX3_takeEnd_35 : decode cX3_takeEnd 35 = .ok (.iadd, 1) := by decide +kernel
theorem dX3_takeEnd_36 : decode cX3_takeEnd 36 = .ok (.putfield 23, 3) := by decide +kernel
theorem dX3_takeEnd_39 : decode cX3_takeEnd 39 = .ok (.goto 12, 3) := by decide +kernel
theorem dX3_takeEnd_42 : decode cX3_takeEnd 42 = .ok (.aload_n 0, 1) := by decide +kernel
theorem dX3_takeEnd_43 : decode cX3_takeEnd 43 = .ok (.iconst 1, 1) := by decide +kernel
theorem dX3_takeEnd_44 : decode cX3_takeEnd 44 = .ok (.aload_n 0, 1) := by decide +kernel
theorem dX3_takeEnd_45 : decode cX3_takeEnd 45 = .ok (.getfield 23, 3) := by decide +kernel
theorem dX3_takeEnd_48 : decode cX3_takeEnd 48 = .ok (.invokevirtual 52, 3) := by decide +kernel
theorem dX3_takeEnd_51 : decode cX3_takeEnd 51 = .ok (.return_, 1) := by decide +kernel
theorem dX3_isNumberAhead_0 : decode cX3_isNumberAhead 0 = .ok (.aload_n 0, 1) := by decide +kernel
theorem dX3_isNumberAhead_1 : decode cX3_isNumberAhead 1 = .ok (.invokevirtual 121, 3) := by decide +kernel
theorem dX3_isNumberAhead_4 : decode cX3_isNumberAhead 4 = .ok (.aload_n 0, 1) := by decide +kernel
theorem dX3_isNumberAhead_5 : decode cX3_isNumberAhead 5 = .ok (.getfield 23, 3) := by decide +kernel
theorem dX3_isNumberAhead_8 : decode cX3_isNumberAhead 8 = .ok (.aload_n 0, 1) := by decide +kernel
theorem dX3_isNumberAhead_9 : decode cX3_isNumberAhead 9 = .ok (.getfield 19, 3) := by decide +kernel
theorem dX3_isNumberAhead_12 : decode cX3_isNumberAhead 12 = .ok (.if_icmp .ge 22, 3) := by decide +kernel
theorem dX3_isNumberAhead_15 : decode cX3_isNumberAhead 15 = .ok (.aload_n 0, 1) := by decide +kernel
theorem dX3_isNumberAhead_16 : decode cX3_isNumberAhead 16 = .ok (.getfield 15, 3) := by decide +kernel
theorem dX3_isNumberAhead_19 : decode cX3_isNumberAhead 19 = .ok (.aload_n 0, 1) := by decide +kernel
theorem dX3_isNumberAhead_20 : decode cX3_isNumberAhead 20 = .ok (.getfield 23, 3) := by decide +kernel
theorem dX3_isNumberAhead_23 : decode cX3_isNumberAhead 23 = .ok (.baload, 1) := by decide +kernel
theorem dX3_isNumberAhead_24 : decode cX3_isNumberAhead 24 = .ok (.invokestatic 133, 3) := by decide +kernel
theorem dX3_isNumberAhead_27 : decode cX3_isNumberAhead 27 = .ok (.ifCond .eq 7, 3) := by decide +kernel
theorem dX3_isNumberAhead_30 : decode cX3_isNumberAhead 30 = .ok (.iconst 1, 1) := by decide +kernel
theorem dX3_isNumberAhead_31 : decode cX3_isNumberAhead 31 = .ok (.goto 4, 3) := by decide +kernel
theorem dX3_isNumberAhead_34 : decode cX3_isNumberAhead 34 = .ok (.iconst 0, 1) := by decide +kernel
theorem dX3_isNumberAhead_35 : decode cX3_isNumberAhead 35 = .ok (.ireturn, 1) := by decide +kernel
theorem dX3_isAtEnd_0 : decode cX3_isAtEnd 0 = .ok (.aload_n 0, 1) := by decide +kernel
theorem dX3_isAtEnd_1 : decode cX3_isAtEnd 1 = .ok (.invokevirtual 121, 3) := by decide +kernel
theorem dX3_isAtEnd_4 : decode cX3_isAtEnd 4 = .ok (.aload_n 0, 1) := by decide +kernel
theorem dX3_isAtEnd_5 : decode cX3_isAtEnd 5 = .ok (.getfield 23, 3) := by decide +kernel
theorem dX3_isAtEnd_8 : decode cX3_isAtEnd 8 = .ok (.aload_n 0, 1) := by decide +kernel
theorem dX3_isAtEnd_9 : decode cX3_isAtEnd 9 = .ok (.getfield 19, 3) := by decide +kernel
theorem dX3_isAtEnd_12 : decode cX3_isAtEnd 12 = .ok (.if_icmp .lt 7, 3) := by decide +kernel
theorem dX3_isAtEnd_15 : decode cX3_isAtEnd 15 = .ok (.iconst 1, 1) := by decide +kernel
theorem dX3_isAtEnd_16 : decode cX3_isAtEnd 16 = .ok (.goto 4, 3) := by decide +kernel
theorem dX3_isAtEnd_19 : decode cX3_isAtEnd 19 = .ok (.iconst 0, 1) := by decide +kernel
theorem dX3_isAtEnd_20 : decode cX3_isAtEnd 20 = .ok (.ireturn, 1) := by decide +kernel
theorem dX3_skipBlanks_0 : decode cX3_skipBlanks 0 = .ok (.aload_n 0, 1) := by decide +kernel
theorem dX3_skipBlanks_1 : decode cX3_skipBlanks 1 = .ok (.getfield 23, 3) := by decide +kernel
theorem dX3_skipBlanks_4 : decode cX3_skipBlanks 4 = .ok (.aload_n 0, 1) := by decide +kernel
theorem dX3_skipBlanks_5 : decode cX3_skipBlanks 5 = .ok (.getfield 19, 3) := by decide +kernel
theorem dX3_skipBlanks_8 : decode cX3_skipBlanks 8 = .ok (.if_icmp .ge 30, 3) := by decide +kernel
theorem dX3_skipBlanks_11 : decode cX3_skipBlanks 11 = .ok (.aload_n 0, 1) := by decide +kernel
theorem dX3_skipBlanks_12 : decode cX3_skipBlanks 12 = .ok (.getfield 15, 3) := by decide +kernel
theorem dX3_skipBlanks_15 : decode cX3_skipBlanks 15 = .ok (.aload_n 0, 1) := by decide +kernel
theorem dX3_skipBlanks_16 : decode cX3_skipBlanks 16 = .ok (.getfield 23, 3) := by decide +kernel
theorem dX3_skipBlanks_19 : decode cX3_skipBlanks 19 = .ok (.baload, 1) := by decide +kernel
theorem dX3_skipBlanks_20 : decode cX3_skipBlanks 20 = .ok (.bipush 32, 2) := by decide +kernel
theorem dX3_skipBlanks_22 : decode cX3_skipBlanks 22 = .ok (.if_icmp .ne 16, 3) := by decide +kernel
theorem dX3_skipBlanks_25 : decode cX3_skipBlanks 25 = .ok (.aload_n 0, 1) := by decide +kernel
theorem dX3_skipBlanks_26 : decode cX3_skipBlanks 26 = .ok (.dup, 1) := by decide +kernel
theorem dX3_skipBlanks_27 : decode cX3_skipBlanks 27 = .ok (.getfield 23, 3) := by decide +kernel
theorem dX3_skipBlanks_30 : decode cX3_skipBlanks 30 = .ok (.iconst 1, 1) := by decide +kernel
theorem dX3_skipBlanks_31 : decode cX3_skipBlanks 31 = .ok (.iadd, 1) := by decide +kernel
theorem dX3_skipBlanks_32 : decode cX3_skipBlanks 32 = .ok (.putfield 23, 3) := by decide +kernel
theorem dX3_skipBlanks_35 : decode cX3_skipBlanks 35 = .ok (.goto (-35), 3) := by decide +kernel
theorem dX3_skipBlanks_38 : decode cX3_skipBlanks 38 = .ok (.return_, 1) := by decide +kernel
theorem dX3_isDigit_0 : decode cX3_isDigit 0 = .ok (.iload_n 0, 1) := by decide +kernel
theorem dX3_isDigit_1 : decode cX3_isDigit 1 = .ok (.bipush 48, 2) := by decide +kernel
theorem dX3_isDigit_3 : decode cX3_isDigit 3 = .ok (.if_icmp .lt 13, 3) := by decide +kernel
theorem dX3_isDigit_6 : decode cX3_isDigit 6 = .ok (.iload_n 0, 1) := by decide +kernel
theorem dX3_isDigit_7 : decode cX3_isDigit 7 = .ok (.bipush 57, 2) := by decide +kernel
theorem dX3_isDigit_9 : decode cX3_isDigit 9 = .ok (.if_icmp .gt 7, 3) := by decide +kernel
theorem dX3_isDigit_12 : decode cX3_isDigit 12 = .ok (.iconst 1, 1) := by decide +kernel
theorem dX3_isDigit_13 : decode cX3_isDigit 13 = .ok (.goto 4, 3) := by decide +kernel
theorem dX3_isDigit_16 : decode cX3_isDigit 16 = .ok (.iconst 0, 1) := by decide +kernel
theorem dX3_isDigit_17 : decode cX3_isDigit 17 = .ok (.ireturn, 1) := by decide +kernel
theorem dX3_fail_0 : decode cX3_fail 0 = .ok (.aload_n 0, 1) := by decide +kernel
theorem dX3_fail_1 : decode cX3_fail 1 = .ok (.getfield 26, 3) := by decide +kernel
theorem dX3_fail_4 : decode cX3_fail 4 = .ok (.ifCond .ne 13, 3) := by decide +kernel
theorem dX3_fail_7 : decode cX3_fail 7 = .ok (.aload_n 0, 1) := by decide +kernel
theorem dX3_fail_8 : decode cX3_fail 8 = .ok (.iload_n 1, 1) := by decide +kernel
theorem dX3_fail_9 : decode cX3_fail 9 = .ok (.putfield 26, 3) := by decide +kernel
theorem dX3_fail_12 : decode cX3_fail 12 = .ok (.aload_n 0, 1) := by decide +kernel
theorem dX3_fail_13 : decode cX3_fail 13 = .ok (.iload_n 2, 1) := by decide +kernel
theorem dX3_fail_14 : decode cX3_fail 14 = .ok (.putfield 29, 3) := by decide +kernel
theorem dX3_fail_17 : decode cX3_fail 17 = .ok (.return_, 1) := by decide +kernel
theorem dX4_init_0 : decode cX4_init 0 = .ok (.aload_n 0, 1) := by decide +kernel
theorem dX4_init_1 : decode cX4_init 1 = .ok (.invokespecial 3, 3) := by decide +kernel
theorem dX4_init_4 : decode cX4_init 4 = .ok (.aload_n 0, 1) := by decide +kernel
theorem dX4_init_5 : decode cX4_init 5 = .ok (.bipush 12, 2) := by decide +kernel
theorem dX4_init_7 : decode cX4_init 7 = .ok (.newarray .int, 2) := by decide +kernel
theorem dX4_init_9 : decode cX4_init 9 = .ok (.putfield 9, 3) := by decide +kernel
theorem dX4_init_12 : decode cX4_init 12 = .ok (.aload_n 0, 1) := by decide +kernel
theorem dX4_init_13 : decode cX4_init 13 = .ok (.iconst 0, 1) := by decide +kernel
theorem dX4_init_14 : decode cX4_init 14 = .ok (.putfield 15, 3) := by decide +kernel
theorem dX4_init_17 : decode cX4_init 17 = .ok (.aload_n 0, 1) := by decide +kernel
theorem dX4_init_18 : decode cX4_init 18 = .ok (.iconst 0, 1) := by decide +kernel
theorem dX4_init_19 : decode cX4_init 19 = .ok (.putfield 19, 3) := by decide +kernel
theorem dX4_init_22 : decode cX4_init 22 = .ok (.aload_n 0, 1) := by decide +kernel
theorem dX4_init_23 : decode cX4_init 23 = .ok (.iconst 0, 1) := by decide +kernel
theorem dX4_init_24 : decode cX4_init 24 = .ok (.putfield 22, 3) := by decide +kernel
theorem dX4_init_27 : decode cX4_init 27 = .ok (.aload_n 0, 1) := by decide +kernel
theorem dX4_init_28 : decode cX4_init 28 = .ok (.iconst 0, 1) := by decide +kernel
theorem dX4_init_29 : decode cX4_init 29 = .ok (.putfield 25, 3) := by decide +kernel
theorem dX4_init_32 : decode cX4_init 32 = .ok (.aload_n 0, 1) := by decide +kernel
theorem dX4_init_33 : decode cX4_init 33 = .ok (.sipush 161, 3) := by decide +kernel
theorem dX4_init_36 : decode cX4_init 36 = .ok (.newarray .int, 2) := by decide +kernel
theorem dX4_init_38 : decode cX4_init 38 = .ok (.putfield 28, 3) := by decide +kernel
theorem dX4_init_41 : decode cX4_init 41 = .ok (.aload_n 0, 1) := by decide +kernel
theorem dX4_init_42 : decode cX4_init 42 = .ok (.sipush 161, 3) := by decide +kernel
theorem dX4_init_45 : decode cX4_init 45 = .ok (.newarray .int, 2) := by decide +kernel
theorem dX4_init_47 : decode cX4_init 47 = .ok (.putfield 31, 3) := by decide +kernel
theorem dX4_init_50 : decode cX4_init 50 = .ok (.aload_n 0, 1) := by decide +kernel
theorem dX4_init_51 : decode cX4_init 51 = .ok (.sipush 161, 3) := by decide +kernel
theorem dX4_init_54 : decode cX4_init 54 = .ok (.newarray .int, 2) := by decide +kernel
theorem dX4_init_56 : decode cX4_init 56 = .ok (.putfield 34, 3) := by decide +kernel
theorem dX4_init_59 : decode cX4_init 59 = .ok (.aload_n 0, 1) := by decide +kernel
theorem dX4_init_60 : decode cX4_init 60 = .ok (.sipush 4096, 3) := by decide +kernel
theorem dX4_init_63 : decode cX4_init 63 = .ok (.newarray .int, 2) := by decide +kernel
theorem dX4_init_65 : decode cX4_init 65 = .ok (.putfield 37, 3) := by decide +kernel
theorem dX4_init_68 : decode cX4_init 68 = .ok (.return_, 1) := by decide +kernel
theorem dX4_spread_0 : decode cX4_spread 0 = .ok (.iconst 0, 1) := by decide +kernel
theorem dX4_spread_1 : decode cX4_spread 1 = .ok (.istore_n 3, 1) := by decide +kernel
theorem dX4_spread_2 : decode cX4_spread 2 = .ok (.iload_n 3, 1) := by decide +kernel
theorem dX4_spread_3 : decode cX4_spread 3 = .ok (.aload_n 0, 1) := by decide +kernel
theorem dX4_spread_4 : decode cX4_spread 4 = .ok (.getfield 19, 3) := by decide +kernel
theorem dX4_spread_7 : decode cX4_spread 7 = .ok (.if_icmp .ge 21, 3) := by decide +kernel
theorem dX4_spread_10 : decode cX4_spread 10 = .ok (.aload_n 0, 1) := by decide +kernel
theorem dX4_spread_11 : decode cX4_spread 11 = .ok (.getfield 37, 3) := by decide +kernel
theorem dX4_spread_14 : decode cX4_spread 14 = .ok (.aload_n 0, 1) := by decide +kernel
theorem dX4_spread_15 : decode cX4_spread 15 = .ok (.getfield 28, 3) := by decide +kernel
theorem dX4_spread_18 : decode cX4_spread 18 = .ok (.iload_n 3, 1) := by decide +kernel
theorem dX4_spread_19 : decode cX4_spread 19 = .ok (.iaload, 1) := by decide +kernel
theorem dX4_spread_20 : decode cX4_spread 20 = .ok (.iconst 0, 1) := by decide +kernel
theorem dX4_spread_21 : decode cX4_spread 21 = .ok (.iastore, 1) := by decide +kernel
theorem dX4_spread_22 : decode cX4_spread 22 = .ok (.iinc 3 1, 3) := by decide +kernel
theorem dX4_spread_25 : decode cX4_spread 25 = .ok (.goto (-23), 3) := by decide +kernel
theorem dX4_spread_28 : decode cX4_spread 28 = .ok (.aload_n 0, 1) := by decide +kernel
theorem dX4_spread_29 : decode cX4_spread 29 = .ok (.iconst 0, 1) := by decide +kernel
theorem dX4_spread_30 : decode cX4_spread 30 = .ok (.putfield 19, 3) := by decide +kernel
theorem dX4_spread_33 : decode cX4_spread 33 = .ok (.aload_n 0, 1) := by decide +kernel
theorem dX4_spread_34 : decode cX4_spread 34 = .ok (.iconst 1, 1) := by decide +kernel
theorem dX4_spread_35 : decode cX4_spread 35 = .ok (.iload_n 2, 1) := by decide +kernel
theorem dX4_spread_36 : decode cX4_spread 36 = .ok (.ishl, 1) := by decide +kernel
theorem dX4_spread_37 : decode cX4_spread 37 = .ok (.iload_n 2, 1) := by decide +kernel
theorem dX4_spread_38 : decode cX4_spread 38 = .ok (.iconst (-1), 1) := by decide +kernel
theorem dX4_spread_39 : decode cX4_spread 39 = .ok (.invokevirtual 40, 3) := by decide +kernel
theorem dX4_spread_42 : decode cX4_spread 42 = .ok (.iconst 0, 1) := by decide +kernel
theorem dX4_spread_43 : decode cX4_spread 43 = .ok (.istore_n 3, 1) := by decide +kernel
theorem dX4_spread_44 : decode cX4_spread 44 = .ok (.iload_n 3, 1) := by decide +kernel
theorem dX4_spread_45 : decode cX4_spread 45 = .ok (.aload_n 0, 1) := by decide +kernel
theorem dX4_spread_46 : decode cX4_spread 46 = .ok (.getfield 19, 3) := by decide +kernel
theorem dX4_spread_49 : decode cX4_spread 49 = .ok (.if_icmp .ge 22, 3) := by decide +kernel
theorem dX4_spread_52 : decode cX4_spread 52 = .ok (.iload_n 3, 1) := by decide +kernel
theorem dX4_spread_53 : decode cX4_spread 53 = .ok (.sipush 161, 3) := by decide +kernel
theorem dX4_spread_56 : decode cX4_spread 56 = .ok (.if_icmp .ge 15, 3) := by decide +kernel
theorem dX4_spread_59 : decode cX4_spread 59 = .ok (.aload_n 0, 1) := by decide +kernel
theorem dX4_spread_60 : decode cX4_spread 60 = .ok (.aload_n 1, 1) := by decide +kernel
theorem dX4_spread_61 : decode cX4_spread 61 = .ok (.iload_n 3, 1) := by decide +kernel
theorem dX4_spread_62 : decode cX4_spread 62 = .ok (.invokevirtual 44, 3) := by decide +kernel
theorem dX4_spread_65 : decode cX4_spread 65 = .ok (.iinc 3 1, 3) := by decide +kernel
theorem dX4_spread_68 : decode cX4_spread 68 = .ok (.goto (-24), 3) := by decide +kernel
theorem dX4_spread_71 : decode cX4_spread 71 = .ok (.return_, 1) := by decide +kernel
theorem dX4_goOn_0 : decode cX4_goOn 0 = .ok (.aload_n 1, 1) := by decide +kernel
theorem dX4_goOn_1 : decode cX4_goOn 1 = .ok (.getfield 48, 3) := by decide +kernel
theorem dX4_goOn_4 : decode cX4_goOn 4 = .ok (.aload_n 0, 1) := by decide +kernel
theorem dX4_goOn_5 : decode cX4_goOn 5 = .ok (.getfield 31, 3) := by decide +kernel
theorem dX4_goOn_8 : decode cX4_goOn 8 = .ok (.iload_n 2, 1) := by decide +kernel
theorem dX4_goOn_9 : decode cX4_goOn 9 = .ok (.iaload, 1) := by decide +kernel
theorem dX4_goOn_10 : decode cX4_goOn 10 = .ok (.iaload, 1) := by decide +kernel
theorem dX4_goOn_11 : decode cX4_goOn 11 = .ok (.aload_n 0, 1) := by decide +kernel
theorem dX4_goOn_12 : decode cX4_goOn 12 = .ok (.getfield 28, 3) := by decide +kernel
theorem dX4_goOn_15 : decode cX4_goOn 15 = .ok (.iload_n 2, 1) := by decide +kernel
theorem dX4_goOn_16 : decode cX4_goOn 16 = .ok (.iaload, 1) := by decide +kernel
theorem dX4_goOn_17 : decode cX4_goOn 17 = .ok (.iconst (-1), 1) := by decide +kernel
theorem dX4_goOn_18 : decode cX4_goOn 18 = .ok (.ixor, 1) := by decide +kernel
theorem dX4_goOn_19 : decode cX4_goOn 19 = .ok (.iand, 1) := by decide +kernel
theorem dX4_goOn_20 : decode cX4_goOn 20 = .ok (.istore_n 3, 1) := by decide +kernel
theorem dX4_goOn_21 : decode cX4_goOn 21 = .ok (.iconst 0, 1) := by decide +kernel
theorem dX4_goOn_22 : decode cX4_goOn 22 = .ok (.istore 4, 2) := by decide +kernel
theorem dX4_goOn_24 : decode cX4_goOn 24 = .ok (.iload 4, 2) := by decide +kernel
theorem dX4_goOn_26 : decode cX4_goOn 26 = .ok (.aload_n 1, 1) := by decide +kernel
theorem dX4_goOn_27 : decode cX4_goOn 27 = .ok (.getfield 53, 3) := by decide +kernel
theorem dX4_goOn_30 : decode cX4_goOn 30 = .ok (.if_icmp .ge 73, 3) := by decide +kernel
theorem dX4_goOn_33 : decode cX4_goOn 33 = .ok (.iload_n 3, 1) := by decide +kernel
theorem dX4_goOn_34 : decode cX4_goOn 34 = .ok (.iload 4, 2) := by decide +kernel
theorem dX4_goOn_36 : decode cX4_goOn 36 = .ok (.invokestatic 56, 3) := by decide +kernel
theorem dX4_goOn_39 : decode cX4_goOn 39 = .ok (.ifCond .eq 58, 3) := by decide +kernel
theorem dX4_goOn_42 : decode cX4_goOn 42 = .ok (.aload_n 1, 1) := by decide +kernel
theorem dX4_goOn_43 : decode cX4_goOn 43 = .ok (.iload 4, 2) := by decide +kernel
theorem dX4_goOn_45 : decode cX4_goOn 45 = .ok (.invokevirtual 60, 3) := by decide +kernel
theorem dX4_goOn_48 : decode cX4_goOn 48 = .ok (.ifCond .ne 49, 3) := by decide +kernel
theorem dX4_goOn_51 : decode cX4_goOn 51 = .ok (.aload_n 1, 1) := by decide +kernel
theorem dX4_goOn_52 : decode cX4_goOn 52 = .ok (.getfield 64, 3) := by decide +kernel
theorem dX4_goOn_55 : decode cX4_goOn 55 = .ok (.iload 4, 2) := by decide +kernel
theorem dX4_goOn_57 : decode cX4_goOn 57 = .ok (.iaload, 1) := by decide +kernel
theorem dX4_goOn_58 : decode cX4_goOn 58 = .ok (.istore 5, 2) := by decide +kernel
theorem dX4_goOn_60 : decode cX4_goOn 60 = .ok (.aload_n 0, 1) := by decide +kernel
theorem dX4_goOn_61 : decode cX4_goOn 61 = .ok (.getfield 28, 3) := by decide +kernel
theorem dX4_goOn_64 : decode cX4_goOn 64 = .ok (.iload_n 2, 1) := by decide +kernel
theorem dX4_goOn_65 : decode cX4_goOn 65 = .ok (.iaload, 1) := by decide +kernel
theorem dX4_goOn_66 : decode cX4_goOn 66 = .ok (.iload 5, 2) := by decide +kernel
theorem dX4_goOn_68 : decode cX4_goOn 68 = .ok (.invokestatic 56, 3) := by decide +kernel
theorem dX4_goOn_71 : decode cX4_goOn 71 = .ok (.ifCond .ne 26, 3) := by decide +kernel
theorem dX4_goOn_74 : decode cX4_goOn 74 = .ok (.aload_n 0, 1) := by decide +kernel
theorem dX4_goOn_75 : decode cX4_goOn 75 = .ok (.aload_n 0, 1) := by decide +kernel
theorem dX4_goOn_76 : decode cX4_goOn 76 = .ok (.getfield 28, 3) := by decide +kernel
theorem dX4_goOn_79 : decode cX4_goOn 79 = .ok (.iload_n 2, 1) := by decide +kernel
theorem dX4_goOn_80 : decode cX4_goOn 80 = .ok (.iaload, 1) := by decide +kernel
theorem dX4_goOn_81 : decode cX4_goOn 81 = .ok (.iconst 1, 1) := by decide +kernel
theorem dX4_goOn_82 : decode cX4_goOn 82 = .ok (.iload 4, 2) := by decide +kernel
theorem dX4_goOn_84 : decode cX4_goOn 84 = .ok (.ishl, 1) := by decide +kernel
theorem dX4_goOn_85 : decode cX4_goOn 85 = .ok (.ior, 1) := by decide +kernel
theorem dX4_goOn_86 : decode cX4_goOn 86 = .ok (.iconst 1, 1) := by decide +kernel
theorem dX4_goOn_87 : decode cX4_goOn 87 = .ok (.iload 5, 2) := by decide +kernel
theorem dX4_goOn_89 : decode cX4_goOn 89 = .ok (.ishl, 1) := by decide +kernel
theorem dX4_goOn_90 : decode cX4_goOn 90 = .ok (.ior, 1) := by decide +kernel
theorem dX4_goOn_91 : decode cX4_goOn 91 = .ok (.iload 5, 2) := by decide +kernel
theorem dX4_goOn_93 : decode cX4_goOn 93 = .ok (.iload_n 2, 1) := by decide +kernel
theorem dX4_goOn_94 : decode cX4_goOn 94 = .ok (.invokevirtual 40, 3) := by decide +kernel
theorem dX4_goOn_97 : decode cX4_goOn 97 = .ok (.iinc 4 1, 3) := by decide +kernel
theorem dX4_goOn_100 : decode cX4_goOn 100 = .ok (.goto (-76), 3) := by decide +kernel
theorem dX4_goOn_103 : decode cX4_goOn 103 = .ok (.return_, 1) := by decide +kernel
theorem dX4_add_0 : decode cX4_add 0 = .ok (.aload_n 0, 1) := by decide +kernel
theorem dX4_add_1 : decode cX4_add 1 = .ok (.getfield 19, 3) := by decide +kernel
theorem dX4_add_4 : decode cX4_add 4 = .ok (.sipush 161, 3) := by decide +kernel
theorem dX4_add_7 : decode cX4_add 7 = .ok (.if_icmp .ge 16, 3) := by decide +kernel
theorem dX4_add_10 : decode cX4_add 10 = .ok (.aload_n 0, 1) := by decide +kernel
theorem dX4_add_11 : decode cX4_add 11 = .ok (.getfield 37, 3) := by decide +kernel
theorem dX4_add_14 : decode cX4_add 14 = .ok (.iload_n 1, 1) := by decide +kernel
theorem dX4_add_15 : decode cX4_add 15 = .ok (.iaload, 1) := by decide +kernel
theorem dX4_add_16 : decode cX4_add 16 = .ok (.iload_n 2, 1) := by decide +kernel
theorem dX4_add_17 : decode cX4_add 17 = .ok (.invokestatic 56, 3) := by decide +kernel
theorem dX4_add_20 : decode cX4_add 20 = .ok (.ifCond .eq 4, 3) := by decide +kernel
theorem dX4_add_23 : decode cX4_add 23 = .ok (.return_, 1) := by decide +kernel
theorem dX4_add_24 : decode cX4_add 24 = .ok (.aload_n 0, 1) := by decide +kernel
theorem dX4_add_25 : decode cX4_add 25 = .ok (.getfield 37, 3) := by decide +kernel
theorem dX4_add_28 : decode cX4_add 28 = .ok (.iload_n 1, 1) := by decide +kernel
theorem dX4_add_29 : decode cX4_add 29 = .ok (.dup2, 1) := by decide +kernel
theorem dX4_add_30 : decode cX4_add 30 = .ok (.iaload, 1) := by decide +kernel
theorem dX4_add_31 : decode cX4_add 31 = .ok (.iconst 1, 1) := by decide +kernel
theorem dX4_add_32 : decode cX4_add 32 = .ok (.iload_n 2, 1) := by decide +kernel
theorem dX4_add_33 : decode cX4_add 33 = .ok (.ishl, 1) := by decide +kernel
theorem dX4_add_34 : decode cX4_add 34 = .ok (.ior, 1) := by decide +kernel
theorem dX4_add_35 : decode cX4_add 35 = .ok (.iastore, 1) := by decide +kernel
theorem dX4_add_36 : decode cX4_add 36 = .ok (.aload_n 0, 1) := by decide +kernel
theorem dX4_add_37 : decode cX4_add 37 = .ok (.getfield 28, 3) := by decide +kernel
theorem dX4_add_40 : decode cX4_add 40 = .ok (.aload_n 0, 1) := by decide +kernel
theorem dX4_add_41 : decode cX4_add 41 = .ok (.getfield 19, 3) := by decide +kernel
theorem dX4_add_44 : decode cX4_add 44 = .ok (.iload_n 1, 1) := by decide +kernel
theorem dX4_add_45 : decode cX4_add 45 = .ok (.iastore, 1) := by decide +kernel
theorem dX4_add_46 : decode cX4_add 46 = .ok (.aload_n 0, 1) := by decide +kernel
theorem dX4_add_47 : decode cX4_add 47 = .ok (.getfield 31, 3) := by decide +kernel
theorem dX4_add_50 : decode cX4_add 50 = .ok (.aload_n 0, 1) := by decide +kernel
theorem dX4_add_51 : decode cX4_add 51 = .ok (.getfield 19, 3) := by decide +kernel
theorem dX4_add_54 : decode cX4_add 54 = .ok (.iload_n 2, 1) := by decide +kernel
theorem dX4_add_55 : decode cX4_add 55 = .ok (.iastore, 1) := by decide +kernel
theorem dX4_add_56 : decode cX4_add 56 = .ok (.aload_n 0, 1) := by decide +kernel
theorem dX4_add_57 : decode cX4_add 57 = .ok (.getfield 34, 3) := by decide +kernel
theorem dX4_add_60 : decode cX4_add 60 = .ok (.aload_n 0, 1) := by decide +kernel
theorem dX4_add_61 : decode cX4_add 61 = .ok (.getfield 19, 3) := by decide +kernel
theorem dX4_add_64 : decode cX4_add 64 = .ok (.iload_n 3, 1) := by decide +kernel
theorem dX4_add_65 : decode cX4_add 65 = .ok (.iastore, 1) := by decide +kernel
theorem dX4_add_66 : decode cX4_add 66 = .ok (.aload_n 0, 1) := by decide +kernel
theorem dX4_add_67 : decode cX4_add 67 = .ok (.dup, 1) := by decide +kernel
theorem dX4_add_68 : decode cX4_add 68 = .ok (.getfield 19, 3) := by decide +kernel
theorem dX4_add_71 : decode cX4_add 71 = .ok (.iconst 1, 1) := by decide +kernel
theorem dX4_add_72 : decode cX4_add 72 = .ok (.iadd, 1) := by decide +kernel
theorem dX4_add_73 : decode cX4_add 73 = .ok (.putfield 19, 3) := by decide +kernel
theorem dX4_add_76 : decode cX4_add 76 = .ok (.return_, 1) := by decide +kernel
theorem dX4_findBetterPath_0 : decode cX4_findBetterPath 0 = .ok (.aload_n 1, 1) := by decide +kernel
theorem dX4_findBetterPath_1 : decode cX4_findBetterPath 1 = .ok (.iload_n 2, 1) := by decide +kernel
theorem dX4_findBetterPath_2 : decode cX4_findBetterPath 2 = .ok (.invokevirtual 60, 3) := by decide +kernel
theorem dX4_findBetterPath_5 : decode cX4_findBetterPath 5 = .ok (.ifCond .ne 5, 3) := by decide +kernel
theorem dX4_findBetterPath_8 : decode cX4_findBetterPath 8 = .ok (.iconst 0, 1) := by decide +kernel
theorem dX4_findBetterPath_9 : decode cX4_findBetterPath 9 = .ok (.ireturn, 1) := by decide +kernel
theorem dX4_findBetterPath_10 : decode cX4_findBetterPath 10 = .ok (.aload_n 0, 1) := by decide +kernel
theorem dX4_findBetterPath_11 : decode cX4_findBetterPath 11 = .ok (.aload_n 1, 1) := by decide +kernel
theorem dX4_findBetterPath_12 : decode cX4_findBetterPath 12 = .ok (.iload_n 2, 1) := by decide +kernel
theorem dX4_findBetterPath_13 : decode cX4_findBetterPath 13 = .ok (.invokevirtual 67, 3) := by decide +kernel
theorem dX4_findBetterPath_16 : decode cX4_findBetterPath 16 = .ok (.iconst 0, 1) := by decide +kernel
theorem dX4_findBetterPath_17 : decode cX4_findBetterPath 17 = .ok (.istore_n 3, 1) := by decide +kernel
theorem dX4_findBetterPath_18 : decode cX4_findBetterPath 18 = .ok (.iload_n 3, 1) := by decide +kernel
theorem dX4_findBetterPath_19 : decode cX4_findBetterPath 19 = .ok (.aload_n 0, 1) := by decide +kernel
theorem dX4_findBetterPath_20 : decode cX4_findBetterPath 20 = .ok (.getfield 19, 3) := by decide +kernel
theorem dX4_findBetterPath_23 : decode cX4_findBetterPath 23 = .ok (.if_icmp .ge 43, 3) := by decide +kernel
theorem dX4_findBetterPath_26 : decode cX4_findBetterPath 26 = .ok (.aload_n 0, 1) := by decide +kernel
theorem dX4_findBetterPath_27 : decode cX4_findBetterPath 27 = .ok (.aload_n 1, 1) := by decide +kernel
theorem dX4_findBetterPath_28 : decode cX4_findBetterPath 28 = .ok (.aload_n 0, 1) := by decide +kernel
theorem dX4_findBetterPath_29 : decode cX4_findBetterPath 29 = .ok (.getfield 31, 3) := by decide +kernel
theorem dX4_findBetterPath_32 : decode cX4_findBetterPath 32 = .ok (.iload_n 3, 1) := by decide +kernel
theorem dX4_findBetterPath_33 : decode cX4_findBetterPath 33 = .ok (.iaload, 1) := by decide +kernel
theorem dX4_findBetterPath_34 : decode cX4_findBetterPath 34 = .ok (.iload_n 2, 1) := by decide +kernel
theorem dX4_findBetterPath_35 : decode cX4_findBetterPath 35 = .ok (.invokevirtual 70, 3) := by decide +kernel
theorem dX4_findBetterPath_38 : decode cX4_findBetterPath 38 = .ok (.istore 4, 2) := by decide +kernel
theorem dX4_findBetterPath_40 : decode cX4_findBetterPath 40 = .ok (.iload 4, 2) := by decide +kernel
theorem dX4_findBetterPath_42 : decode cX4_findBetterPath 42 = .ok (.iconst (-1), 1) := by decide +kernel
theorem dX4_findBetterPath_43 : decode cX4_findBetterPath 43 = .ok (.if_icmp .eq 17, 3) := by decide +kernel
theorem dX4_findBetterPath_46 : decode cX4_findBetterPath 46 = .ok (.aload_n 0, 1) := by decide +kernel
theorem dX4_findBetterPath_47 : decode cX4_findBetterPath 47 = .ok (.aload_n 1, 1) := by decide +kernel
theorem dX4_findBetterPath_48 : decode cX4_findBetterPath 48 = .ok (.iload_n 3, 1) := by decide +kernel
theorem dX4_findBetterPath_49 : decode cX4_findBetterPath 49 = .ok (.invokevirtual 74, 3) := by decide +kernel
theorem dX4_findBetterPath_52 : decode cX4_findBetterPath 52 = .ok (.aload_n 0, 1) := by decide +kernel
theorem dX4_findBetterPath_53 : decode cX4_findBetterPath 53 = .ok (.iload 4, 2) := by decide +kernel
theorem dX4_findBetterPath_55 : decode cX4_findBetterPath 55 = .ok (.invokevirtual 77, 3) := by decide +kernel
theorem dX4_findBetterPath_58 : decode cX4_findBetterPath 58 = .ok (.iconst 1, 1) := by decide +kernel
theorem dX4_findBetterPath_59 : decode cX4_findBetterPath 59 = .ok (.ireturn, 1) := by decide +kernel
theorem dX4_findBetterPath_60 : decode cX4_findBetterPath 60 = .ok (.iinc 3 1, 3) := by decide +kernel
theorem dX4_findBetterPath_63 : decode cX4_findBetterPath 63 = .ok (.goto (-45), 3) := by decide +kernel
theorem dX4_findBetterPath_66 : decode cX4_findBetterPath 66 = .ok (.iconst 0, 1) := by decide +kernel
theorem dX4_findBetterPath_67 : decode cX4_findBetterPath 67 = .ok (.ireturn, 1) := by decide +kernel
theorem dX4_freeBeside_0 : decode cX4_freeBeside 0 = .ok (.iconst 0, 1) := by decide +kernel
theorem dX4_freeBeside_1 : decode cX4_freeBeside 1 = .ok (.istore 4, 2) := by decide +kernel
theorem dX4_freeBeside_3 : decode cX4_freeBeside 3 = .ok (.iload 4, 2) := by decide +kernel
theorem dX4_freeBeside_5 : decode cX4_freeBeside 5 = .ok (.aload_n 1, 1) := by decide +kernel
theorem dX4_freeBeside_6 : decode cX4_freeBeside 6 = .ok (.getfield 53, 3) := by decide +kernel
theorem dX4_freeBeside_9 : decode cX4_freeBeside 9 = .ok (.if_icmp .ge 37, 3) := by decide +kernel
theorem dX4_freeBeside_12 : decode cX4_freeBeside 12 = .ok (.iload 4, 2) := by decide +kernel
theorem dX4_freeBeside_14 : decode cX4_freeBeside 14 = .ok (.iload_n 3, 1) := by decide +kernel
theorem dX4_freeBeside_15 : decode cX4_freeBeside 15 = .ok (.if_icmp .eq 25, 3) := by decide +kernel
theorem dX4_freeBeside_18 : decode cX4_freeBeside 18 = .ok (.aload_n 1, 1) := by decide +kernel
theorem dX4_freeBeside_19 : decode cX4_freeBeside 19 = .ok (.iload_n 2, 1) := by decide +kernel
theorem dX4_freeBeside_20 : decode cX4_freeBeside 20 = .ok (.iload 4, 2) := by decide +kernel
theorem dX4_freeBeside_22 : decode cX4_freeBeside 22 = .ok (.invokevirtual 81, 3) := by decide +kernel
theorem dX4_freeBeside_25 : decode cX4_freeBeside 25 = .ok (.ifCond .eq 15, 3) := by decide +kernel
theorem dX4_freeBeside_28 : decode cX4_freeBeside 28 = .ok (.aload_n 1, 1) := by decide +kernel
theorem dX4_freeBeside_29 : decode cX4_freeBeside 29 = .ok (.iload 4, 2) := by decide +kernel
theorem dX4_freeBeside_31 : decode cX4_freeBeside 31 = .ok (.invokevirtual 60, 3) := by decide +kernel
theorem dX4_freeBeside_34 : decode cX4_freeBeside 34 = .ok (.ifCond .eq 6, 3) := by decide +kernel
theorem dX4_freeBeside_37 : decode cX4_freeBeside 37 = .ok (.iload 4, 2) := by decide +kernel
theorem dX4_freeBeside_39 : decode cX4_freeBeside 39 = .ok (.ireturn, 1) := by decide +kernel
theorem dX4_freeBeside_40 : decode cX4_freeBeside 40 = .ok (.iinc 4 1, 3) := by decide +kernel
theorem dX4_freeBeside_43 : decode cX4_freeBeside 43 = .ok (.goto (-40), 3) := by decide +kernel
theorem dX4_freeBeside_46 : decode cX4_freeBeside 46 = .ok (.iconst (-1), 1) := by decide +kernel
theorem dX4_freeBeside_47 : decode cX4_freeBeside 47 = .ok (.ireturn, 1) := by decide +kernel
theorem dX4_findFlower_0 : decode cX4_findFlower 0 = .ok (.aload_n 0, 1) := by decide +kernel
theorem dX4_findFlower_1 : decode cX4_findFlower 1 = .ok (.aload_n 1, 1) := by decide +kernel
theorem dX4_findFlower_2 : decode cX4_findFlower 2 = .ok (.iload_n 2, 1) := by decide +kernel
theorem dX4_findFlower_3 : decode cX4_findFlower 3 = .ok (.invokevirtual 67, 3) := by decide +kernel
theorem dX4_findFlower_6 : decode cX4_findFlower 6 = .ok (.iconst 1, 1) := by decide +kernel
theorem dX4_findFlower_7 : decode cX4_findFlower 7 = .ok (.istore_n 3, 1) := by decide +kernel
theorem dX4_findFlower_8 : decode cX4_findFlower 8 = .ok (.iload_n 3, 1) := by decide +kernel
theorem dX4_findFlower_9 : decode cX4_findFlower 9 = .ok (.aload_n 0, 1) := by decide +kernel
theorem dX4_findFlower_10 : decode cX4_findFlower 10 = .ok (.getfield 19, 3) := by decide +kernel
theorem dX4_findFlower_13 : decode cX4_findFlower 13 = .ok (.if_icmp .ge 31, 3) := by decide +kernel
theorem dX4_findFlower_16 : decode cX4_findFlower 16 = .ok (.aload_n 1, 1) := by decide +kernel
theorem dX4_findFlower_17 : decode cX4_findFlower 17 = .ok (.aload_n 0, 1) := by decide +kernel
theorem dX4_findFlower_18 : decode cX4_findFlower 18 = .ok (.getfield 31, 3) := by decide +kernel
theorem dX4_findFlower_21 : decode cX4_findFlower 21 = .ok (.iload_n 3, 1) := by decide +kernel
theorem dX4_findFlower_22 : decode cX4_findFlower 22 = .ok (.iaload, 1) := by decide +kernel
theorem dX4_findFlower_23 : decode cX4_findFlower 23 = .ok (.iload_n 2, 1) := by decide +kernel
theorem dX4_findFlower_24 : decode cX4_findFlower 24 = .ok (.invokevirtual 81, 3) := by decide +kernel
theorem dX4_findFlower_27 : decode cX4_findFlower 27 = .ok (.ifCond .eq 11, 3) := by decide +kernel
theorem dX4_findFlower_30 : decode cX4_findFlower 30 = .ok (.aload_n 0, 1) := by decide +kernel
theorem dX4_findFlower_31 : decode cX4_findFlower 31 = .ok (.aload_n 1, 1) := by decide +kernel
theorem dX4_findFlower_32 : decode cX4_findFlower 32 = .ok (.iload_n 3, 1) := by decide +kernel
theorem dX4_findFlower_33 : decode cX4_findFlower 33 = .ok (.invokevirtual 74, 3) := by decide +kernel
theorem dX4_findFlower_36 : decode cX4_findFlower 36 = .ok (.iconst 1, 1) := by decide +kernel
theorem dX4_findFlower_37 : decode cX4_findFlower 37 = .ok (.ireturn, 1) := by decide +kernel
theorem dX4_findFlower_38 : decode cX4_findFlower 38 = .ok (.iinc 3 1, 3) := by decide +kernel
theorem dX4_findFlower_41 : decode cX4_findFlower 41 = .ok (.goto (-33), 3) := by decide +kernel
theorem dX4_findFlower_44 : decode cX4_findFlower 44 = .ok (.iconst 0, 1) := by decide +kernel
theorem dX4_findFlower_45 : decode cX4_findFlower 45 = .ok (.ireturn, 1) := by decide +kernel
theorem dX4_fillRow_0 : decode cX4_fillRow 0 = .ok (.aload_n 0, 1) := by decide +kernel
theorem dX4_fillRow_1 : decode cX4_fillRow 1 = .ok (.aload_n 0, 1) := by decide +kernel
theorem dX4_fillRow_2 : decode cX4_fillRow 2 = .ok (.getfield 28, 3) := by decide +kernel
theorem dX4_fillRow_5 : decode cX4_fillRow 5 = .ok (.iload_n 2, 1) := by decide +kernel
theorem dX4_fillRow_6 : decode cX4_fillRow 6 = .ok (.iaload, 1) := by decide +kernel
theorem dX4_fillRow_7 : decode cX4_fillRow 7 = .ok (.invokestatic 84, 3) := by decide +kernel
theorem dX4_fillRow_10 : decode cX4_fillRow 10 = .ok (.putfield 15, 3) := by decide +kernel
theorem dX4_fillRow_13 : decode cX4_fillRow 13 = .ok (.iload_n 2, 1) := by decide +kernel
theorem dX4_fillRow_14 : decode cX4_fillRow 14 = .ok (.istore_n 3, 1) := by decide +kernel
theorem dX4_fillRow_15 : decode cX4_fillRow 15 = .ok (.aload_n 0, 1) := by decide +kernel
theorem dX4_fillRow_16 : decode cX4_fillRow 16 = .ok (.getfield 15, 3) := by decide +kernel
theorem dX4_fillRow_19 : decode cX4_fillRow 19 = .ok (.iconst 1, 1) := by decide +kernel
theorem dX4_fillRow_20 : decode cX4_fillRow 20 = .ok (.isub, 1) := by decide +kernel
theorem dX4_fillRow_21 : decode cX4_fillRow 21 = .ok (.istore 4, 2) := by decide +kernel
theorem dX4_fillRow_23 : decode cX4_fillRow 23 = .ok (.iload 4, 2) := by decide +kernel
theorem dX4_fillRow_25 : decode cX4_fillRow 25 = .ok (.ifCond .le 53, 3) := by decide +kernel
theorem dX4_fillRow_28 : decode cX4_fillRow 28 = .ok (.iload_n 3, 1) := by decide +kernel
theorem dX4_fillRow_29 : decode cX4_fillRow 29 = .ok (.ifCond .le 49, 3) := by decide +kernel
theorem dX4_fillRow_32 : decode cX4_fillRow 32 = .ok (.aload_n 0, 1) := by decide +kernel
theorem dX4_fillRow_33 : decode cX4_fillRow 33 = .ok (.getfield 9, 3) := by decide +kernel
theorem dX4_fillRow_36 : decode cX4_fillRow 36 = .ok (.iload 4, 2) := by decide +kernel
theorem dX4_fillRow_38 : decode cX4_fillRow 38 = .ok (.aload_n 0, 1) := by decide +kernel
theorem dX4_fillRow_39 : decode cX4_fillRow 39 = .ok (.getfield 31, 3) := by decide +kernel
theorem dX4_fillRow_42 : decode cX4_fillRow 42 = .ok (.iload_n 3, 1) := by decide +kernel
theorem dX4_fillRow_43 : decode cX4_fillRow 43 = .ok (.iaload, 1) := by decide +kernel
theorem dX4_fillRow_44 : decode cX4_fillRow 44 = .ok (.iastore, 1) := by decide +kernel
theorem dX4_fillRow_45 : decode cX4_fillRow 45 = .ok (.aload_n 0, 1) := by decide +kernel
theorem dX4_fillRow_46 : decode cX4_fillRow 46 = .ok (.getfield 9, 3) := by decide +kernel
theorem dX4_fillRow_49 : decode cX4_fillRow 49 = .ok (.iload 4, 2) := by decide +kernel
theorem dX4_fillRow_51 : decode cX4_fillRow 51 = .ok (.iconst 1, 1) := by decide +kernel
theorem dX4_fillRow_52 : decode cX4_fillRow 52 = .ok (.isub, 1) := by decide +kernel
theorem dX4_fillRow_53 : decode cX4_fillRow 53 = .ok (.aload_n 1, 1) := by decide +kernel
theorem dX4_fillRow_54 : decode cX4_fillRow 54 = .ok (.getfield 64, 3) := by decide +kernel
theorem dX4_fillRow_57 : decode cX4_fillRow 57 = .ok (.aload_n 0, 1) := by decide +kernel
theorem dX4_fillRow_58 : decode cX4_fillRow 58 = .ok (.getfield 31, 3) := by decide +kernel
theorem dX4_fillRow_61 : decode cX4_fillRow 61 = .ok (.iload_n 3, 1) := by decide +kernel
theorem dX4_fillRow_62 : decode cX4_fillRow 62 = .ok (.iaload, 1) := by decide +kernel
theorem dX4_fillRow_63 : decode cX4_fillRow 63 = .ok (.iaload, 1) := by decide +kernel
theorem dX4_fillRow_64 : decode cX4_fillRow 64 = .ok (.iastore, 1) := by decide +kernel
theorem dX4_fillRow_65 : decode cX4_fillRow 65 = .ok (.aload_n 0, 1) := by decide +kernel
theorem dX4_fillRow_66 : decode cX4_fillRow 66 = .ok (.getfield 34, 3) := by decide +kernel
theorem dX4_fillRow_69 : decode cX4_fillRow 69 = .ok (.iload_n 3, 1) := by decide +kernel
theorem dX4_fillRow_70 : decode cX4_fillRow 70 = .ok (.iaload, 1) := by decide +kernel
theorem dX4_fillRow_71 : decode cX4_fillRow 71 = .ok (.istore_n 3, 1) := by decide +kernel
theorem dX4_fillRow_72 : decode cX4_fillRow 72 = .ok (.iinc 4 (-2), 3) := by decide +kernel
theorem dX4_fillRow_75 : decode cX4_fillRow 75 = .ok (.goto (-52), 3) := by decide +kernel
theorem dX4_fillRow_78 : decode cX4_fillRow 78 = .ok (.aload_n 0, 1) := by decide +kernel
theorem dX4_fillRow_79 : decode cX4_fillRow 79 = .ok (.getfield 9, 3) := by decide +kernel
theorem dX4_fillRow_82 : decode cX4_fillRow 82 = .ok (.iconst 0, 1) := by decide +kernel
theorem dX4_fillRow_83 : decode cX4_fillRow 83 = .ok (.aload_n 0, 1) := by decide +kernel
theorem dX4_fillRow_84 : decode cX4_fillRow 84 = .ok (.getfield 31, 3) := by decide +kernel
theorem dX4_fillRow_87 : decode cX4_fillRow 87 = .ok (.iconst 0, 1) := by decide +kernel
theorem dX4_fillRow_88 : decode cX4_fillRow 88 = .ok (.iaload, 1) := by decide +kernel
theorem dX4_fillRow_89 : decode cX4_fillRow 89 = .ok (.iastore, 1) := by decide +kernel
theorem dX4_fillRow_90 : decode cX4_fillRow 90 = .ok (.return_, 1) := by decide +kernel
theorem dX4_addToRow_0 : decode cX4_addToRow 0 = .ok (.aload_n 0, 1) := by decide +kernel
theorem dX4_addToRow_1 : decode cX4_addToRow 1 = .ok (.getfield 15, 3) := by decide +kernel
theorem dX4_addToRow_4 : decode cX4_addToRow 4 = .ok (.bipush 12, 2) := by decide +kernel
theorem dX4_addToRow_6 : decode cX4_addToRow 6 = .ok (.if_icmp .ge 23, 3) := by decide +kernel
theorem dX4_addToRow_9 : decode cX4_addToRow 9 = .ok (.aload_n 0, 1) := by decide +kernel
theorem dX4_addToRow_10 : decode cX4_addToRow 10 = .ok (.getfield 9, 3) := by decide +kernel
theorem dX4_addToRow_13 : decode cX4_addToRow 13 = .ok (.aload_n 0, 1) := by decide +kernel
theorem dX4_addToRow_14 : decode cX4_addToRow 14 = .ok (.getfield 15, 3) := by decide +kernel
theorem dX4_addToRow_17 : decode cX4_addToRow 17 = .ok (.iload_n 1, 1) := by decide +kernel
theorem dX4_addToRow_18 : decode cX4_addToRow 18 = .ok (.iastore, 1) := by decide +kernel
theorem dX4_addToRow_19 : decode cX4_addToRow 19 = .ok (.aload_n 0, 1) := by decide +kernel
theorem dX4_addToRow_20 : decode cX4_addToRow 20 = .ok (.dup, 1) := by decide +kernel
theorem dX4_addToRow_21 : decode cX4_addToRow 21 = .ok (.getfield 15, 3) := by decide +kernel
theorem dX4_addToRow_24 : decode cX4_addToRow 24 = .ok (.iconst 1, 1) := by decide +kernel
theorem dX4_addToRow_25 : decode cX4_addToRow 25 = .ok (.iadd, 1) := by decide +kernel
theorem dX4_addToRow_26 : decode cX4_addToRow 26 = .ok (.putfield 15, 3) := by decide +kernel
theorem dX4_addToRow_29 : decode cX4_addToRow 29 = .ok (.return_, 1) := by decide +kernel
theorem dX4_betterPairs_0 : decode cX4_betterPairs 0 = .ok (.iconst 0, 1) := by decide +kernel
theorem dX4_betterPairs_1 : decode cX4_betterPairs 1 = .ok (.istore_n 2, 1) := by decide +kernel
theorem dX4_betterPairs_2 : decode cX4_betterPairs 2 = .ok (.iload_n 2, 1) := by decide +kernel
theorem dX4_betterPairs_3 : decode cX4_betterPairs 3 = .ok (.iconst 1, 1) := by decide +kernel
theorem dX4_betterPairs_4 : decode cX4_betterPairs 4 = .ok (.iadd, 1) := by decide +kernel
theorem dX4_betterPairs_5 : decode cX4_betterPairs 5 = .ok (.aload_n 0, 1) := by decide +kernel
theorem dX4_betterPairs_6 : decode cX4_betterPairs 6 = .ok (.getfield 15, 3) := by decide +kernel
theorem dX4_betterPairs_9 : decode cX4_betterPairs 9 = .ok (.if_icmp .ge 27, 3) := by decide +kernel
theorem dX4_betterPairs_12 : decode cX4_betterPairs 12 = .ok (.aload_n 1, 1) := by decide +kernel
theorem dX4_betterPairs_13 : decode cX4_betterPairs 13 = .ok (.aload_n 0, 1) := by decide +kernel
theorem dX4_betterPairs_14 : decode cX4_betterPairs 14 = .ok (.getfield 9, 3) := by decide +kernel
theorem dX4_betterPairs_17 : decode cX4_betterPairs 17 = .ok (.iload_n 2, 1) := by decide +kernel
theorem dX4_betterPairs_18 : decode cX4_betterPairs 18 = .ok (.iaload, 1) := by decide +kernel
theorem dX4_betterPairs_19 : decode cX4_betterPairs 19 = .ok (.aload_n 0, 1) := by decide +kernel
theorem dX4_betterPairs_20 : decode cX4_betterPairs 20 = .ok (.getfield 9, 3) := by decide +kernel
theorem dX4_betterPairs_23 : decode cX4_betterPairs 23 = .ok (.iload_n 2, 1) := by decide +kernel
theorem dX4_betterPairs_24 : decode cX4_betterPairs 24 = .ok (.iconst 1, 1) := by decide +kernel
theorem dX4_betterPairs_25 : decode cX4_betterPairs 25 = .ok (.iadd, 1) := by decide +kernel
theorem dX4_betterPairs_26 : decode cX4_betterPairs 26 = .ok (.iaload, 1) := by decide +kernel
theorem dX4_betterPairs_27 : decode cX4_betterPairs 27 = .ok (.invokevirtual 90, 3) := by decide +kernel
theorem dX4_betterPairs_30 : decode cX4_betterPairs 30 = .ok (.iinc 2 2, 3) := by decide +kernel
theorem dX4_betterPairs_33 : decode cX4_betterPairs 33 = .ok (.goto (-31), 3) := by decide +kernel
theorem dX4_betterPairs_36 : decode cX4_betterPairs 36 = .ok (.return_, 1) := by decide +kernel
theorem dX4_shrinkInto_0 : decode cX4_shrinkInto 0 = .ok (.iconst 0, 1) := by decide +kernel
theorem dX4_shrinkInto_1 : decode cX4_shrinkInto 1 = .ok (.istore_n 3, 1) := by decide +kernel
theorem dX4_shrinkInto_2 : decode cX4_shrinkInto 2 = .ok (.iconst 1, 1) := by decide +kernel
theorem dX4_shrinkInto_3 : decode cX4_shrinkInto 3 = .ok (.istore 4, 2) := by decide +kernel
theorem dX4_shrinkInto_5 : decode cX4_shrinkInto 5 = .ok (.iload 4, 2) := by decide +kernel
theorem dX4_shrinkInto_7 : decode cX4_shrinkInto 7 = .ok (.aload_n 0, 1) := by decide +kernel
theorem dX4_shrinkInto_8 : decode cX4_shrinkInto 8 = .ok (.getfield 15, 3) := by decide +kernel
theorem dX4_shrinkInto_11 : decode cX4_shrinkInto 11 = .ok (.if_icmp .ge 21, 3) := by decide +kernel
theorem dX4_shrinkInto_14 : decode cX4_shrinkInto 14 = .ok (.iload_n 3, 1) := by decide +kernel
theorem dX4_shrinkInto_15 : decode cX4_shrinkInto 15 = .ok (.iconst 1, 1) := by decide +kernel
theorem dX4_shrinkInto_16 : decode cX4_shrinkInto 16 = .ok (.aload_n 0, 1) := by decide +kernel
theorem dX4_shrinkInto_17 : decode cX4_shrinkInto 17 = .ok (.getfield 9, 3) := by decide +kernel
theorem dX4_shrinkInto_20 : decode cX4_shrinkInto 20 = .ok (.iload 4, 2) := by decide +kernel
theorem dX4_shrinkInto_22 : decode cX4_shrinkInto 22 = .ok (.iaload, 1) := by decide +kernel
theorem dX4_shrinkInto_23 : decode cX4_shrinkInto 23 = .ok (.ishl, 1) := by decide +kernel
theorem dX4_shrinkInto_24 : decode cX4_shrinkInto 24 = .ok (.ior, 1) := by decide +kernel
theorem dX4_shrinkInto_25 : decode cX4_shrinkInto 25 = .ok (.istore_n 3, 1) := by decide +kernel
theorem dX4_shrinkInto_26 : decode cX4_shrinkInto 26 = .ok (.iinc 4 1, 3) := by decide +kernel
theorem dX4_shrinkInto_29 : decode cX4_shrinkInto 29 = .ok (.goto (-24), 3) := by decide +kernel
theorem dX4_shrinkInto_32 : decode cX4_shrinkInto 32 = .ok (.aload_n 2, 1) := by decide +kernel
theorem dX4_shrinkInto_33 : decode cX4_shrinkInto 33 = .ok (.aload_n 1, 1) := by decide +kernel
theorem dX4_shrinkInto_34 : decode cX4_shrinkInto 34 = .ok (.getfield 53, 3) := by decide +kernel
theorem dX4_shrinkInto_37 : decode cX4_shrinkInto 37 = .ok (.aload_n 0, 1) := by decide +kernel
theorem dX4_shrinkInto_38 : decode cX4_shrinkInto 38 = .ok (.getfield 15, 3) := by decide +kernel
theorem dX4_shrinkInto_41 : decode cX4_shrinkInto 41 = .ok (.isub, 1) := by decide +kernel
theorem dX4_shrinkInto_42 : decode cX4_shrinkInto 42 = .ok (.iconst 1, 1) := by decide +kernel
theorem dX4_shrinkInto_43 : decode cX4_shrinkInto 43 = .ok (.iadd, 1) := by decide +kernel
theorem dX4_shrinkInto_44 : decode cX4_shrinkInto 44 = .ok (.invokevirtual 94, 3) := by decide +kernel
theorem dX4_shrinkInto_47 : decode cX4_shrinkInto 47 = .ok (.iconst 0, 1) := by decide +kernel
theorem dX4_shrinkInto_48 : decode cX4_shrinkInto 48 = .ok (.istore 4, 2) := by decide +kernel
theorem dX4_shrinkInto_50 : decode cX4_shrinkInto 50 = .ok (.iload 4, 2) := by decide +kernel
theorem dX4_shrinkInto_52 : decode cX4_shrinkInto 52 = .ok (.aload_n 1, 1) := by decide +kernel
theorem dX4_shrinkInto_53 : decode cX4_shrinkInto 53 = .ok (.getfield 53, 3) := by decide +kernel
theorem dX4_shrinkInto_56 : decode cX4_shrinkInto 56 = .ok (.if_icmp .ge 120, 3) := by decide +kernel
theorem dX4_shrinkInto_59 : decode cX4_shrinkInto 59 = .ok (.aload_n 0, 1) := by decide +kernel
theorem dX4_shrinkInto_60 : decode cX4_shrinkInto 60 = .ok (.iload 4, 2) := by decide +kernel
theorem dX4_shrinkInto_62 : decode cX4_shrinkInto 62 = .ok (.iload_n 3, 1) := by decide +kernel
theorem dX4_shrinkInto_63 : decode cX4_shrinkInto 63 = .ok (.invokevirtual 97, 3) := by decide +kernel
theorem dX4_shrinkInto_66 : decode cX4_shrinkInto 66 = .ok (.istore 5, 2) := by decide +kernel
theorem dX4_shrinkInto_68 : decode cX4_shrinkInto 68 = .ok (.iload 4, 2) := by decide +kernel
theorem dX4_shrinkInto_70 : decode cX4_shrinkInto 70 = .ok (.iconst 1, 1) := by decide +kernel
theorem dX4_shrinkInto_71 : decode cX4_shrinkInto 71 = .ok (.iadd, 1) := by decide +kernel
theorem dX4_shrinkInto_72 : decode cX4_shrinkInto 72 = .ok (.istore 6, 2) := by decide +kernel
theorem dX4_shrinkInto_74 : decode cX4_shrinkInto 74 = .ok (.iload 6, 2) := by decide +kernel
theorem dX4_shrinkInto_76 : decode cX4_shrinkInto 76 = .ok (.aload_n 1, 1) := by decide +kernel
theorem dX4_shrinkInto_77 : decode cX4_shrinkInto 77 = .ok (.getfield 53, 3) := by decide +kernel
theorem dX4_shrinkInto_80 : decode cX4_shrinkInto 80 = .ok (.if_icmp .ge 90, 3) := by decide +kernel
theorem dX4_shrinkInto_83 : decode cX4_shrinkInto 83 = .ok (.aload_n 0, 1) := by decide +kernel
theorem dX4_shrinkInto_84 : decode cX4_shrinkInto 84 = .ok (.iload 6, 2) := by decide +kernel
theorem dX4_shrinkInto_86 : decode cX4_shrinkInto 86 = .ok (.iload_n 3, 1) := by decide +kernel
theorem dX4_shrinkInto_87 : decode cX4_shrinkInto 87 = .ok (.invokevirtual 97, 3) := by decide +kernel
theorem dX4_shrinkInto_90 : decode cX4_shrinkInto 90 = .ok (.istore 7, 2) := by decide +kernel
theorem dX4_shrinkInto_92 : decode cX4_shrinkInto 92 = .ok (.iload 5, 2) := by decide +kernel
theorem dX4_shrinkInto_94 : decode cX4_shrinkInto 94 = .ok (.iload 7, 2) := by decide +kernel
theorem dX4_shrinkInto_96 : decode cX4_shrinkInto 96 = .ok (.if_icmp .eq 41, 3) := by decide +kernel
theorem dX4_shrinkInto_99 : decode cX4_shrinkInto 99 = .ok (.aload_n 1, 1) := by decide +kernel
theorem dX4_shrinkInto_100 : decode cX4_shrinkInto 100 = .ok (.iload 4, 2) := by decide +kernel
theorem dX4_shrinkInto_102 : decode cX4_shrinkInto 102 = .ok (.iload 6, 2) := by decide +kernel
theorem dX4_shrinkInto_104 : decode cX4_shrinkInto 104 = .ok (.invokevirtual 81, 3) := by decide +kernel
theorem dX4_shrinkInto_107 : decode cX4_shrinkInto 107 = .ok (.ifCond .eq 30, 3) := by decide +kernel
theorem dX4_shrinkInto_110 : decode cX4_shrinkInto 110 = .ok (.aload_n 2, 1) := by decide +kernel
theorem dX4_shrinkInto_111 : decode cX4_shrinkInto 111 = .ok (.iload 5, 2) := by decide +kernel
theorem dX4_shrinkInto_113 : decode cX4_shrinkInto 113 = .ok (.iload 7, 2) := by decide +kernel
theorem dX4_shrinkInto_115 : decode cX4_shrinkInto 115 = .ok (.aload_n 2, 1) := by decide +kernel
theorem dX4_shrinkInto_116 : decode cX4_shrinkInto 116 = .ok (.iload 5, 2) := by decide +kernel
theorem dX4_shrinkInto_118 : decode cX4_shrinkInto 118 = .ok (.iload 7, 2) := by decide +kernel
theorem dX4_shrinkInto_120 : decode cX4_shrinkInto 120 = .ok (.invokevirtual 101, 3) := by decide +kernel
theorem dX4_shrinkInto_123 : decode cX4_shrinkInto 123 = .ok (.aload_n 1, 1) := by decide +kernel
theorem dX4_shrinkInto_124 : decode cX4_shrinkInto 124 = .ok (.iload 4, 2) := by decide +kernel
theorem dX4_shrinkInto_126 : decode cX4_shrinkInto 126 = .ok (.iload 6, 2) := by decide +kernel
theorem dX4_shrinkInto_128 : decode cX4_shrinkInto 128 = .ok (.invokevirtual 101, 3) := by decide +kernel
theorem dX4_shrinkInto_131 : decode cX4_shrinkInto 131 = .ok (.invokestatic 104, 3) := by decide +kernel
theorem dX4_shrinkInto_134 : decode cX4_shrinkInto 134 = .ok (.invokevirtual 109, 3) := by decide +kernel
theorem dX4_shrinkInto_137 : decode cX4_shrinkInto 137 = .ok (.iload 5, 2) := by decide +kernel
theorem dX4_shrinkInto_139 : decode cX4_shrinkInto 139 = .ok (.iload 7, 2) := by decide +kernel
theorem dX4_shrinkInto_141 : decode cX4_shrinkInto 141 = .ok (.if_icmp .eq 23, 3) := by decide +kernel
theorem dX4_shrinkInto_144 : decode cX4_shrinkInto 144 = .ok (.aload_n 1, 1) := by decide +kernel
theorem dX4_shrinkInto_145 : decode cX4_shrinkInto 145 = .ok (.getfield 64, 3) := by decide +kernel
theorem dX4_shrinkInto_148 : decode cX4_shrinkInto 148 = .ok (.iload 4, 2) := by decide +kernel
theorem dX4_shrinkInto_150 : decode cX4_shrinkInto 150 = .ok (.iaload, 1) := by decide +kernel
theorem dX4_shrinkInto_151 : decode cX4_shrinkInto 151 = .ok (.iload 6, 2) := by decide +kernel
theorem dX4_shrinkInto_153 : decode cX4_shrinkInto 153 = .ok (.if_icmp .ne 11, 3) := by decide +kernel
theorem dX4_shrinkInto_156 : decode cX4_shrinkInto 156 = .ok (.aload_n 2, 1) := by decide +kernel
theorem dX4_shrinkInto_157 : decode cX4_shrinkInto 157 = .ok (.iload 5, 2) := by decide +kernel
theorem dX4_shrinkInto_159 : decode cX4_shrinkInto 159 = .ok (.iload 7, 2) := by decide +kernel
theorem dX4_shrinkInto_161 : decode cX4_shrinkInto 161 = .ok (.invokevirtual 90, 3) := by decide +kernel
theorem dX4_shrinkInto_164 : decode cX4_shrinkInto 164 = .ok (.iinc 6 1, 3) := by decide +kernel
theorem dX4_shrinkInto_167 : decode cX4_shrinkInto 167 = .ok (.goto (-93), 3) := by decide +kernel
theorem dX4_shrinkInto_170 : decode cX4_shrinkInto 170 = .ok (.iinc 4 1, 3) := by decide +kernel
theorem dX4_shrinkInto_173 : decode cX4_shrinkInto 173 = .ok (.goto (-123), 3) := by decide +kernel
theorem dX4_shrinkInto_176 : decode cX4_shrinkInto 176 = .ok (.return_, 1) := by decide +kernel
theorem dX4_numberAnew_0 : decode cX4_numberAnew 0 = .ok (.iload_n 2, 1) := by decide +kernel
theorem dX4_numberAnew_1 : decode cX4_numberAnew 1 = .ok (.iload_n 1, 1) := by decide +kernel
theorem dX4_numberAnew_2 : decode cX4_numberAnew 2 = .ok (.invokestatic 56, 3) := by decide +kernel
theorem dX4_numberAnew_5 : decode cX4_numberAnew 5 = .ok (.ifCond .eq 12, 3) := by decide +kernel
theorem dX4_numberAnew_8 : decode cX4_numberAnew 8 = .ok (.aload_n 0, 1) := by decide +kernel
theorem dX4_numberAnew_9 : decode cX4_numberAnew 9 = .ok (.getfield 9, 3) := by decide +kernel
theorem dX4_numberAnew_12 : decode cX4_numberAnew 12 = .ok (.iconst 0, 1) := by decide +kernel
theorem dX4_numberAnew_13 : decode cX4_numberAnew 13 = .ok (.iaload, 1) := by decide +kernel
theorem dX4_numberAnew_14 : decode cX4_numberAnew 14 = .ok (.goto 4, 3) := by decide +kernel
theorem dX4_numberAnew_17 : decode cX4_numberAnew 17 = .ok (.iload_n 1, 1) := by decide +kernel
theorem dX4_numberAnew_18 : decode cX4_numberAnew 18 = .ok (.istore_n 3, 1) := by decide +kernel
theorem dX4_numberAnew_19 : decode cX4_numberAnew 19 = .ok (.iload_n 3, 1) := by decide +kernel
theorem dX4_numberAnew_20 : decode cX4_numberAnew 20 = .ok (.iload_n 2, 1) := by decide +kernel
theorem dX4_numberAnew_21 : decode cX4_numberAnew 21 = .ok (.iconst 1, 1) := by decide +kernel
theorem dX4_numberAnew_22 : decode cX4_numberAnew 22 = .ok (.iload_n 3, 1) := by decide +kernel
theorem dX4_numberAnew_23 : decode cX4_numberAnew 23 = .ok (.ishl, 1) := by decide +kernel
theorem dX4_numberAnew_24 : decode cX4_numberAnew 24 = .ok (.iconst 1, 1) := by decide +kernel
theorem dX4_numberAnew_25 : decode cX4_numberAnew 25 = .ok (.isub, 1) := by decide +kernel
theorem dX4_numberAnew_26 : decode cX4_numberAnew 26 = .ok (.iand, 1) := by decide +kernel
theorem dX4_numberAnew_27 : decode cX4_numberAnew 27 = .ok (.invokestatic 84, 3) := by decide +kernel
theorem dX4_numberAnew_30 : decode cX4_numberAnew 30 = .ok (.isub, 1) := by decide +kernel
theorem dX4_numberAnew_31 : decode cX4_numberAnew 31 = .ok (.ireturn, 1) := by decide +kernel
theorem dX4_label_0 : decode cX4_label 0 = .ok (.aload_n 0, 1) := by decide +kernel
theorem dX4_label_1 : decode cX4_label 1 = .ok (.iconst 0, 1) := by decide +kernel
theorem dX4_label_2 : decode cX4_label 2 = .ok (.putfield 22, 3) := by decide +kernel
theorem dX4_label_5 : decode cX4_label 5 = .ok (.aload_n 0, 1) := by decide +kernel
theorem dX4_label_6 : decode cX4_label 6 = .ok (.iconst 0, 1) := by decide +kernel
theorem dX4_label_7 : decode cX4_label 7 = .ok (.putfield 25, 3) := by decide +kernel
theorem dX4_label_10 : decode cX4_label 10 = .ok (.iconst 0, 1) := by decide +kernel
theorem dX4_label_11 : decode cX4_label 11 = .ok (.istore_n 2, 1) := by decide +kernel
theorem dX4_label_12 : decode cX4_label 12 = .ok (.iload_n 2, 1) := by decide +kernel
theorem dX4_label_13 : decode cX4_label 13 = .ok (.aload_n 1, 1) := by decide +kernel
theorem dX4_label_14 : decode cX4_label 14 = .ok (.getfield 53, 3) := by decide +kernel
theorem dX4_label_17 : decode cX4_label 17 = .ok (.if_icmp .ge 28, 3) := by decide +kernel
theorem dX4_label_20 : decode cX4_label 20 = .ok (.aload_n 1, 1) := by decide +kernel
theorem dX4_label_21 : decode cX4_label 21 = .ok (.iload_n 2, 1) := by decide +kernel
theorem dX4_label_22 : decode cX4_label 22 = .ok (.invokevirtual 60, 3) := by decide +kernel
theorem dX4_label_25 : decode cX4_label 25 = .ok (.ifCond .eq 14, 3) := by decide +kernel
theorem dX4_label_28 : decode cX4_label 28 = .ok (.aload_n 0, 1) := by decide +kernel
theorem dX4_label_29 : decode cX4_label 29 = .ok (.aload_n 1, 1) := by decide +kernel
theorem dX4_label_30 : decode cX4_label 30 = .ok (.iload_n 2, 1) := by decide +kernel
theorem dX4_label_31 : decode cX4_label 31 = .ok (.invokevirtual 67, 3) := by decide +kernel
theorem dX4_label_34 : decode cX4_label 34 = .ok (.aload_n 0, 1) := by decide +kernel
theorem dX4_label_35 : decode cX4_label 35 = .ok (.aload_n 1, 1) := by decide +kernel
theorem dX4_label_36 : decode cX4_label 36 = .ok (.invokevirtual 112, 3) := by decide +kernel
theorem dX4_label_39 : decode cX4_label 39 = .ok (.iinc 2 1, 3) := by decide +kernel
theorem dX4_label_42 : decode cX4_label 42 = .ok (.goto (-30), 3) := by decide +kernel
theorem dX4_label_45 : decode cX4_label 45 = .ok (.return_, 1) := by decide +kernel
theorem dX4_markEnds_0 : decode cX4_markEnds 0 = .ok (.iconst 0, 1) := by decide +kernel
theorem dX4_markEnds_1 : decode cX4_markEnds 1 = .ok (.istore_n 2, 1) := by decide +kernel
theorem dX4_markEnds_2 : decode cX4_markEnds 2 = .ok (.iload_n 2, 1) := by decide +kernel
theorem dX4_markEnds_3 : decode cX4_markEnds 3 = .ok (.aload_n 0, 1) := by decide +kernel
theorem dX4_markEnds_4 : decode cX4_markEnds 4 = .ok (.getfield 19, 3) := by decide +kernel
theorem dX4_markEnds_7 : decode cX4_markEnds 7 = .ok (.if_icmp .ge 55, 3) := by decide +kernel
theorem dX4_markEnds_10 : decode cX4_markEnds 10 = .ok (.aload_n 0, 1) := by decide +kernel
theorem dX4_markEnds_11 : decode cX4_markEnds 11 = .ok (.dup, 1) := by decide +kernel
theorem dX4_markEnds_12 : decode cX4_markEnds 12 = .ok (.getfield 22, 3) := by decide +kernel
theorem dX4_markEnds_15 : decode cX4_markEnds 15 = .ok (.iconst 1, 1) := by decide +kernel
theorem dX4_markEnds_16 : decode cX4_markEnds 16 = .ok (.aload_n 0, 1) := by decide +kernel
theorem dX4_markEnds_17 : decode cX4_markEnds 17 = .ok (.getfield 31, 3) := by decide +kernel
theorem dX4_markEnds_20 : decode cX4_markEnds 20 = .ok (.iload_n 2, 1) := by decide +kernel
theorem dX4_markEnds_21 : decode cX4_markEnds 21 = .ok (.iaload, 1) := by decide +kernel
theorem dX4_markEnds_22 : decode cX4_markEnds 22 = .ok (.ishl, 1) := by decide +kernel
theorem dX4_markEnds_23 : decode cX4_markEnds 23 = .ok (.ior, 1) := by decide +kernel
theorem dX4_markEnds_24 : decode cX4_markEnds 24 = .ok (.putfield 22, 3) := by decide +kernel
theorem dX4_markEnds_27 : decode cX4_markEnds 27 = .ok (.aload_n 0, 1) := by decide +kernel
theorem dX4_markEnds_28 : decode cX4_markEnds 28 = .ok (.dup, 1) := by decide +kernel
theorem dX4_markEnds_29 : decode cX4_markEnds 29 = .ok (.getfield 25, 3) := by decide +kernel
theorem dX4_markEnds_32 : decode cX4_markEnds 32 = .ok (.aload_n 1, 1) := by decide +kernel
theorem dX4_markEnds_33 : decode cX4_markEnds 33 = .ok (.getfield 48, 3) := by decide +kernel
theorem dX4_markEnds_36 : decode cX4_markEnds 36 = .ok (.aload_n 0, 1) := by decide +kernel
theorem dX4_markEnds_37 : decode cX4_markEnds 37 = .ok (.getfield 31, 3) := by decide +kernel
theorem dX4_markEnds_40 : decode cX4_markEnds 40 = .ok (.iload_n 2, 1) := by decide +kernel
theorem dX4_markEnds_41 : decode cX4_markEnds 41 = .ok (.iaload, 1) := by decide +kernel
theorem dX4_markEnds_42 : decode cX4_markEnds 42 = .ok (.iaload, 1) := by decide +kernel
theorem dX4_markEnds_43 : decode cX4_markEnds 43 = .ok (.aload_n 0, 1) := by decide +kernel
theorem dX4_markEnds_44 : decode cX4_markEnds 44 = .ok (.getfield 28, 3) := by decide +kernel
theorem dX4_markEnds_47 : decode cX4_markEnds 47 = .ok (.iload_n 2, 1) := by decide +kernel
theorem dX4_markEnds_48 : decode cX4_markEnds 48 = .ok (.iaload, 1) := by decide +kernel
theorem dX4_markEnds_49 : decode cX4_markEnds 49 = .ok (.iconst (-1), 1) := by decide +kernel
theorem dX4_markEnds_50 : decode cX4_markEnds 50 = .ok (.ixor, 1) := by decide +kernel
theorem dX4_markEnds_51 : decode cX4_markEnds 51 = .ok (.iand, 1) := by decide +kernel
theorem dX4_markEnds_52 : decode cX4_markEnds 52 = .ok (.ior, 1) := by decide +kernel
theorem dX4_markEnds_53 : decode cX4_markEnds 53 = .ok (.putfield 25, 3) := by decide +kernel
theorem dX4_markEnds_56 : decode cX4_markEnds 56 = .ok (.iinc 2 1, 3) := by decide +kernel
theorem dX4_markEnds_59 : decode cX4_markEnds 59 = .ok (.goto (-57), 3) := by decide +kernel
theorem dX4_markEnds_62 : decode cX4_markEnds 62 = .ok (.return_, 1) := by decide +kernel
theorem dX4_bitsOfLabel_0 : decode cX4_bitsOfLabel 0 = .ok (.iload_n 2, 1) := by decide +kernel
theorem dX4_bitsOfLabel_1 : decode cX4_bitsOfLabel 1 = .ok (.ifCond .ne 8, 3) := by decide +kernel
theorem dX4_bitsOfLabel_4 : decode cX4_bitsOfLabel 4 = .ok (.aload_n 0, 1) := by decide +kernel
theorem dX4_bitsOfLabel_5 : decode cX4_bitsOfLabel 5 = .ok (.getfield 22, 3) := by decide +kernel
theorem dX4_bitsOfLabel_8 : decode cX4_bitsOfLabel 8 = .ok (.ireturn, 1) := by decide +kernel
theorem dX4_bitsOfLabel_9 : decode cX4_bitsOfLabel 9 = .ok (.iload_n 2, 1) := by decide +kernel
theorem dX4_bitsOfLabel_10 : decode cX4_bitsOfLabel 10 = .ok (.iconst 1, 1) := by decide +kernel
theorem dX4_bitsOfLabel_11 : decode cX4_bitsOfLabel 11 = .ok (.if_icmp .ne 17, 3) := by decide +kernel
theorem dX4_bitsOfLabel_14 : decode cX4_bitsOfLabel 14 = .ok (.aload_n 0, 1) := by decide +kernel
theorem dX4_bitsOfLabel_15 : decode cX4_bitsOfLabel 15 = .ok (.getfield 25, 3) := by decide +kernel
theorem dX4_bitsOfLabel_18 : decode cX4_bitsOfLabel 18 = .ok (.aload_n 0, 1) := by decide +kernel
theorem dX4_bitsOfLabel_19 : decode cX4_bitsOfLabel 19 = .ok (.getfield 22, 3) := by decide +kernel
theorem dX4_bitsOfLabel_22 : decode cX4_bitsOfLabel 22 = .ok (.iconst (-1), 1) := by decide +kernel
theorem dX4_bitsOfLabel_23 : decode cX4_bitsOfLabel 23 = .ok (.ixor, 1) := by decide +kernel
theorem dX4_bitsOfLabel_24 : decode cX4_bitsOfLabel 24 = .ok (.iand, 1) := by decide +kernel
theorem dX4_bitsOfLabel_25 : decode cX4_bitsOfLabel 25 = .ok (.goto 21, 3) := by decide +kernel
theorem dX4_bitsOfLabel_28 : decode cX4_bitsOfLabel 28 = .ok (.aload_n 1, 1) := by decide +kernel
theorem dX4_bitsOfLabel_29 : decode cX4_bitsOfLabel 29 = .ok (.invokevirtual 116, 3) := by decide +kernel
theorem dX4_bitsOfLabel_32 : decode cX4_bitsOfLabel 32 = .ok (.aload_n 0, 1) := by decide +kernel
theorem dX4_bitsOfLabel_33 : decode cX4_bitsOfLabel 33 = .ok (.getfield 25, 3) := by decide +kernel
theorem dX4_bitsOfLabel_36 : decode cX4_bitsOfLabel 36 = .ok (.iconst (-1), 1) := by decide +kernel
theorem dX4_bitsOfLabel_37 : decode cX4_bitsOfLabel 37 = .ok (.ixor, 1) := by decide +kernel
theorem dX4_bitsOfLabel_38 : decode cX4_bitsOfLabel 38 = .ok (.iand, 1) := by decide +kernel
theorem dX4_bitsOfLabel_39 : decode cX4_bitsOfLabel 39 = .ok (.aload_n 0, 1) := by decide +kernel
theorem dX4_bitsOfLabel_40 : decode cX4_bitsOfLabel 40 = .ok (.getfield 22, 3) := by decide +kernel
theorem dX4_bitsOfLabel_43 : decode cX4_bitsOfLabel 43 = .ok (.iconst (-1), 1) := by decide +kernel
theorem dX4_bitsOfLabel_44 : decode cX4_bitsOfLabel 44 = .ok (.ixor, 1) := by decide +kernel
theorem dX4_bitsOfLabel_45 : decode cX4_bitsOfLabel 45 = .ok (.iand, 1) := by decide +kernel
theorem dX4_bitsOfLabel_46 : decode cX4_bitsOfLabel 46 = .ok (.ireturn, 1) := by decide +kernel
end
section
theorem dX5_init_0 : decode cX5_init 0 = .ok (.aload_n 0, 1) := by decide +kernel
theorem dX5_init_1 : decode cX5_init 1 = .ok (.invokespecial 3, 3) := by decide +kernel
theorem dX5_init_4 : decode cX5_init 4 = .ok (.aload_n 0, 1) := by decide +kernel
theorem dX5_init_5 : decode cX5_init 5 = .ok (.sipush 500, 3) := by decide +kernel
theorem dX5_init_8 : decode cX5_init 8 = .ok (.newarray .byte, 2) := by decide +kernel
theorem dX5_init_10 : decode cX5_init 10 = .ok (.putfield 9, 3) := by decide +kernel
theorem dX5_init_13 : decode cX5_init 13 = .ok (.aload_n 0, 1) := by decide +kernel
theorem dX5_init_14 : decode cX5_init 14 = .ok (.iconst 0, 1) := by decide +kernel
theorem dX5_init_15 : decode cX5_init 15 = .ok (.putfield 13, 3) := by decide +kernel
theorem dX5_init_18 : decode cX5_init 18 = .ok (.aload_n 0, 1) := by decide +kernel
theorem dX5_init_19 : decode cX5_init 19 = .ok (.iconst (-1), 1) := by decide +kernel
theorem dX5_init_20 : decode cX5_init 20 = .ok (.putfield 17, 3) := by decide +kernel
theorem dX5_init_23 : decode cX5_init 23 = .ok (.aload_n 0, 1) := by decide +kernel
theorem dX5_init_24 : decode cX5_init 24 = .ok (.new 20, 3) := by decide +kernel
theorem dX5_init_27 : decode cX5_init 27 = .ok (.dup, 1) := by decide +kernel
theorem dX5_init_28 : decode cX5_init 28 = .ok (.invokespecial 22, 3) := by decide +kernel
theorem dX5_init_31 : decode cX5_init 31 = .ok (.putfield 23, 3) := by decide +kernel
theorem dX5_init_34 : decode cX5_init 34 = .ok (.aload_n 0, 1) := by decide +kernel
theorem dX5_init_35 : decode cX5_init 35 = .ok (.new 20, 3) := by decide +kernel
theorem dX5_init_38 : decode cX5_init 38 = .ok (.dup, 1) := by decide +kernel
theorem dX5_init_39 : decode cX5_init 39 = .ok (.invokespecial 22, 3) := by decide +kernel
theorem dX5_init_42 : decode cX5_init 42 = .ok (.putfield 27, 3) := by decide +kernel
theorem dX5_init_45 : decode cX5_init 45 = .ok (.aload_n 0, 1) := by decide +kernel
theorem dX5_init_46 : decode cX5_init 46 = .ok (.bipush 8, 2) := by decide +kernel
theorem dX5_init_48 : decode cX5_init 48 = .ok (.anewarray 20, 3) := by decide +kernel
theorem dX5_init_51 : decode cX5_init 51 = .ok (.putfield 30, 3) := by decide +kernel
theorem dX5_init_54 : decode cX5_init 54 = .ok (.aload_n 0, 1) := by decide +kernel
theorem dX5_init_55 : decode cX5_init 55 = .ok (.iconst 0, 1) := by decide +kernel
theorem dX5_init_56 : decode cX5_init 56 = .ok (.putfield 34, 3) := by decide +kernel
theorem dX5_init_59 : decode cX5_init 59 = .ok (.aload_n 0, 1) := by decide +kernel
theorem dX5_init_60 : decode cX5_init 60 = .ok (.new 37, 3) := by decide +kernel
theorem dX5_init_63 : decode cX5_init 63 = .ok (.dup, 1) := by decide +kernel
theorem dX5_init_64 : decode cX5_init 64 = .ok (.invokespecial 39, 3) := by decide +kernel
theorem dX5_init_67 : decode cX5_init 67 = .ok (.putfield 40, 3) := by decide +kernel
theorem dX5_init_70 : decode cX5_init 70 = .ok (.aload_n 0, 1) := by decide +kernel
theorem dX5_init_71 : decode cX5_init 71 = .ok (.new 44, 3) := by decide +kernel
theorem dX5_init_74 : decode cX5_init 74 = .ok (.dup, 1) := by decide +kernel
theorem dX5_init_75 : decode cX5_init 75 = .ok (.invokespecial 46, 3) := by decide +kernel
theorem dX5_init_78 : decode cX5_init 78 = .ok (.putfield 47, 3) := by decide +kernel
theorem dX5_init_81 : decode cX5_init 81 = .ok (.aload_n 0, 1) := by decide +kernel
theorem dX5_init_82 : decode cX5_init 82 = .ok (.new 51, 3) := by decide +kernel
theorem dX5_init_85 : decode cX5_init 85 = .ok (.dup, 1) := by decide +kernel
theorem dX5_init_86 : decode cX5_init 86 = .ok (.invokespecial 53, 3) := by decide +kernel
theorem dX5_init_89 : decode cX5_init 89 = .ok (.putfield 54, 3) := by decide +kernel
theorem dX5_init_92 : decode cX5_init 92 = .ok (.aload_n 0, 1) := by decide +kernel
theorem dX5_init_93 : decode cX5_init 93 = .ok (.new 58, 3) := by decide +kernel
theorem dX5_init_96 : decode cX5_init 96 = .ok (.dup, 1) := by decide +kernel
theorem dX5_init_97 : decode cX5_init 97 = .ok (.invokespecial 60, 3) := by decide +kernel
theorem dX5_init_100 : decode cX5_init 100 = .ok (.putfield 61, 3) := by decide +kernel
theorem dX5_init_103 : decode cX5_init 103 = .ok (.aload_n 0, 1) := by decide +kernel
theorem dX5_init_104 : decode cX5_init 104 = .ok (.iconst 3, 1) := by decide +kernel
theorem dX5_init_105 : decode cX5_init 105 = .ok (.newarray .int, 2) := by decide +kernel
theorem dX5_init_107 : decode cX5_init 107 = .ok (.putfield 65, 3) := by decide +kernel
theorem dX5_init_110 : decode cX5_init 110 = .ok (.iconst 0, 1) := by decide +kernel
theorem dX5_init_111 : decode cX5_init 111 = .ok (.istore_n 1, 1) := by decide +kernel
theorem dX5_init_112 : decode cX5_init 112 = .ok (.iload_n 1, 1) := by decide +kernel
theorem dX5_init_113 : decode cX5_init 113 = .ok (.bipush 8, 2) := by decide +kernel
theorem dX5_init_115 : decode cX5_init 115 = .ok (.if_icmp .ge 22, 3) := by decide +kernel
theorem dX5_init_118 : decode cX5_init 118 = .ok (.aload_n 0, 1) := by decide +kernel
theorem dX5_init_119 : decode cX5_init 119 = .ok (.getfield 30, 3) := by decide +kernel
theorem dX5_init_122 : decode cX5_init 122 = .ok (.iload_n 1, 1) := by decide +kernel
theorem dX5_init_123 : decode cX5_init 123 = .ok (.new 20, 3) := by decide +kernel
theorem dX5_init_126 : decode cX5_init 126 = .ok (.dup, 1) := by decide +kernel
theorem dX5_init_127 : decode cX5_init 127 = .ok (.invokespecial 22, 3) := by decide +kernel
theorem dX5_init_130 : decode cX5_init 130 = .ok (.aastore, 1) := by decide +kernel
theorem dX5_init_131 : decode cX5_init 131 = .ok (.iinc 1 1, 3) := by decide +kernel
theorem dX5_init_134 : decode cX5_init 134 = .ok (.goto (-22), 3) := by decide +kernel
theorem dX5_init_137 : decode cX5_init 137 = .ok (.aload_n 0, 1) := by decide +kernel
theorem dX5_init_138 : decode cX5_init 138 = .ok (.getfield 23, 3) := by decide +kernel
theorem dX5_init_141 : decode cX5_init 141 = .ok (.iconst 2, 1) := by decide +kernel
theorem dX5_init_142 : decode cX5_init 142 = .ok (.invokevirtual 69, 3) := by decide +kernel
theorem dX5_init_145 : decode cX5_init 145 = .ok (.aload_n 0, 1) := by decide +kernel
theorem dX5_init_146 : decode cX5_init 146 = .ok (.getfield 23, 3) := by decide +kernel
theorem dX5_init_149 : decode cX5_init 149 = .ok (.iconst 0, 1) := by decide +kernel
theorem dX5_init_150 : decode cX5_init 150 = .ok (.iconst 1, 1) := by decide +kernel
theorem dX5_init_151 : decode cX5_init 151 = .ok (.iconst 1, 1) := by decide +kernel
theorem dX5_init_152 : decode cX5_init 152 = .ok (.invokevirtual 73, 3) := by decide +kernel
theorem dX5_init_155 : decode cX5_init 155 = .ok (.return_, 1) := by decide +kernel
theorem dX5_feed_0 : decode cX5_feed 0 = .ok (.aload_n 0, 1) := by decide +kernel
theorem dX5_feed_1 : decode cX5_feed 1 = .ok (.getfield 13, 3) := by decide +kernel
theorem dX5_feed_4 : decode cX5_feed 4 = .ok (.bipush 20, 2) := by decide +kernel
theorem dX5_feed_6 : decode cX5_feed 6 = .ok (.iadd, 1) := by decide +kernel
theorem dX5_feed_7 : decode cX5_feed 7 = .ok (.sipush 500, 3) := by decide +kernel
theorem dX5_feed_10 : decode cX5_feed 10 = .ok (.if_icmp .le 5, 3) := by decide +kernel
theorem dX5_feed_13 : decode cX5_feed 13 = .ok (.iconst (-1), 1) := by decide +kernel
theorem dX5_feed_14 : decode cX5_feed 14 = .ok (.ireturn, 1) := by decide +kernel
theorem dX5_feed_15 : decode cX5_feed 15 = .ok (.aload_n 0, 1) := by decide +kernel
theorem dX5_feed_16 : decode cX5_feed 16 = .ok (.iload_n 1, 1) := by decide +kernel
theorem dX5_feed_17 : decode cX5_feed 17 = .ok (.invokevirtual 77, 3) := by decide +kernel
theorem dX5_feed_20 : decode cX5_feed 20 = .ok (.aload_n 0, 1) := by decide +kernel
theorem dX5_feed_21 : decode cX5_feed 21 = .ok (.iload_n 2, 1) := by decide +kernel
theorem dX5_feed_22 : decode cX5_feed 22 = .ok (.invokevirtual 77, 3) := by decide +kernel
theorem dX5_feed_25 : decode cX5_feed 25 = .ok (.aload_n 0, 1) := by decide +kernel
theorem dX5_feed_26 : decode cX5_feed 26 = .ok (.iload_n 3, 1) := by decide +kernel
theorem dX5_feed_27 : decode cX5_feed 27 = .ok (.invokevirtual 77, 3) := by decide +kernel
theorem dX5_feed_30 : decode cX5_feed 30 = .ok (.aload_n 0, 1) := by decide +kernel
theorem dX5_feed_31 : decode cX5_feed 31 = .ok (.iload 4, 2) := by decide +kernel
theorem dX5_feed_33 : decode cX5_feed 33 = .ok (.invokevirtual 77, 3) := by decide +kernel
theorem dX5_feed_36 : decode cX5_feed 36 = .ok (.aload_n 0, 1) := by decide +kernel
theorem dX5_feed_37 : decode cX5_feed 37 = .ok (.iload 5, 2) := by decide +kernel
theorem dX5_feed_39 : decode cX5_feed 39 = .ok (.invokevirtual 77, 3) := by decide +kernel
theorem dX5_feed_42 : decode cX5_feed 42 = .ok (.aload_n 0, 1) := by decide +kernel
theorem dX5_feed_43 : decode cX5_feed 43 = .ok (.getfield 13, 3) := by decide +kernel
theorem dX5_feed_46 : decode cX5_feed 46 = .ok (.ireturn, 1) := by decide +kernel
theorem dX5_text_0 : decode cX5_text 0 = .ok (.aload_n 0, 1) := by decide +kernel
theorem dX5_text_1 : decode cX5_text 1 = .ok (.iload_n 1, 1) := by decide +kernel
theorem dX5_text_2 : decode cX5_text 2 = .ok (.ifCond .lt 15, 3) := by decide +kernel
theorem dX5_text_5 : decode cX5_text 5 = .ok (.iload_n 1, 1) := by decide +kernel
theorem dX5_text_6 : decode cX5_text 6 = .ok (.aload_n 0, 1) := by decide +kernel
theorem dX5_text_7 : decode cX5_text 7 = .ok (.getfield 13, 3) := by decide +kernel
theorem dX5_text_10 : decode cX5_text 10 = .ok (.if_icmp .gt 7, 3) := by decide +kernel
theorem dX5_text_13 : decode cX5_text 13 = .ok (.iconst 1, 1) := by decide +kernel
theorem dX5_text_14 : decode cX5_text 14 = .ok (.goto 4, 3) := by decide +kernel
theorem dX5_text_17 : decode cX5_text 17 = .ok (.iconst 0, 1) := by decide +kernel
theorem dX5_text_18 : decode cX5_text 18 = .ok (.invokevirtual 80, 3) := by decide +kernel
theorem dX5_text_21 : decode cX5_text 21 = .ok (.aload_n 0, 1) := by decide +kernel
theorem dX5_text_22 : decode cX5_text 22 = .ok (.getfield 40, 3) := by decide +kernel
theorem dX5_text_25 : decode cX5_text 25 = .ok (.aload_n 0, 1) := by decide +kernel
theorem dX5_text_26 : decode cX5_text 26 = .ok (.getfield 9, 3) := by decide +kernel
theorem dX5_text_29 : decode cX5_text 29 = .ok (.iload_n 1, 1) := by decide +kernel
theorem dX5_text_30 : decode cX5_text 30 = .ok (.aload_n 0, 1) := by decide +kernel
theorem dX5_text_31 : decode cX5_text 31 = .ok (.getfield 27, 3) := by decide +kernel
theorem dX5_text_34 : decode cX5_text 34 = .ok (.invokevirtual 84, 3) := by decide +kernel
theorem dX5_text_37 : decode cX5_text 37 = .ok (.aload_n 0, 1) := by decide +kernel
theorem dX5_text_38 : decode cX5_text 38 = .ok (.iconst 0, 1) := by decide +kernel
theorem dX5_text_39 : decode cX5_text 39 = .ok (.putfield 13, 3) := by decide +kernel
theorem dX5_text_42 : decode cX5_text 42 = .ok (.aload_n 0, 1) := by decide +kernel
theorem dX5_text_43 : decode cX5_text 43 = .ok (.aload_n 0, 1) := by decide +kernel
theorem dX5_text_44 : decode cX5_text 44 = .ok (.getfield 40, 3) := by decide +kernel
theorem dX5_text_47 : decode cX5_text 47 = .ok (.getfield 88, 3) := by decide +kernel
theorem dX5_text_50 : decode cX5_text 50 = .ok (.putfield 17, 3) := by decide +kernel
theorem dX5_text_53 : decode cX5_text 53 = .ok (.aload_n 0, 1) := by decide +kernel
theorem dX5_text_54 : decode cX5_text 54 = .ok (.getfield 40, 3) := by decide +kernel
theorem dX5_text_57 : decode cX5_text 57 = .ok (.getfield 91, 3) := by decide +kernel
theorem dX5_text_60 : decode cX5_text 60 = .ok (.ifCond .eq 14, 3) := by decide +kernel
theorem dX5_text_63 : decode cX5_text 63 = .ok (.aload_n 0, 1) := by decide +kernel
theorem dX5_text_64 : decode cX5_text 64 = .ok (.getfield 40, 3) := by decide +kernel
theorem dX5_text_67 : decode cX5_text 67 = .ok (.getfield 91, 3) := by decide +kernel
theorem dX5_text_70 : decode cX5_text 70 = .ok (.bipush 10, 2) := by decide +kernel
theorem dX5_text_72 : decode cX5_text 72 = .ok (.isub, 1) := by decide +kernel
theorem dX5_text_73 : decode cX5_text 73 = .ok (.ireturn, 1) := by decide +kernel
theorem dX5_text_74 : decode cX5_text 74 = .ok (.aload_n 0, 1) := by decide +kernel
theorem dX5_text_75 : decode cX5_text 75 = .ok (.invokevirtual 94, 3) := by decide +kernel
theorem dX5_text_78 : decode cX5_text 78 = .ok (.aload_n 0, 1) := by decide +kernel
theorem dX5_text_79 : decode cX5_text 79 = .ok (.getfield 23, 3) := by decide +kernel
theorem dX5_text_82 : decode cX5_text 82 = .ok (.getfield 97, 3) := by decide +kernel
theorem dX5_text_85 : decode cX5_text 85 = .ok (.ireturn, 1) := by decide +kernel
theorem dX5_fault_0 : decode cX5_fault 0 = .ok (.aload_n 0, 1) := by decide +kernel
theorem dX5_fault_1 : decode cX5_fault 1 = .ok (.getfield 17, 3) := by decide +kernel
theorem dX5_fault_4 : decode cX5_fault 4 = .ok (.ireturn, 1) := by decide +kernel
theorem dX5_join_0 : decode cX5_join 0 = .ok (.aload_n 0, 1) := by decide +kernel
theorem dX5_join_1 : decode cX5_join 1 = .ok (.iload_n 1, 1) := by decide +kernel
theorem dX5_join_2 : decode cX5_join 2 = .ok (.invokevirtual 100, 3) := by decide +kernel
theorem dX5_join_5 : decode cX5_join 5 = .ok (.aload_n 0, 1) := by decide +kernel
theorem dX5_join_6 : decode cX5_join 6 = .ok (.iload_n 2, 1) := by decide +kernel
theorem dX5_join_7 : decode cX5_join 7 = .ok (.invokevirtual 100, 3) := by decide +kernel
theorem dX5_join_10 : decode cX5_join 10 = .ok (.aload_n 0, 1) := by decide +kernel
theorem dX5_join_11 : decode cX5_join 11 = .ok (.iload_n 1, 1) := by decide +kernel
theorem dX5_join_12 : decode cX5_join 12 = .ok (.iload_n 2, 1) := by decide +kernel
theorem dX5_join_13 : decode cX5_join 13 = .ok (.if_icmp .eq 18, 3) := by decide +kernel
theorem dX5_join_16 : decode cX5_join 16 = .ok (.iload_n 3, 1) := by decide +kernel
theorem dX5_join_17 : decode cX5_join 17 = .ok (.ifCond .lt 14, 3) := by decide +kernel
theorem dX5_join_20 : decode cX5_join 20 = .ok (.iload_n 3, 1) := by decide +kernel
theorem dX5_join_21 : decode cX5_join 21 = .ok (.sipush 999, 3) := by decide +kernel
theorem dX5_join_24 : decode cX5_join 24 = .ok (.if_icmp .gt 7, 3) := by decide +kernel
theorem dX5_join_27 : decode cX5_join 27 = .ok (.iconst 1, 1) := by decide +kernel
theorem dX5_join_28 : decode cX5_join 28 = .ok (.goto 4, 3) := by decide +kernel
theorem dX5_join_31 : decode cX5_join 31 = .ok (.iconst 0, 1) := by decide +kernel
theorem dX5_join_32 : decode cX5_join 32 = .ok (.invokevirtual 80, 3) := by decide +kernel
theorem dX5_join_35 : decode cX5_join 35 = .ok (.aload_n 0, 1) := by decide +kernel
theorem dX5_join_36 : decode cX5_join 36 = .ok (.invokevirtual 103, 3) := by decide +kernel
theorem dX5_join_39 : decode cX5_join 39 = .ok (.aload_n 0, 1) := by decide +kernel
theorem dX5_join_40 : decode cX5_join 40 = .ok (.getfield 23, 3) := by decide +kernel
theorem dX5_join_43 : decode cX5_join 43 = .ok (.iload_n 1, 1) := by decide +kernel
theorem dX5_join_44 : decode cX5_join 44 = .ok (.iload_n 2, 1) := by decide +kernel
theorem dX5_join_45 : decode cX5_join 45 = .ok (.iload_n 3, 1) := by decide +kernel
theorem dX5_join_46 : decode cX5_join 46 = .ok (.invokevirtual 73, 3) := by decide +kernel
theorem dX5_join_49 : decode cX5_join 49 = .ok (.aload_n 0, 1) := by decide +kernel
theorem dX5_join_50 : decode cX5_join 50 = .ok (.getfield 23, 3) := by decide +kernel
theorem dX5_join_53 : decode cX5_join 53 = .ok (.getfield 97, 3) := by decide +kernel
theorem dX5_join_56 : decode cX5_join 56 = .ok (.ireturn, 1) := by decide +kernel
theorem dX5_cut_0 : decode cX5_cut 0 = .ok (.aload_n 0, 1) := by decide +kernel
theorem dX5_cut_1 : decode cX5_cut 1 = .ok (.iload_n 1, 1) := by decide +kernel
theorem dX5_cut_2 : decode cX5_cut 2 = .ok (.iload_n 2, 1) := by decide +kernel
theorem dX5_cut_3 : decode cX5_cut 3 = .ok (.invokevirtual 106, 3) := by decide +kernel
theorem dX5_cut_6 : decode cX5_cut 6 = .ok (.aload_n 0, 1) := by decide +kernel
theorem dX5_cut_7 : decode cX5_cut 7 = .ok (.aload_n 0, 1) := by decide +kernel
theorem dX5_cut_8 : decode cX5_cut 8 = .ok (.getfield 23, 3) := by decide +kernel
theorem dX5_cut_11 : decode cX5_cut 11 = .ok (.iload_n 1, 1) := by decide +kernel
theorem dX5_cut_12 : decode cX5_cut 12 = .ok (.iload_n 2, 1) := by decide +kernel
theorem dX5_cut_13 : decode cX5_cut 13 = .ok (.invokevirtual 110, 3) := by decide +kernel
theorem dX5_cut_16 : decode cX5_cut 16 = .ok (.invokevirtual 114, 3) := by decide +kernel
theorem dX5_cut_19 : decode cX5_cut 19 = .ok (.aload_n 0, 1) := by decide +kernel
theorem dX5_cut_20 : decode cX5_cut 20 = .ok (.invokevirtual 103, 3) := by decide +kernel
theorem dX5_cut_23 : decode cX5_cut 23 = .ok (.aload_n 0, 1) := by decide +kernel
theorem dX5_cut_24 : decode cX5_cut 24 = .ok (.getfield 23, 3) := by decide +kernel
theorem dX5_cut_27 : decode cX5_cut 27 = .ok (.iload_n 1, 1) := by decide +kernel
theorem dX5_cut_28 : decode cX5_cut 28 = .ok (.iload_n 2, 1) := by decide +kernel
theorem dX5_cut_29 : decode cX5_cut 29 = .ok (.invokevirtual 117, 3) := by decide +kernel
theorem dX5_cut_32 : decode cX5_cut 32 = .ok (.aload_n 0, 1) := by decide +kernel
theorem dX5_cut_33 : decode cX5_cut 33 = .ok (.getfield 23, 3) := by decide +kernel
theorem dX5_cut_36 : decode cX5_cut 36 = .ok (.getfield 97, 3) := by decide +kernel
theorem dX5_cut_39 : decode cX5_cut 39 = .ok (.ireturn, 1) := by decide +kernel
theorem dX5_pair_0 : decode cX5_pair 0 = .ok (.aload_n 0, 1) := by decide +kernel
theorem dX5_pair_1 : decode cX5_pair 1 = .ok (.iload_n 1, 1) := by decide +kernel
theorem dX5_pair_2 : decode cX5_pair 2 = .ok (.iload_n 2, 1) := by decide +kernel
theorem dX5_pair_3 : decode cX5_pair 3 = .ok (.invokevirtual 106, 3) := by decide +kernel
theorem dX5_pair_6 : decode cX5_pair 6 = .ok (.aload_n 0, 1) := by decide +kernel
theorem dX5_pair_7 : decode cX5_pair 7 = .ok (.aload_n 0, 1) := by decide +kernel
theorem dX5_pair_8 : decode cX5_pair 8 = .ok (.getfield 23, 3) := by decide +kernel
theorem dX5_pair_11 : decode cX5_pair 11 = .ok (.iload_n 1, 1) := by decide +kernel
theorem dX5_pair_12 : decode cX5_pair 12 = .ok (.iload_n 2, 1) := by decide +kernel
theorem dX5_pair_13 : decode cX5_pair 13 = .ok (.invokevirtual 110, 3) := by decide +kernel
theorem dX5_pair_16 : decode cX5_pair 16 = .ok (.ifCond .eq 29, 3) := by decide +kernel
theorem dX5_pair_19 : decode cX5_pair 19 = .ok (.aload_n 0, 1) := by decide +kernel
theorem dX5_pair_20 : decode cX5_pair 20 = .ok (.getfield 23, 3) := by decide +kernel
theorem dX5_pair_23 : decode cX5_pair 23 = .ok (.iload_n 1, 1) := by decide +kernel
theorem dX5_pair_24 : decode cX5_pair 24 = .ok (.invokevirtual 120, 3) := by decide +kernel
theorem dX5_pair_27 : decode cX5_pair 27 = .ok (.ifCond .eq 18, 3) := by decide +kernel
theorem dX5_pair_30 : decode cX5_pair 30 = .ok (.aload_n 0, 1) := by decide +kernel
theorem dX5_pair_31 : decode cX5_pair 31 = .ok (.getfield 23, 3) := by decide +kernel
theorem dX5_pair_34 : decode cX5_pair 34 = .ok (.iload_n 2, 1) := by decide +kernel
theorem dX5_pair_35 : decode cX5_pair 35 = .ok (.invokevirtual 120, 3) := by decide +kernel
theorem dX5_pair_38 : decode cX5_pair 38 = .ok (.ifCond .eq 7, 3) := by decide +kernel
theorem dX5_pair_41 : decode cX5_pair 41 = .ok (.iconst 1, 1) := by decide +kernel
theorem dX5_pair_42 : decode cX5_pair 42 = .ok (.goto 4, 3) := by decide +kernel
theorem dX5_pair_45 : decode cX5_pair 45 = .ok (.iconst 0, 1) := by decide +kernel
theorem dX5_pair_46 : decode cX5_pair 46 = .ok (.invokevirtual 114, 3) := by decide +kernel
theorem dX5_pair_49 : decode cX5_pair 49 = .ok (.aload_n 0, 1) := by decide +kernel
theorem dX5_pair_50 : decode cX5_pair 50 = .ok (.invokevirtual 124, 3) := by decide +kernel
theorem dX5_pair_53 : decode cX5_pair 53 = .ok (.aload_n 0, 1) := by decide +kernel
theorem dX5_pair_54 : decode cX5_pair 54 = .ok (.getfield 23, 3) := by decide +kernel
theorem dX5_pair_57 : decode cX5_pair 57 = .ok (.iload_n 1, 1) := by decide +kernel
theorem dX5_pair_58 : decode cX5_pair 58 = .ok (.iload_n 2, 1) := by decide +kernel
theorem dX5_pair_59 : decode cX5_pair 59 = .ok (.invokevirtual 127, 3) := by decide +kernel
theorem dX5_pair_62 : decode cX5_pair 62 = .ok (.aload_n 0, 1) := by decide +kernel
theorem dX5_pair_63 : decode cX5_pair 63 = .ok (.getfield 23, 3) := by decide +kernel
theorem dX5_pair_66 : decode cX5_pair 66 = .ok (.invokevirtual 130, 3) := by decide +kernel
theorem dX5_pair_69 : decode cX5_pair 69 = .ok (.ireturn, 1) := by decide +kernel
theorem dX5_part_0 : decode cX5_part 0 = .ok (.aload_n 0, 1) := by decide +kernel
theorem dX5_part_1 : decode cX5_part 1 = .ok (.iload_n 1, 1) := by decide +kernel
theorem dX5_part_2 : decode cX5_part 2 = .ok (.invokevirtual 100, 3) := by decide +kernel
theorem dX5_part_5 : decode cX5_part 5 = .ok (.aload_n 0, 1) := by decide +kernel
theorem dX5_part_6 : decode cX5_part 6 = .ok (.aload_n 0, 1) := by decide +kernel
theorem dX5_part_7 : decode cX5_part 7 = .ok (.getfield 23, 3) := by decide +kernel
theorem dX5_part_10 : decode cX5_part 10 = .ok (.iload_n 1, 1) := by decide +kernel
theorem dX5_part_11 : decode cX5_part 11 = .ok (.invokevirtual 120, 3) := by decide +kernel
theorem dX5_part_14 : decode cX5_part 14 = .ok (.ifCond .ne 7, 3) := by decide +kernel
theorem dX5_part_17 : decode cX5_part 17 = .ok (.iconst 1, 1) := by decide +kernel
theorem dX5_part_18 : decode cX5_part 18 = .ok (.goto 4, 3) := by decide +kernel
theorem dX5_part_21 : decode cX5_part 21 = .ok (.iconst 0, 1) := by decide +kernel
theorem dX5_part_22 : decode cX5_part 22 = .ok (.invokevirtual 114, 3) := by decide +kernel
theorem dX5_part_25 : decode cX5_part 25 = .ok (.aload_n 0, 1) := by decide +kernel
theorem dX5_part_26 : decode cX5_part 26 = .ok (.invokevirtual 124, 3) := by decide +kernel
theorem dX5_part_29 : decode cX5_part 29 = .ok (.aload_n 0, 1) := by decide +kernel
theorem dX5_part_30 : decode cX5_part 30 = .ok (.getfield 23, 3) := by decide +kernel
theorem dX5_part_33 : decode cX5_part 33 = .ok (.getfield 134, 3) := by decide +kernel
theorem dX5_part_36 : decode cX5_part 36 = .ok (.iload_n 1, 1) := by decide +kernel
theorem dX5_part_37 : decode cX5_part 37 = .ok (.iaload, 1) := by decide +kernel
theorem dX5_part_38 : decode cX5_part 38 = .ok (.istore_n 2, 1) := by decide +kernel
theorem dX5_part_39 : decode cX5_part 39 = .ok (.aload_n 0, 1) := by decide +kernel
theorem dX5_part_40 : decode cX5_part 40 = .ok (.getfield 23, 3) := by decide +kernel
theorem dX5_part_43 : decode cX5_part 43 = .ok (.iload_n 1, 1) := by decide +kernel
theorem dX5_part_44 : decode cX5_part 44 = .ok (.invokevirtual 137, 3) := by decide +kernel
theorem dX5_part_47 : decode cX5_part 47 = .ok (.iload_n 2, 1) := by decide +kernel
theorem dX5_part_48 : decode cX5_part 48 = .ok (.ireturn, 1) := by decide +kernel
theorem dX5_better_0 : decode cX5_better 0 = .ok (.aload_n 0, 1) := by decide +kernel
theorem dX5_better_1 : decode cX5_better 1 = .ok (.iload_n 1, 1) := by decide +kernel
theorem dX5_better_2 : decode cX5_better 2 = .ok (.invokevirtual 100, 3) := by decide +kernel
theorem dX5_better_5 : decode cX5_better 5 = .ok (.aload_n 0, 1) := by decide +kernel
theorem dX5_better_6 : decode cX5_better 6 = .ok (.aload_n 0, 1) := by decide +kernel
theorem dX5_better_7 : decode cX5_better 7 = .ok (.getfield 61, 3) := by decide +kernel
theorem dX5_better_10 : decode cX5_better 10 = .ok (.aload_n 0, 1) := by decide +kernel
theorem dX5_better_11 : decode cX5_better 11 = .ok (.getfield 23, 3) := by decide +kernel
theorem dX5_better_14 : decode cX5_better 14 = .ok (.iload_n 1, 1) := by decide +kernel
theorem dX5_better_15 : decode cX5_better 15 = .ok (.invokevirtual 140, 3) := by decide +kernel
theorem dX5_better_18 : decode cX5_better 18 = .ok (.invokevirtual 114, 3) := by decide +kernel
theorem dX5_better_21 : decode cX5_better 21 = .ok (.aload_n 0, 1) := by decide +kernel
theorem dX5_better_22 : decode cX5_better 22 = .ok (.invokevirtual 124, 3) := by decide +kernel
theorem dX5_better_25 : decode cX5_better 25 = .ok (.aload_n 0, 1) := by decide +kernel
theorem dX5_better_26 : decode cX5_better 26 = .ok (.getfield 61, 3) := by decide +kernel
theorem dX5_better_29 : decode cX5_better 29 = .ok (.aload_n 0, 1) := by decide +kernel
theorem dX5_better_30 : decode cX5_better 30 = .ok (.getfield 23, 3) := by decide +kernel
theorem dX5_better_33 : decode cX5_better 33 = .ok (.invokevirtual 144, 3) := by decide +kernel
theorem dX5_better_36 : decode cX5_better 36 = .ok (.aload_n 0, 1) := by decide +kernel
theorem dX5_better_37 : decode cX5_better 37 = .ok (.getfield 23, 3) := by decide +kernel
theorem dX5_better_40 : decode cX5_better 40 = .ok (.invokevirtual 130, 3) := by decide +kernel
theorem dX5_better_43 : decode cX5_better 43 = .ok (.ireturn, 1) := by decide +kernel
theorem dX5_finish_0 : decode cX5_finish 0 = .ok (.aload_n 0, 1) := by decide +kernel
theorem dX5_finish_1 : decode cX5_finish 1 = .ok (.getfield 47, 3) := by decide +kernel
theorem dX5_finish_4 : decode cX5_finish 4 = .ok (.aload_n 0, 1) := by decide +kernel
theorem dX5_finish_5 : decode cX5_finish 5 = .ok (.getfield 23, 3) := by decide +kernel
theorem dX5_finish_8 : decode cX5_finish 8 = .ok (.invokevirtual 148, 3) := by decide +kernel
theorem dX5_finish_11 : decode cX5_finish 11 = .ok (.aload_n 0, 1) := by decide +kernel
theorem dX5_finish_12 : decode cX5_finish 12 = .ok (.getfield 23, 3) := by decide +kernel
theorem dX5_finish_15 : decode cX5_finish 15 = .ok (.invokevirtual 130, 3) := by decide +kernel
theorem dX5_finish_18 : decode cX5_finish 18 = .ok (.istore_n 1, 1) := by decide +kernel
theorem dX5_finish_19 : decode cX5_finish 19 = .ok (.aload_n 0, 1) := by decide +kernel
theorem dX5_finish_20 : decode cX5_finish 20 = .ok (.invokevirtual 124, 3) := by decide +kernel
theorem dX5_finish_23 : decode cX5_finish 23 = .ok (.aload_n 0, 1) := by decide +kernel
theorem dX5_finish_24 : decode cX5_finish 24 = .ok (.getfield 47, 3) := by decide +kernel
theorem dX5_finish_27 : decode cX5_finish 27 = .ok (.getfield 151, 3) := by decide +kernel
theorem dX5_finish_30 : decode cX5_finish 30 = .ok (.iconst 0, 1) := by decide +kernel
theorem dX5_finish_31 : decode cX5_finish 31 = .ok (.aload_n 0, 1) := by decide +kernel
theorem dX5_finish_32 : decode cX5_finish 32 = .ok (.getfield 23, 3) := by decide +kernel
theorem dX5_finish_35 : decode cX5_finish 35 = .ok (.getfield 134, 3) := by decide +kernel
theorem dX5_finish_38 : decode cX5_finish 38 = .ok (.iconst 0, 1) := by decide +kernel
theorem dX5_finish_39 : decode cX5_finish 39 = .ok (.bipush 12, 2) := by decide +kernel
theorem dX5_finish_41 : decode cX5_finish 41 = .ok (.invokestatic 154, 3) := by decide +kernel
theorem dX5_finish_44 : decode cX5_finish 44 = .ok (.aload_n 0, 1) := by decide +kernel
theorem dX5_finish_45 : decode cX5_finish 45 = .ok (.getfield 23, 3) := by decide +kernel
theorem dX5_finish_48 : decode cX5_finish 48 = .ok (.invokevirtual 130, 3) := by decide +kernel
theorem dX5_finish_51 : decode cX5_finish 51 = .ok (.iload_n 1, 1) := by decide +kernel
theorem dX5_finish_52 : decode cX5_finish 52 = .ok (.isub, 1) := by decide +kernel
theorem dX5_finish_53 : decode cX5_finish 53 = .ok (.ireturn, 1) := by decide +kernel
theorem dX5_shrink_0 : decode cX5_shrink 0 = .ok (.aload_n 0, 1) := by decide +kernel
theorem dX5_shrink_1 : decode cX5_shrink 1 = .ok (.iload_n 1, 1) := by decide +kernel
theorem dX5_shrink_2 : decode cX5_shrink 2 = .ok (.invokevirtual 100, 3) := by decide +kernel
theorem dX5_shrink_5 : decode cX5_shrink 5 = .ok (.aload_n 0, 1) := by decide +kernel
theorem dX5_shrink_6 : decode cX5_shrink 6 = .ok (.aload_n 0, 1) := by decide +kernel
theorem dX5_shrink_7 : decode cX5_shrink 7 = .ok (.getfield 61, 3) := by decide +kernel
theorem dX5_shrink_10 : decode cX5_shrink 10 = .ok (.aload_n 0, 1) := by decide +kernel
theorem dX5_shrink_11 : decode cX5_shrink 11 = .ok (.getfield 23, 3) := by decide +kernel
theorem dX5_shrink_14 : decode cX5_shrink 14 = .ok (.iload_n 1, 1) := by decide +kernel
theorem dX5_shrink_15 : decode cX5_shrink 15 = .ok (.invokevirtual 160, 3) := by decide +kernel
theorem dX5_shrink_18 : decode cX5_shrink 18 = .ok (.invokevirtual 114, 3) := by decide +kernel
theorem dX5_shrink_21 : decode cX5_shrink 21 = .ok (.aload_n 0, 1) := by decide +kernel
theorem dX5_shrink_22 : decode cX5_shrink 22 = .ok (.getfield 61, 3) := by decide +kernel
theorem dX5_shrink_25 : decode cX5_shrink 25 = .ok (.aload_n 0, 1) := by decide +kernel
theorem dX5_shrink_26 : decode cX5_shrink 26 = .ok (.getfield 23, 3) := by decide +kernel
theorem dX5_shrink_29 : decode cX5_shrink 29 = .ok (.aload_n 0, 1) := by decide +kernel
theorem dX5_shrink_30 : decode cX5_shrink 30 = .ok (.getfield 27, 3) := by decide +kernel
theorem dX5_shrink_33 : decode cX5_shrink 33 = .ok (.invokevirtual 163, 3) := by decide +kernel
theorem dX5_shrink_36 : decode cX5_shrink 36 = .ok (.aload_n 0, 1) := by decide +kernel
theorem dX5_shrink_37 : decode cX5_shrink 37 = .ok (.invokevirtual 94, 3) := by decide +kernel
theorem dX5_shrink_40 : decode cX5_shrink 40 = .ok (.aload_n 0, 1) := by decide +kernel
theorem dX5_shrink_41 : decode cX5_shrink 41 = .ok (.getfield 23, 3) := by decide +kernel
theorem dX5_shrink_44 : decode cX5_shrink 44 = .ok (.getfield 167, 3) := by decide +kernel
theorem dX5_shrink_47 : decode cX5_shrink 47 = .ok (.ireturn, 1) := by decide +kernel
theorem dX5_undo_0 : decode cX5_undo 0 = .ok (.aload_n 0, 1) := by decide +kernel
theorem dX5_undo_1 : decode cX5_undo 1 = .ok (.getfield 34, 3) := by decide +kernel
theorem dX5_undo_4 : decode cX5_undo 4 = .ok (.ifCond .gt 5, 3) := by decide +kernel
theorem dX5_undo_7 : decode cX5_undo 7 = .ok (.iconst (-1), 1) := by decide +kernel
theorem dX5_undo_8 : decode cX5_undo 8 = .ok (.ireturn, 1) := by decide +kernel
theorem dX5_undo_9 : decode cX5_undo 9 = .ok (.aload_n 0, 1) := by decide +kernel
theorem dX5_undo_10 : decode cX5_undo 10 = .ok (.dup, 1) := by decide +kernel
theorem dX5_undo_11 : decode cX5_undo 11 = .ok (.getfield 34, 3) := by decide +kernel
theorem dX5_undo_14 : decode cX5_undo 14 = .ok (.iconst 1, 1) := by decide +kernel
theorem dX5_undo_15 : decode cX5_undo 15 = .ok (.isub, 1) := by decide +kernel
theorem dX5_undo_16 : decode cX5_undo 16 = .ok (.putfield 34, 3) := by decide +kernel
theorem dX5_undo_19 : decode cX5_undo 19 = .ok (.aload_n 0, 1) := by decide +kernel
theorem dX5_undo_20 : decode cX5_undo 20 = .ok (.getfield 23, 3) := by decide +kernel
theorem dX5_undo_23 : decode cX5_undo 23 = .ok (.aload_n 0, 1) := by decide +kernel
theorem dX5_undo_24 : decode cX5_undo 24 = .ok (.getfield 30, 3) := by decide +kernel
theorem dX5_undo_27 : decode cX5_undo 27 = .ok (.aload_n 0, 1) := by decide +kernel
theorem dX5_undo_28 : decode cX5_undo 28 = .ok (.getfield 34, 3) := by decide +kernel
theorem dX5_undo_31 : decode cX5_undo 31 = .ok (.aaload, 1) := by decide +kernel
theorem dX5_undo_32 : decode cX5_undo 32 = .ok (.invokevirtual 170, 3) := by decide +kernel
theorem dX5_undo_35 : decode cX5_undo 35 = .ok (.aload_n 0, 1) := by decide +kernel
theorem dX5_undo_36 : decode cX5_undo 36 = .ok (.invokevirtual 173, 3) := by decide +kernel
theorem dX5_undo_39 : decode cX5_undo 39 = .ok (.aload_n 0, 1) := by decide +kernel
theorem dX5_undo_40 : decode cX5_undo 40 = .ok (.getfield 34, 3) := by decide +kernel
theorem dX5_undo_43 : decode cX5_undo 43 = .ok (.ireturn, 1) := by decide +kernel
theorem dX5_told_0 : decode cX5_told 0 = .ok (.aload_n 0, 1) := by decide +kernel
theorem dX5_told_1 : decode cX5_told 1 = .ok (.iload_n 1, 1) := by decide +kernel
theorem dX5_told_2 : decode cX5_told 2 = .ok (.ifCond .lt 13, 3) := by decide +kernel
theorem dX5_told_5 : decode cX5_told 5 = .ok (.iload_n 1, 1) := by decide +kernel
theorem dX5_told_6 : decode cX5_told 6 = .ok (.bipush 7, 2) := by decide +kernel
theorem dX5_told_8 : decode cX5_told 8 = .ok (.if_icmp .gt 7, 3) := by decide +kernel
theorem dX5_told_11 : decode cX5_told 11 = .ok (.iconst 1, 1) := by decide +kernel
theorem dX5_told_12 : decode cX5_told 12 = .ok (.goto 4, 3) := by decide +kernel
theorem dX5_told_15 : decode cX5_told 15 = .ok (.iconst 0, 1) := by decide +kernel
theorem dX5_told_16 : decode cX5_told 16 = .ok (.invokevirtual 80, 3) := by decide +kernel
theorem dX5_told_19 : decode cX5_told 19 = .ok (.iload_n 1, 1) := by decide +kernel
theorem dX5_told_20 : decode cX5_told 20 = .ok (.tableswitch 105 0 6 #[44, 52, 60, 68, 80, 92, 100], 44) := by decide +kernel
theorem dX5_told_64 : decode cX5_told 64 = .ok (.aload_n 0, 1) := by decide +kernel
theorem dX5_told_65 : decode cX5_told 65 = .ok (.getfield 23, 3) := by decide +kernel
theorem dX5_told_68 : decode cX5_told 68 = .ok (.getfield 167, 3) := by decide +kernel
theorem dX5_told_71 : decode cX5_told 71 = .ok (.ireturn, 1) := by decide +kernel
theorem dX5_told_72 : decode cX5_told 72 = .ok (.aload_n 0, 1) := by decide +kernel
theorem dX5_told_73 : decode cX5_told 73 = .ok (.getfield 23, 3) := by decide +kernel
theorem dX5_told_76 : decode cX5_told 76 = .ok (.getfield 97, 3) := by decide +kernel
theorem dX5_told_79 : decode cX5_told 79 = .ok (.ireturn, 1) := by decide +kernel
theorem dX5_told_80 : decode cX5_told 80 = .ok (.aload_n 0, 1) := by decide +kernel
theorem dX5_told_81 : decode cX5_told 81 = .ok (.getfield 23, 3) := by decide +kernel
theorem dX5_told_84 : decode cX5_told 84 = .ok (.invokevirtual 130, 3) := by decide +kernel
theorem dX5_told_87 : decode cX5_told 87 = .ok (.ireturn, 1) := by decide +kernel
theorem dX5_told_88 : decode cX5_told 88 = .ok (.aload_n 0, 1) := by decide +kernel
theorem dX5_told_89 : decode cX5_told 89 = .ok (.invokevirtual 176, 3) := by decide +kernel
theorem dX5_told_92 : decode cX5_told 92 = .ok (.aload_n 0, 1) := by decide +kernel
theorem dX5_told_93 : decode cX5_told 93 = .ok (.getfield 47, 3) := by decide +kernel
theorem dX5_told_96 : decode cX5_told 96 = .ok (.invokevirtual 179, 3) := by decide +kernel
theorem dX5_told_99 : decode cX5_told 99 = .ok (.ireturn, 1) := by decide +kernel
theorem dX5_told_100 : decode cX5_told 100 = .ok (.aload_n 0, 1) := by decide +kernel
theorem dX5_told_101 : decode cX5_told 101 = .ok (.invokevirtual 176, 3) := by decide +kernel
theorem dX5_told_104 : decode cX5_told 104 = .ok (.aload_n 0, 1) := by decide +kernel
theorem dX5_told_105 : decode cX5_told 105 = .ok (.getfield 47, 3) := by decide +kernel
theorem dX5_told_108 : decode cX5_told 108 = .ok (.invokevirtual 182, 3) := by decide +kernel
theorem dX5_told_111 : decode cX5_told 111 = .ok (.ireturn, 1) := by decide +kernel
theorem dX5_told_112 : decode cX5_told 112 = .ok (.aload_n 0, 1) := by decide +kernel
theorem dX5_told_113 : decode cX5_told 113 = .ok (.getfield 23, 3) := by decide +kernel
theorem dX5_told_116 : decode cX5_told 116 = .ok (.invokevirtual 185, 3) := by decide +kernel
theorem dX5_told_119 : decode cX5_told 119 = .ok (.ireturn, 1) := by decide +kernel
theorem dX5_told_120 : decode cX5_told 120 = .ok (.aload_n 0, 1) := by decide +kernel
theorem dX5_told_121 : decode cX5_told 121 = .ok (.getfield 13, 3) := by decide +kernel
theorem dX5_told_124 : decode cX5_told 124 = .ok (.ireturn, 1) := by decide +kernel
theorem dX5_told_125 : decode cX5_told 125 = .ok (.aload_n 0, 1) := by decide +kernel
theorem dX5_told_126 : decode cX5_told 126 = .ok (.getfield 34, 3) := by decide +kernel
theorem dX5_told_129 : decode cX5_told 129 = .ok (.ireturn, 1) := by decide +kernel
theorem dX5_line_0 : decode cX5_line 0 = .ok (.aload_n 0, 1) := by decide +kernel
theorem dX5_line_1 : decode cX5_line 1 = .ok (.iload_n 1, 1) := by decide +kernel
theorem dX5_line_2 : decode cX5_line 2 = .ok (.invokevirtual 100, 3) := by decide +kernel
theorem dX5_line_5 : decode cX5_line 5 = .ok (.aload_n 0, 1) := by decide +kernel
theorem dX5_line_6 : decode cX5_line 6 = .ok (.iload_n 2, 1) := by decide +kernel
theorem dX5_line_7 : decode cX5_line 7 = .ok (.invokevirtual 100, 3) := by decide +kernel
theorem dX5_line_10 : decode cX5_line 10 = .ok (.aload_n 0, 1) := by decide +kernel
theorem dX5_line_11 : decode cX5_line 11 = .ok (.iload_n 1, 1) := by decide +kernel
theorem dX5_line_12 : decode cX5_line 12 = .ok (.iload_n 2, 1) := by decide +kernel
theorem dX5_line_13 : decode cX5_line 13 = .ok (.if_icmp .eq 16, 3) := by decide +kernel
theorem dX5_line_16 : decode cX5_line 16 = .ok (.iload_n 3, 1) := by decide +kernel
theorem dX5_line_17 : decode cX5_line 17 = .ok (.ifCond .lt 12, 3) := by decide +kernel
theorem dX5_line_20 : decode cX5_line 20 = .ok (.iload_n 3, 1) := by decide +kernel
theorem dX5_line_21 : decode cX5_line 21 = .ok (.iconst 4, 1) := by decide +kernel
theorem dX5_line_22 : decode cX5_line 22 = .ok (.if_icmp .gt 7, 3) := by decide +kernel
theorem dX5_line_25 : decode cX5_line 25 = .ok (.iconst 1, 1) := by decide +kernel
theorem dX5_line_26 : decode cX5_line 26 = .ok (.goto 4, 3) := by decide +kernel
theorem dX5_line_29 : decode cX5_line 29 = .ok (.iconst 0, 1) := by decide +kernel
theorem dX5_line_30 : decode cX5_line 30 = .ok (.invokevirtual 80, 3) := by decide +kernel
theorem dX5_line_33 : decode cX5_line 33 = .ok (.iload_n 3, 1) := by decide +kernel
theorem dX5_line_34 : decode cX5_line 34 = .ok (.tableswitch 96 0 3 #[30, 43, 53, 75], 30) := by decide +kernel
theorem dX5_line_64 : decode cX5_line 64 = .ok (.aload_n 0, 1) := by decide +kernel
theorem dX5_line_65 : decode cX5_line 65 = .ok (.getfield 23, 3) := by decide +kernel
theorem dX5_line_68 : decode cX5_line 68 = .ok (.iload_n 1, 1) := by decide +kernel
theorem dX5_line_69 : decode cX5_line 69 = .ok (.iload_n 2, 1) := by decide +kernel
theorem dX5_line_70 : decode cX5_line 70 = .ok (.invokevirtual 110, 3) := by decide +kernel
theorem dX5_line_73 : decode cX5_line 73 = .ok (.invokestatic 188, 3) := by decide +kernel
theorem dX5_line_76 : decode cX5_line 76 = .ok (.ireturn, 1) := by decide +kernel
theorem dX5_line_77 : decode cX5_line 77 = .ok (.aload_n 0, 1) := by decide +kernel
theorem dX5_line_78 : decode cX5_line 78 = .ok (.getfield 23, 3) := by decide +kernel
theorem dX5_line_81 : decode cX5_line 81 = .ok (.iload_n 1, 1) := by decide +kernel
theorem dX5_line_82 : decode cX5_line 82 = .ok (.iload_n 2, 1) := by decide +kernel
theorem dX5_line_83 : decode cX5_line 83 = .ok (.invokevirtual 192, 3) := by decide +kernel
theorem dX5_line_86 : decode cX5_line 86 = .ok (.ireturn, 1) := by decide +kernel
theorem dX5_line_87 : decode cX5_line 87 = .ok (.aload_n 0, 1) := by decide +kernel
theorem dX5_line_88 : decode cX5_line 88 = .ok (.getfield 23, 3) := by decide +kernel
theorem dX5_line_91 : decode cX5_line 91 = .ok (.getfield 134, 3) := by decide +kernel
theorem dX5_line_94 : decode cX5_line 94 = .ok (.iload_n 1, 1) := by decide +kernel
theorem dX5_line_95 : decode cX5_line 95 = .ok (.iaload, 1) := by decide +kernel
theorem dX5_line_96 : decode cX5_line 96 = .ok (.iload_n 2, 1) := by decide +kernel
theorem dX5_line_97 : decode cX5_line 97 = .ok (.if_icmp .ne 7, 3) := by decide +kernel
theorem dX5_line_100 : decode cX5_line 100 = .ok (.iconst 1, 1) := by decide +kernel
theorem dX5_line_101 : decode cX5_line 101 = .ok (.goto 4, 3) := by decide +kernel
theorem dX5_line_104 : decode cX5_line 104 = .ok (.iconst 0, 1) := by decide +kernel
theorem dX5_line_105 : decode cX5_line 105 = .ok (.invokestatic 188, 3) := by decide +kernel
theorem dX5_line_108 : decode cX5_line 108 = .ok (.ireturn, 1) := by decide +kernel
theorem dX5_line_109 : decode cX5_line 109 = .ok (.aload_n 0, 1) := by decide +kernel
theorem dX5_line_110 : decode cX5_line 110 = .ok (.invokevirtual 176, 3) := by decide +kernel
theorem dX5_line_113 : decode cX5_line 113 = .ok (.aload_n 0, 1) := by decide +kernel
theorem dX5_line_114 : decode cX5_line 114 = .ok (.getfield 47, 3) := by decide +kernel
theorem dX5_line_117 : decode cX5_line 117 = .ok (.aload_n 0, 1) := by decide +kernel
theorem dX5_line_118 : decode cX5_line 118 = .ok (.getfield 23, 3) := by decide +kernel
theorem dX5_line_121 : decode cX5_line 121 = .ok (.iload_n 1, 1) := by decide +kernel
theorem dX5_line_122 : decode cX5_line 122 = .ok (.iload_n 2, 1) := by decide +kernel
theorem dX5_line_123 : decode cX5_line 123 = .ok (.invokevirtual 196, 3) := by decide +kernel
theorem dX5_line_126 : decode cX5_line 126 = .ok (.invokestatic 188, 3) := by decide +kernel
theorem dX5_line_129 : decode cX5_line 129 = .ok (.ireturn, 1) := by decide +kernel
theorem dX5_line_130 : decode cX5_line 130 = .ok (.aload_n 0, 1) := by decide +kernel
theorem dX5_line_131 : decode cX5_line 131 = .ok (.invokevirtual 176, 3) := by decide +kernel
theorem dX5_line_134 : decode cX5_line 134 = .ok (.aload_n 0, 1) := by decide +kernel
theorem dX5_line_135 : decode cX5_line 135 = .ok (.getfield 47, 3) := by decide +kernel
theorem dX5_line_138 : decode cX5_line 138 = .ok (.aload_n 0, 1) := by decide +kernel
theorem dX5_line_139 : decode cX5_line 139 = .ok (.getfield 23, 3) := by decide +kernel
theorem dX5_line_142 : decode cX5_line 142 = .ok (.iload_n 1, 1) := by decide +kernel
theorem dX5_line_143 : decode cX5_line 143 = .ok (.iload_n 2, 1) := by decide +kernel
theorem dX5_line_144 : decode cX5_line 144 = .ok (.invokevirtual 200, 3) := by decide +kernel
theorem dX5_line_147 : decode cX5_line 147 = .ok (.invokestatic 188, 3) := by decide +kernel
theorem dX5_line_150 : decode cX5_line 150 = .ok (.ireturn, 1) := by decide +kernel
theorem dX5_node_0 : decode cX5_node 0 = .ok (.aload_n 0, 1) := by decide +kernel
theorem dX5_node_1 : decode cX5_node 1 = .ok (.iload_n 1, 1) := by decide +kernel
theorem dX5_node_2 : decode cX5_node 2 = .ok (.invokevirtual 100, 3) := by decide +kernel
theorem dX5_node_5 : decode cX5_node 5 = .ok (.aload_n 0, 1) := by decide +kernel
theorem dX5_node_6 : decode cX5_node 6 = .ok (.iload_n 2, 1) := by decide +kernel
theorem dX5_node_7 : decode cX5_node 7 = .ok (.ifCond .lt 12, 3) := by decide +kernel
theorem dX5_node_10 : decode cX5_node 10 = .ok (.iload_n 2, 1) := by decide +kernel
theorem dX5_node_11 : decode cX5_node 11 = .ok (.iconst 4, 1) := by decide +kernel
theorem dX5_node_12 : decode cX5_node 12 = .ok (.if_icmp .gt 7, 3) := by decide +kernel
theorem dX5_node_15 : decode cX5_node 15 = .ok (.iconst 1, 1) := by decide +kernel
theorem dX5_node_16 : decode cX5_node 16 = .ok (.goto 4, 3) := by decide +kernel
theorem dX5_node_19 : decode cX5_node 19 = .ok (.iconst 0, 1) := by decide +kernel
theorem dX5_node_20 : decode cX5_node 20 = .ok (.invokevirtual 80, 3) := by decide +kernel
theorem dX5_node_23 : decode cX5_node 23 = .ok (.iload_n 2, 1) := by decide +kernel
theorem dX5_node_24 : decode cX5_node 24 = .ok (.tableswitch 67 0 3 #[32, 45, 55, 61], 32) := by decide +kernel
theorem dX5_node_56 : decode cX5_node 56 = .ok (.aload_n 0, 1) := by decide +kernel
theorem dX5_node_57 : decode cX5_node 57 = .ok (.getfield 23, 3) := by decide +kernel
theorem dX5_node_60 : decode cX5_node 60 = .ok (.getfield 203, 3) := by decide +kernel
theorem dX5_node_63 : decode cX5_node 63 = .ok (.iload_n 1, 1) := by decide +kernel
theorem dX5_node_64 : decode cX5_node 64 = .ok (.iaload, 1) := by decide +kernel
theorem dX5_node_65 : decode cX5_node 65 = .ok (.invokestatic 206, 3) := by decide +kernel
theorem dX5_node_68 : decode cX5_node 68 = .ok (.ireturn, 1) := by decide +kernel
theorem dX5_node_69 : decode cX5_node 69 = .ok (.aload_n 0, 1) := by decide +kernel
theorem dX5_node_70 : decode cX5_node 70 = .ok (.getfield 23, 3) := by decide +kernel
theorem dX5_node_73 : decode cX5_node 73 = .ok (.getfield 134, 3) := by decide +kernel
theorem dX5_node_76 : decode cX5_node 76 = .ok (.iload_n 1, 1) := by decide +kernel
theorem dX5_node_77 : decode cX5_node 77 = .ok (.iaload, 1) := by decide +kernel
theorem dX5_node_78 : decode cX5_node 78 = .ok (.ireturn, 1) := by decide +kernel
theorem dX5_node_79 : decode cX5_node 79 = .ok (.aload_n 0, 1) := by decide +kernel
theorem dX5_node_80 : decode cX5_node 80 = .ok (.iload_n 1, 1) := by decide +kernel
theorem dX5_node_81 : decode cX5_node 81 = .ok (.invokevirtual 212, 3) := by decide +kernel
theorem dX5_node_84 : decode cX5_node 84 = .ok (.ireturn, 1) := by decide +kernel
theorem dX5_node_85 : decode cX5_node 85 = .ok (.aload_n 0, 1) := by decide +kernel
theorem dX5_node_86 : decode cX5_node 86 = .ok (.iload_n 1, 1) := by decide +kernel
theorem dX5_node_87 : decode cX5_node 87 = .ok (.invokevirtual 215, 3) := by decide +kernel
theorem dX5_node_90 : decode cX5_node 90 = .ok (.ireturn, 1) := by decide +kernel
theorem dX5_node_91 : decode cX5_node 91 = .ok (.aload_n 0, 1) := by decide +kernel
theorem dX5_node_92 : decode cX5_node 92 = .ok (.getfield 47, 3) := by decide +kernel
theorem dX5_node_95 : decode cX5_node 95 = .ok (.aload_n 0, 1) := by decide +kernel
theorem dX5_node_96 : decode cX5_node 96 = .ok (.getfield 23, 3) := by decide +kernel
theorem dX5_node_99 : decode cX5_node 99 = .ok (.invokevirtual 148, 3) := by decide +kernel
theorem dX5_node_102 : decode cX5_node 102 = .ok (.aload_n 0, 1) := by decide +kernel
theorem dX5_node_103 : decode cX5_node 103 = .ok (.getfield 47, 3) := by decide +kernel
theorem dX5_node_106 : decode cX5_node 106 = .ok (.getfield 151, 3) := by decide +kernel
theorem dX5_node_109 : decode cX5_node 109 = .ok (.iload_n 1, 1) := by decide +kernel
theorem dX5_node_110 : decode cX5_node 110 = .ok (.iaload, 1) := by decide +kernel
theorem dX5_node_111 : decode cX5_node 111 = .ok (.ireturn, 1) := by decide +kernel
theorem dX5_sets_0 : decode cX5_sets 0 = .ok (.aload_n 0, 1) := by decide +kernel
theorem dX5_sets_1 : decode cX5_sets 1 = .ok (.iload_n 1, 1) := by decide +kernel
theorem dX5_sets_2 : decode cX5_sets 2 = .ok (.ifCond .lt 12, 3) := by decide +kernel
theorem dX5_sets_5 : decode cX5_sets 5 = .ok (.iload_n 1, 1) := by decide +kernel
theorem dX5_sets_6 : decode cX5_sets 6 = .ok (.iconst 5, 1) := by decide +kernel
theorem dX5_sets_7 : decode cX5_sets 7 = .ok (.if_icmp .gt 7, 3) := by decide +kernel
theorem dX5_sets_10 : decode cX5_sets 10 = .ok (.iconst 1, 1) := by decide +kernel
theorem dX5_sets_11 : decode cX5_sets 11 = .ok (.goto 4, 3) := by decide +kernel
theorem dX5_sets_14 : decode cX5_sets 14 = .ok (.iconst 0, 1) := by decide +kernel
theorem dX5_sets_15 : decode cX5_sets 15 = .ok (.invokevirtual 80, 3) := by decide +kernel
theorem dX5_sets_18 : decode cX5_sets 18 = .ok (.iload_n 1, 1) := by decide +kernel
theorem dX5_sets_19 : decode cX5_sets 19 = .ok (.iconst 2, 1) := by decide +kernel
theorem dX5_sets_20 : decode cX5_sets 20 = .ok (.if_icmp .gt 20, 3) := by decide +kernel
theorem dX5_sets_23 : decode cX5_sets 23 = .ok (.aload_n 0, 1) := by decide +kernel
theorem dX5_sets_24 : decode cX5_sets 24 = .ok (.invokevirtual 176, 3) := by decide +kernel
theorem dX5_sets_27 : decode cX5_sets 27 = .ok (.aload_n 0, 1) := by decide +kernel
theorem dX5_sets_28 : decode cX5_sets 28 = .ok (.getfield 47, 3) := by decide +kernel
theorem dX5_sets_31 : decode cX5_sets 31 = .ok (.aload_n 0, 1) := by decide +kernel
theorem dX5_sets_32 : decode cX5_sets 32 = .ok (.getfield 23, 3) := by decide +kernel
theorem dX5_sets_35 : decode cX5_sets 35 = .ok (.iload_n 1, 1) := by decide +kernel
theorem dX5_sets_36 : decode cX5_sets 36 = .ok (.invokevirtual 218, 3) := by decide +kernel
theorem dX5_sets_39 : decode cX5_sets 39 = .ok (.ireturn, 1) := by decide +kernel
theorem dX5_sets_40 : decode cX5_sets 40 = .ok (.aload_n 0, 1) := by decide +kernel
theorem dX5_sets_41 : decode cX5_sets 41 = .ok (.getfield 61, 3) := by decide +kernel
theorem dX5_sets_44 : decode cX5_sets 44 = .ok (.aload_n 0, 1) := by decide +kernel
theorem dX5_sets_45 : decode cX5_sets 45 = .ok (.getfield 23, 3) := by decide +kernel
theorem dX5_sets_48 : decode cX5_sets 48 = .ok (.invokevirtual 222, 3) := by decide +kernel
theorem dX5_sets_51 : decode cX5_sets 51 = .ok (.aload_n 0, 1) := by decide +kernel
theorem dX5_sets_52 : decode cX5_sets 52 = .ok (.getfield 61, 3) := by decide +kernel
theorem dX5_sets_55 : decode cX5_sets 55 = .ok (.aload_n 0, 1) := by decide +kernel
theorem dX5_sets_56 : decode cX5_sets 56 = .ok (.getfield 23, 3) := by decide +kernel
theorem dX5_sets_59 : decode cX5_sets 59 = .ok (.iload_n 1, 1) := by decide +kernel
theorem dX5_sets_60 : decode cX5_sets 60 = .ok (.iconst 3, 1) := by decide +kernel
theorem dX5_sets_61 : decode cX5_sets 61 = .ok (.isub, 1) := by decide +kernel
theorem dX5_sets_62 : decode cX5_sets 62 = .ok (.invokevirtual 225, 3) := by decide +kernel
theorem dX5_sets_65 : decode cX5_sets 65 = .ok (.ireturn, 1) := by decide +kernel
theorem dX5_odd_0 : decode cX5_odd 0 = .ok (.aload_n 0, 1) := by decide +kernel
theorem dX5_odd_1 : decode cX5_odd 1 = .ok (.iload_n 1, 1) := by decide +kernel
theorem dX5_odd_2 : decode cX5_odd 2 = .ok (.ifCond .lt 18, 3) := by decide +kernel
theorem dX5_odd_5 : decode cX5_odd 5 = .ok (.iload_n 1, 1) := by decide +kernel
theorem dX5_odd_6 : decode cX5_odd 6 = .ok (.aload_n 0, 1) := by decide +kernel
theorem dX5_odd_7 : decode cX5_odd 7 = .ok (.getfield 23, 3) := by decide +kernel
theorem dX5_odd_10 : decode cX5_odd 10 = .ok (.invokevirtual 228, 3) := by decide +kernel
theorem dX5_odd_13 : decode cX5_odd 13 = .ok (.if_icmp .gt 7, 3) := by decide +kernel
theorem dX5_odd_16 : decode cX5_odd 16 = .ok (.iconst 1, 1) := by decide +kernel
theorem dX5_odd_17 : decode cX5_odd 17 = .ok (.goto 4, 3) := by decide +kernel
theorem dX5_odd_20 : decode cX5_odd 20 = .ok (.iconst 0, 1) := by decide +kernel
theorem dX5_odd_21 : decode cX5_odd 21 = .ok (.invokevirtual 80, 3) := by decide +kernel
theorem dX5_odd_24 : decode cX5_odd 24 = .ok (.aload_n 0, 1) := by decide +kernel
theorem dX5_odd_25 : decode cX5_odd 25 = .ok (.getfield 54, 3) := by decide +kernel
theorem dX5_odd_28 : decode cX5_odd 28 = .ok (.aload_n 0, 1) := by decide +kernel
theorem dX5_odd_29 : decode cX5_odd 29 = .ok (.getfield 23, 3) := by decide +kernel
theorem dX5_odd_32 : decode cX5_odd 32 = .ok (.invokevirtual 231, 3) := by decide +kernel
theorem dX5_odd_35 : decode cX5_odd 35 = .ok (.aload_n 0, 1) := by decide +kernel
theorem dX5_odd_36 : decode cX5_odd 36 = .ok (.getfield 54, 3) := by decide +kernel
theorem dX5_odd_39 : decode cX5_odd 39 = .ok (.iload_n 1, 1) := by decide +kernel
theorem dX5_odd_40 : decode cX5_odd 40 = .ok (.invokevirtual 233, 3) := by decide +kernel
theorem dX5_odd_43 : decode cX5_odd 43 = .ok (.ireturn, 1) := by decide +kernel
theorem dX5_barrier_0 : decode cX5_barrier 0 = .ok (.aload_n 0, 1) := by decide +kernel
theorem dX5_barrier_1 : decode cX5_barrier 1 = .ok (.iload_n 1, 1) := by decide +kernel
theorem dX5_barrier_2 : decode cX5_barrier 2 = .ok (.ifCond .eq 8, 3) := by decide +kernel
theorem dX5_barrier_5 : decode cX5_barrier 5 = .ok (.iload_n 1, 1) := by decide +kernel
theorem dX5_barrier_6 : decode cX5_barrier 6 = .ok (.iconst 1, 1) := by decide +kernel
theorem dX5_barrier_7 : decode cX5_barrier 7 = .ok (.if_icmp .ne 7, 3) := by decide +kernel
theorem dX5_barrier_10 : decode cX5_barrier 10 = .ok (.iconst 1, 1) := by decide +kernel
theorem dX5_barrier_11 : decode cX5_barrier 11 = .ok (.goto 4, 3) := by decide +kernel
theorem dX5_barrier_14 : decode cX5_barrier 14 = .ok (.iconst 0, 1) := by decide +kernel
theorem dX5_barrier_15 : decode cX5_barrier 15 = .ok (.invokevirtual 80, 3) := by decide +kernel
theorem dX5_barrier_18 : decode cX5_barrier 18 = .ok (.aload_n 0, 1) := by decide +kernel
theorem dX5_barrier_19 : decode cX5_barrier 19 = .ok (.invokevirtual 176, 3) := by decide +kernel
theorem dX5_barrier_22 : decode cX5_barrier 22 = .ok (.aload_n 0, 1) := by decide +kernel
theorem dX5_barrier_23 : decode cX5_barrier 23 = .ok (.getfield 54, 3) := by decide +kernel
theorem dX5_barrier_26 : decode cX5_barrier 26 = .ok (.aload_n 0, 1) := by decide +kernel
theorem dX5_barrier_27 : decode cX5_barrier 27 = .ok (.getfield 23, 3) := by decide +kernel
theorem dX5_barrier_30 : decode cX5_barrier 30 = .ok (.invokevirtual 231, 3) := by decide +kernel
theorem dX5_barrier_33 : decode cX5_barrier 33 = .ok (.iload_n 1, 1) := by decide +kernel
theorem dX5_barrier_34 : decode cX5_barrier 34 = .ok (.ifCond .ne 20, 3) := by decide +kernel
theorem dX5_barrier_37 : decode cX5_barrier 37 = .ok (.aload_n 0, 1) := by decide +kernel
theorem dX5_barrier_38 : decode cX5_barrier 38 = .ok (.getfield 54, 3) := by decide +kernel
theorem dX5_barrier_41 : decode cX5_barrier 41 = .ok (.aload_n 0, 1) := by decide +kernel
theorem dX5_barrier_42 : decode cX5_barrier 42 = .ok (.getfield 47, 3) := by decide +kernel
theorem dX5_barrier_45 : decode cX5_barrier 45 = .ok (.invokevirtual 182, 3) := by decide +kernel
theorem dX5_barrier_48 : decode cX5_barrier 48 = .ok (.invokevirtual 236, 3) := by decide +kernel
theorem dX5_barrier_51 : decode cX5_barrier 51 = .ok (.goto 17, 3) := by decide +kernel
theorem dX5_barrier_54 : decode cX5_barrier 54 = .ok (.aload_n 0, 1) := by decide +kernel
theorem dX5_barrier_55 : decode cX5_barrier 55 = .ok (.getfield 54, 3) := by decide +kernel
theorem dX5_barrier_58 : decode cX5_barrier 58 = .ok (.aload_n 0, 1) := by decide +kernel
theorem dX5_barrier_59 : decode cX5_barrier 59 = .ok (.getfield 47, 3) := by decide +kernel
theorem dX5_barrier_62 : decode cX5_barrier 62 = .ok (.invokevirtual 182, 3) := by decide +kernel
theorem dX5_barrier_65 : decode cX5_barrier 65 = .ok (.invokevirtual 239, 3) := by decide +kernel
theorem dX5_barrier_68 : decode cX5_barrier 68 = .ok (.ireturn, 1) := by decide +kernel
theorem dX5_ways_0 : decode cX5_ways 0 = .ok (.aload_n 0, 1) := by decide +kernel
theorem dX5_ways_1 : decode cX5_ways 1 = .ok (.invokevirtual 176, 3) := by decide +kernel
theorem dX5_ways_4 : decode cX5_ways 4 = .ok (.aload_n 0, 1) := by decide +kernel
theorem dX5_ways_5 : decode cX5_ways 5 = .ok (.getfield 47, 3) := by decide +kernel
theorem dX5_ways_8 : decode cX5_ways 8 = .ok (.invokevirtual 242, 3) := by decide +kernel
theorem dX5_ways_11 : decode cX5_ways 11 = .ok (.ireturn, 1) := by decide +kernel
theorem dX5_heavy_0 : decode cX5_heavy 0 = .ok (.aload_n 0, 1) := by decide +kernel
theorem dX5_heavy_1 : decode cX5_heavy 1 = .ok (.iload_n 1, 1) := by decide +kernel
theorem dX5_heavy_2 : decode cX5_heavy 2 = .ok (.ifCond .eq 8, 3) := by decide +kernel
theorem dX5_heavy_5 : decode cX5_heavy 5 = .ok (.iload_n 1, 1) := by decide +kernel
theorem dX5_heavy_6 : decode cX5_heavy 6 = .ok (.iconst 1, 1) := by decide +kernel
theorem dX5_heavy_7 : decode cX5_heavy 7 = .ok (.if_icmp .ne 7, 3) := by decide +kernel
theorem dX5_heavy_10 : decode cX5_heavy 10 = .ok (.iconst 1, 1) := by decide +kernel
theorem dX5_heavy_11 : decode cX5_heavy 11 = .ok (.goto 4, 3) := by decide +kernel
theorem dX5_heavy_14 : decode cX5_heavy 14 = .ok (.iconst 0, 1) := by decide +kernel
theorem dX5_heavy_15 : decode cX5_heavy 15 = .ok (.invokevirtual 80, 3) := by decide +kernel
theorem dX5_heavy_18 : decode cX5_heavy 18 = .ok (.aload_n 0, 1) := by decide +kernel
theorem dX5_heavy_19 : decode cX5_heavy 19 = .ok (.invokevirtual 176, 3) := by decide +kernel
theorem dX5_heavy_22 : decode cX5_heavy 22 = .ok (.iload_n 1, 1) := by decide +kernel
theorem dX5_heavy_23 : decode cX5_heavy 23 = .ok (.ifCond .ne 13, 3) := by decide +kernel
theorem dX5_heavy_26 : decode cX5_heavy 26 = .ok (.aload_n 0, 1) := by decide +kernel
theorem dX5_heavy_27 : decode cX5_heavy 27 = .ok (.getfield 47, 3) := by decide +kernel
theorem dX5_heavy_30 : decode cX5_heavy 30 = .ok (.invokevirtual 245, 3) := by decide +kernel
theorem dX5_heavy_33 : decode cX5_heavy 33 = .ok (.goto 10, 3) := by decide +kernel
theorem dX5_heavy_36 : decode cX5_heavy 36 = .ok (.aload_n 0, 1) := by decide +kernel
theorem dX5_heavy_37 : decode cX5_heavy 37 = .ok (.getfield 47, 3) := by decide +kernel
theorem dX5_heavy_40 : decode cX5_heavy 40 = .ok (.invokevirtual 248, 3) := by decide +kernel
theorem dX5_heavy_43 : decode cX5_heavy 43 = .ok (.ireturn, 1) := by decide +kernel
theorem dX5_path_0 : decode cX5_path 0 = .ok (.aload_n 0, 1) := by decide +kernel
theorem dX5_path_1 : decode cX5_path 1 = .ok (.iload_n 1, 1) := by decide +kernel
theorem dX5_path_2 : decode cX5_path 2 = .ok (.invokevirtual 100, 3) := by decide +kernel
theorem dX5_path_5 : decode cX5_path 5 = .ok (.aload_n 0, 1) := by decide +kernel
theorem dX5_path_6 : decode cX5_path 6 = .ok (.getfield 61, 3) := by decide +kernel
theorem dX5_path_9 : decode cX5_path 9 = .ok (.aload_n 0, 1) := by decide +kernel
theorem dX5_path_10 : decode cX5_path 10 = .ok (.getfield 23, 3) := by decide +kernel
theorem dX5_path_13 : decode cX5_path 13 = .ok (.iload_n 1, 1) := by decide +kernel
theorem dX5_path_14 : decode cX5_path 14 = .ok (.invokevirtual 140, 3) := by decide +kernel
theorem dX5_path_17 : decode cX5_path 17 = .ok (.ifCond .ne 5, 3) := by decide +kernel
theorem dX5_path_20 : decode cX5_path 20 = .ok (.iconst (-1), 1) := by decide +kernel
theorem dX5_path_21 : decode cX5_path 21 = .ok (.ireturn, 1) := by decide +kernel
theorem dX5_path_22 : decode cX5_path 22 = .ok (.iload_n 2, 1) := by decide +kernel
theorem dX5_path_23 : decode cX5_path 23 = .ok (.iconst (-1), 1) := by decide +kernel
theorem dX5_path_24 : decode cX5_path 24 = .ok (.if_icmp .ne 15, 3) := by decide +kernel
theorem dX5_path_27 : decode cX5_path 27 = .ok (.aload_n 0, 1) := by decide +kernel
theorem dX5_path_28 : decode cX5_path 28 = .ok (.getfield 61, 3) := by decide +kernel
theorem dX5_path_31 : decode cX5_path 31 = .ok (.getfield 251, 3) := by decide +kernel
theorem dX5_path_34 : decode cX5_path 34 = .ok (.iconst 1, 1) := by decide +kernel
theorem dX5_path_35 : decode cX5_path 35 = .ok (.isub, 1) := by decide +kernel
theorem dX5_path_36 : decode cX5_path 36 = .ok (.goto 8, 3) := by decide +kernel
theorem dX5_path_39 : decode cX5_path 39 = .ok (.aload_n 0, 1) := by decide +kernel
theorem dX5_path_40 : decode cX5_path 40 = .ok (.iload_n 2, 1) := by decide +kernel
theorem dX5_path_41 : decode cX5_path 41 = .ok (.invokevirtual 254, 3) := by decide +kernel
theorem dX5_path_44 : decode cX5_path 44 = .ok (.ireturn, 1) := by decide +kernel
theorem dX5_flower_0 : decode cX5_flower 0 = .ok (.aload_n 0, 1) := by decide +kernel
theorem dX5_flower_1 : decode cX5_flower 1 = .ok (.iload_n 1, 1) := by decide +kernel
theorem dX5_flower_2 : decode cX5_flower 2 = .ok (.invokevirtual 100, 3) := by decide +kernel
theorem dX5_flower_5 : decode cX5_flower 5 = .ok (.aload_n 0, 1) := by decide +kernel
theorem dX5_flower_6 : decode cX5_flower 6 = .ok (.getfield 61, 3) := by decide +kernel
theorem dX5_flower_9 : decode cX5_flower 9 = .ok (.aload_n 0, 1) := by decide +kernel
theorem dX5_flower_10 : decode cX5_flower 10 = .ok (.getfield 23, 3) := by decide +kernel
theorem dX5_flower_13 : decode cX5_flower 13 = .ok (.iload_n 1, 1) := by decide +kernel
theorem dX5_flower_14 : decode cX5_flower 14 = .ok (.invokevirtual 160, 3) := by decide +kernel
theorem dX5_flower_17 : decode cX5_flower 17 = .ok (.ifCond .ne 5, 3) := by decide +kernel
theorem dX5_flower_20 : decode cX5_flower 20 = .ok (.iconst (-1), 1) := by decide +kernel
theorem dX5_flower_21 : decode cX5_flower 21 = .ok (.ireturn, 1) := by decide +kernel
theorem dX5_flower_22 : decode cX5_flower 22 = .ok (.iload_n 2, 1) := by decide +kernel
theorem dX5_flower_23 : decode cX5_flower 23 = .ok (.iconst (-1), 1) := by decide +kernel
theorem dX5_flower_24 : decode cX5_flower 24 = .ok (.if_icmp .ne 13, 3) := by decide +kernel
theorem dX5_flower_27 : decode cX5_flower 27 = .ok (.aload_n 0, 1) := by decide +kernel
theorem dX5_flower_28 : decode cX5_flower 28 = .ok (.getfield 61, 3) := by decide +kernel
theorem dX5_flower_31 : decode cX5_flower 31 = .ok (.getfield 251, 3) := by decide +kernel
theorem dX5_flower_34 : decode cX5_flower 34 = .ok (.goto 8, 3) := by decide +kernel
theorem dX5_flower_37 : decode cX5_flower 37 = .ok (.aload_n 0, 1) := by decide +kernel
theorem dX5_flower_38 : decode cX5_flower 38 = .ok (.iload_n 2, 1) := by decide +kernel
theorem dX5_flower_39 : decode cX5_flower 39 = .ok (.invokevirtual 254, 3) := by decide +kernel
theorem dX5_flower_42 : decode cX5_flower 42 = .ok (.ireturn, 1) := by decide +kernel
theorem dX5_print_0 : decode cX5_print 0 = .ok (.lconst 0, 1) := by decide +kernel
theorem dX5_print_1 : decode cX5_print 1 = .ok (.lstore_n 1, 1) := by decide +kernel
theorem dX5_print_2 : decode cX5_print 2 = .ok (.iconst 0, 1) := by decide +kernel
theorem dX5_print_3 : decode cX5_print 3 = .ok (.istore_n 3, 1) := by decide +kernel
theorem dX5_print_4 : decode cX5_print 4 = .ok (.iload_n 3, 1) := by decide +kernel
theorem dX5_print_5 : decode cX5_print 5 = .ok (.aload_n 0, 1) := by decide +kernel
theorem dX5_print_6 : decode cX5_print 6 = .ok (.getfield 23, 3) := by decide +kernel
theorem dX5_print_9 : decode cX5_print 9 = .ok (.getfield 167, 3) := by decide +kernel
theorem dX5_print_12 : decode cX5_print 12 = .ok (.if_icmp .ge 26, 3) := by decide +kernel
theorem dX5_print_15 : decode cX5_print 15 = .ok (.lload_n 1, 1) := by decide +kernel
theorem dX5_print_16 : decode cX5_print 16 = .ok (.ldc2_w 257, 3) := by decide +kernel
theorem dX5_print_19 : decode cX5_print 19 = .ok (.lmul, 1) := by decide +kernel
theorem dX5_print_20 : decode cX5_print 20 = .ok (.aload_n 0, 1) := by decide +kernel
theorem dX5_print_21 : decode cX5_print 21 = .ok (.getfield 23, 3) := by decide +kernel
theorem dX5_print_24 : decode cX5_print 24 = .ok (.getfield 134, 3) := by decide +kernel
theorem dX5_print_27 : decode cX5_print 27 = .ok (.iload_n 3, 1) := by decide +kernel
theorem dX5_print_28 : decode cX5_print 28 = .ok (.iaload, 1) := by decide +kernel
theorem dX5_print_29 : decode cX5_print 29 = .ok (.i2l, 1) := by decide +kernel
theorem dX5_print_30 : decode cX5_print 30 = .ok (.ladd, 1) := by decide +kernel
theorem dX5_print_31 : decode cX5_print 31 = .ok (.lstore_n 1, 1) := by decide +kernel
theorem dX5_print_32 : decode cX5_print 32 = .ok (.iinc 3 1, 3) := by decide +kernel
theorem dX5_print_35 : decode cX5_print 35 = .ok (.goto (-31), 3) := by decide +kernel
theorem dX5_print_38 : decode cX5_print 38 = .ok (.iconst 0, 1) := by decide +kernel
theorem dX5_print_39 : decode cX5_print 39 = .ok (.istore_n 3, 1) := by decide +kernel
theorem dX5_print_40 : decode cX5_print 40 = .ok (.iload_n 3, 1) := by decide +kernel
theorem dX5_print_41 : decode cX5_print 41 = .ok (.aload_n 0, 1) := by decide +kernel
theorem dX5_print_42 : decode cX5_print 42 = .ok (.getfield 23, 3) := by decide +kernel
theorem dX5_print_45 : decode cX5_print 45 = .ok (.getfield 167, 3) := by decide +kernel
theorem dX5_print_48 : decode cX5_print 48 = .ok (.if_icmp .ge 63, 3) := by decide +kernel
theorem dX5_print_51 : decode cX5_print 51 = .ok (.iload_n 3, 1) := by decide +kernel
theorem dX5_print_52 : decode cX5_print 52 = .ok (.iconst 1, 1) := by decide +kernel
theorem dX5_print_53 : decode cX5_print 53 = .ok (.iadd, 1) := by decide +kernel
theorem dX5_print_54 : decode cX5_print 54 = .ok (.istore 4, 2) := by decide +kernel
theorem dX5_print_56 : decode cX5_print 56 = .ok (.iload 4, 2) := by decide +kernel
theorem dX5_print_58 : decode cX5_print 58 = .ok (.aload_n 0, 1) := by decide +kernel
theorem dX5_print_59 : decode cX5_print 59 = .ok (.getfield 23, 3) := by decide +kernel
theorem dX5_print_62 : decode cX5_print 62 = .ok (.getfield 167, 3) := by decide +kernel
theorem dX5_print_65 : decode cX5_print 65 = .ok (.if_icmp .ge 40, 3) := by decide +kernel
theorem dX5_print_68 : decode cX5_print 68 = .ok (.aload_n 0, 1) := by decide +kernel
theorem dX5_print_69 : decode cX5_print 69 = .ok (.getfield 23, 3) := by decide +kernel
theorem dX5_print_72 : decode cX5_print 72 = .ok (.iload_n 3, 1) := by decide +kernel
theorem dX5_print_73 : decode cX5_print 73 = .ok (.iload 4, 2) := by decide +kernel
theorem dX5_print_75 : decode cX5_print 75 = .ok (.invokevirtual 110, 3) := by decide +kernel
theorem dX5_print_78 : decode cX5_print 78 = .ok (.ifCond .eq 21, 3) := by decide +kernel
theorem dX5_print_81 : decode cX5_print 81 = .ok (.lload_n 1, 1) := by decide +kernel
theorem dX5_print_82 : decode cX5_print 82 = .ok (.ldc2_w 257, 3) := by decide +kernel
theorem dX5_print_85 : decode cX5_print 85 = .ok (.lmul, 1) := by decide +kernel
theorem dX5_print_86 : decode cX5_print 86 = .ok (.aload_n 0, 1) := by decide +kernel
theorem dX5_print_87 : decode cX5_print 87 = .ok (.getfield 23, 3) := by decide +kernel
theorem dX5_print_90 : decode cX5_print 90 = .ok (.iload_n 3, 1) := by decide +kernel
theorem dX5_print_91 : decode cX5_print 91 = .ok (.iload 4, 2) := by decide +kernel
theorem dX5_print_93 : decode cX5_print 93 = .ok (.invokevirtual 192, 3) := by decide +kernel
theorem dX5_print_96 : decode cX5_print 96 = .ok (.i2l, 1) := by decide +kernel
theorem dX5_print_97 : decode cX5_print 97 = .ok (.ladd, 1) := by decide +kernel
theorem dX5_print_98 : decode cX5_print 98 = .ok (.lstore_n 1, 1) := by decide +kernel
theorem dX5_print_99 : decode cX5_print 99 = .ok (.iinc 4 1, 3) := by decide +kernel
theorem dX5_print_102 : decode cX5_print 102 = .ok (.goto (-46), 3) := by decide +kernel
theorem dX5_print_105 : decode cX5_print 105 = .ok (.iinc 3 1, 3) := by decide +kernel
theorem dX5_print_108 : decode cX5_print 108 = .ok (.goto (-68), 3) := by decide +kernel
theorem dX5_print_111 : decode cX5_print 111 = .ok (.lload_n 1, 1) := by decide +kernel
theorem dX5_print_112 : decode cX5_print 112 = .ok (.lreturn, 1) := by decide +kernel
theorem dX5_status_0 : decode cX5_status 0 = .ok (.iload_n 1, 1) := by decide +kernel
theorem dX5_status_1 : decode cX5_status 1 = .ok (.ifCond .lt 21, 3) := by decide +kernel
theorem dX5_status_4 : decode cX5_status 4 = .ok (.iload_n 1, 1) := by decide +kernel
theorem dX5_status_5 : decode cX5_status 5 = .ok (.aload_n 0, 1) := by decide +kernel
theorem dX5_status_6 : decode cX5_status 6 = .ok (.getfield 65, 3) := by decide +kernel
theorem dX5_status_9 : decode cX5_status 9 = .ok (.arraylength, 1) := by decide +kernel
theorem dX5_status_10 : decode cX5_status 10 = .ok (.if_icmp .ge 12, 3) := by decide +kernel
theorem dX5_status_13 : decode cX5_status 13 = .ok (.aload_n 0, 1) := by decide +kernel
theorem dX5_status_14 : decode cX5_status 14 = .ok (.getfield 65, 3) := by decide +kernel
theorem dX5_status_17 : decode cX5_status 17 = .ok (.iload_n 1, 1) := by decide +kernel
theorem dX5_status_18 : decode cX5_status 18 = .ok (.iaload, 1) := by decide +kernel
theorem dX5_status_19 : decode cX5_status 19 = .ok (.goto 4, 3) := by decide +kernel
theorem dX5_status_22 : decode cX5_status 22 = .ok (.iconst (-1), 1) := by decide +kernel
theorem dX5_status_23 : decode cX5_status 23 = .ok (.ireturn, 1) := by decide +kernel
theorem dX5_putBytes_0 : decode cX5_putBytes 0 = .ok (.bipush 24, 2) := by decide +kernel
theorem dX5_putBytes_2 : decode cX5_putBytes 2 = .ok (.istore_n 2, 1) := by decide +kernel
theorem dX5_putBytes_3 : decode cX5_putBytes 3 = .ok (.iload_n 2, 1) := by decide +kernel
theorem dX5_putBytes_4 : decode cX5_putBytes 4 = .ok (.ifCond .lt 42, 3) := by decide +kernel
theorem dX5_putBytes_7 : decode cX5_putBytes 7 = .ok (.aload_n 0, 1) := by decide +kernel
theorem dX5_putBytes_8 : decode cX5_putBytes 8 = .ok (.getfield 13, 3) := by decide +kernel
theorem dX5_putBytes_11 : decode cX5_putBytes 11 = .ok (.sipush 500, 3) := by decide +kernel
theorem dX5_putBytes_14 : decode cX5_putBytes 14 = .ok (.if_icmp .ge 32, 3) := by decide +kernel
theorem dX5_putBytes_17 : decode cX5_putBytes 17 = .ok (.aload_n 0, 1) := by decide +kernel
theorem dX5_putBytes_18 : decode cX5_putBytes 18 = .ok (.getfield 9, 3) := by decide +kernel
theorem dX5_putBytes_21 : decode cX5_putBytes 21 = .ok (.aload_n 0, 1) := by decide +kernel
theorem dX5_putBytes_22 : decode cX5_putBytes 22 = .ok (.getfield 13, 3) := by decide +kernel
theorem dX5_putBytes_25 : decode cX5_putBytes 25 = .ok (.iload_n 1, 1) := by decide +kernel
theorem dX5_putBytes_26 : decode cX5_putBytes 26 = .ok (.iload_n 2, 1) := by decide +kernel
theorem dX5_putBytes_27 : decode cX5_putBytes 27 = .ok (.ishr, 1) := by decide +kernel
theorem dX5_putBytes_28 : decode cX5_putBytes 28 = .ok (.i2b, 1) := by decide +kernel
theorem dX5_putBytes_29 : decode cX5_putBytes 29 = .ok (.bastore, 1) := by decide +kernel
theorem dX5_putBytes_30 : decode cX5_putBytes 30 = .ok (.aload_n 0, 1) := by decide +kernel
theorem dX5_putBytes_31 : decode cX5_putBytes 31 = .ok (.dup, 1) := by decide +kernel
theorem dX5_putBytes_32 : decode cX5_putBytes 32 = .ok (.getfield 13, 3) := by decide +kernel
theorem dX5_putBytes_35 : decode cX5_putBytes 35 = .ok (.iconst 1, 1) := by decide +kernel
theorem dX5_putBytes_36 : decode cX5_putBytes 36 = .ok (.iadd, 1) := by decide +kernel
theorem dX5_putBytes_37 : decode cX5_putBytes 37 = .ok (.putfield 13, 3) := by decide +kernel
theorem dX5_putBytes_40 : decode cX5_putBytes 40 = .ok (.iinc 2 (-8), 3) := by decide +kernel
theorem dX5_putBytes_43 : decode cX5_putBytes 43 = .ok (.goto (-40), 3) := by decide +kernel
theorem dX5_putBytes_46 : decode cX5_putBytes 46 = .ok (.return_, 1) := by decide +kernel
theorem dX5_needNode_0 : decode cX5_needNode 0 = .ok (.aload_n 0, 1) := by decide +kernel
theorem dX5_needNode_1 : decode cX5_needNode 1 = .ok (.getfield 23, 3) := by decide +kernel
theorem dX5_needNode_4 : decode cX5_needNode 4 = .ok (.iload_n 1, 1) := by decide +kernel
theorem dX5_needNode_5 : decode cX5_needNode 5 = .ok (.invokevirtual 259, 3) := by decide +kernel
theorem dX5_needNode_8 : decode cX5_needNode 8 = .ok (.ifCond .ne 24, 3) := by decide +kernel
theorem dX5_needNode_11 : decode cX5_needNode 11 = .ok (.aload_n 0, 1) := by decide +kernel
theorem dX5_needNode_12 : decode cX5_needNode 12 = .ok (.getfield 65, 3) := by decide +kernel
theorem dX5_needNode_15 : decode cX5_needNode 15 = .ok (.iconst 0, 1) := by decide +kernel
theorem dX5_needNode_16 : decode cX5_needNode 16 = .ok (.dup2, 1) := by decide +kernel
theorem dX5_needNode_17 : decode cX5_needNode 17 = .ok (.iaload, 1) := by decide +kernel
theorem dX5_needNode_18 : decode cX5_needNode 18 = .ok (.iconst 1, 1) := by decide +kernel
theorem dX5_needNode_19 : decode cX5_needNode 19 = .ok (.iadd, 1) := by decide +kernel
theorem dX5_needNode_20 : decode cX5_needNode 20 = .ok (.iastore, 1) := by decide +kernel
theorem dX5_needNode_21 : decode cX5_needNode 21 = .ok (.new 262, 3) := by decide +kernel
theorem dX5_needNode_24 : decode cX5_needNode 24 = .ok (.dup, 1) := by decide +kernel
theorem dX5_needNode_25 : decode cX5_needNode 25 = .ok (.ldc_w 264, 3) := by decide +kernel
theorem dX5_needNode_28 : decode cX5_needNode 28 = .ok (.invokespecial 266, 3) := by decide +kernel
theorem dX5_needNode_31 : decode cX5_needNode 31 = .ok (.athrow, 1) := by decide +kernel
theorem dX5_needNode_32 : decode cX5_needNode 32 = .ok (.return_, 1) := by decide +kernel
theorem dX5_needTwoNodes_0 : decode cX5_needTwoNodes 0 = .ok (.aload_n 0, 1) := by decide +kernel
theorem dX5_needTwoNodes_1 : decode cX5_needTwoNodes 1 = .ok (.iload_n 1, 1) := by decide +kernel
theorem dX5_needTwoNodes_2 : decode cX5_needTwoNodes 2 = .ok (.invokevirtual 100, 3) := by decide +kernel
theorem dX5_needTwoNodes_5 : decode cX5_needTwoNodes 5 = .ok (.aload_n 0, 1) := by decide +kernel
theorem dX5_needTwoNodes_6 : decode cX5_needTwoNodes 6 = .ok (.iload_n 2, 1) := by decide +kernel
theorem dX5_needTwoNodes_7 : decode cX5_needTwoNodes 7 = .ok (.invokevirtual 100, 3) := by decide +kernel
theorem dX5_needTwoNodes_10 : decode cX5_needTwoNodes 10 = .ok (.aload_n 0, 1) := by decide +kernel
theorem dX5_needTwoNodes_11 : decode cX5_needTwoNodes 11 = .ok (.iload_n 1, 1) := by decide +kernel
theorem dX5_needTwoNodes_12 : decode cX5_needTwoNodes 12 = .ok (.iload_n 2, 1) := by decide +kernel
theorem dX5_needTwoNodes_13 : decode cX5_needTwoNodes 13 = .ok (.if_icmp .eq 7, 3) := by decide +kernel
theorem dX5_needTwoNodes_16 : decode cX5_needTwoNodes 16 = .ok (.iconst 1, 1) := by decide +kernel
theorem dX5_needTwoNodes_17 : decode cX5_needTwoNodes 17 = .ok (.goto 4, 3) := by decide +kernel
theorem dX5_needTwoNodes_20 : decode cX5_needTwoNodes 20 = .ok (.iconst 0, 1) := by decide +kernel
theorem dX5_needTwoNodes_21 : decode cX5_needTwoNodes 21 = .ok (.invokevirtual 80, 3) := by decide +kernel
theorem dX5_needTwoNodes_24 : decode cX5_needTwoNodes 24 = .ok (.return_, 1) := by decide +kernel
theorem dX5_needArgument_0 : decode cX5_needArgument 0 = .ok (.iload_n 1, 1) := by decide +kernel
theorem dX5_needArgument_1 : decode cX5_needArgument 1 = .ok (.ifCond .ne 24, 3) := by decide +kernel
theorem dX5_needArgument_4 : decode cX5_needArgument 4 = .ok (.aload_n 0, 1) := by decide +kernel
theorem dX5_needArgument_5 : decode cX5_needArgument 5 = .ok (.getfield 65, 3) := by decide +kernel
theorem dX5_needArgument_8 : decode cX5_needArgument 8 = .ok (.iconst 1, 1) := by decide +kernel
theorem dX5_needArgument_9 : decode cX5_needArgument 9 = .ok (.dup2, 1) := by decide +kernel
theorem dX5_needArgument_10 : decode cX5_needArgument 10 = .ok (.iaload, 1) := by decide +kernel
theorem dX5_needArgument_11 : decode cX5_needArgument 11 = .ok (.iconst 1, 1) := by decide +kernel
theorem dX5_needArgument_12 : decode cX5_needArgument 12 = .ok (.iadd, 1) := by decide +kernel
theorem dX5_needArgument_13 : decode cX5_needArgument 13 = .ok (.iastore, 1) := by decide +kernel
theorem dX5_needArgument_14 : decode cX5_needArgument 14 = .ok (.new 269, 3) := by decide +kernel
theorem dX5_needArgument_17 : decode cX5_needArgument 17 = .ok (.dup, 1) := by decide +kernel
theorem dX5_needArgument_18 : decode cX5_needArgument 18 = .ok (.ldc_w 271, 3) := by decide +kernel
theorem dX5_needArgument_21 : decode cX5_needArgument 21 = .ok (.invokespecial 273, 3) := by decide +kernel
theorem dX5_needArgument_24 : decode cX5_needArgument 24 = .ok (.athrow, 1) := by decide +kernel
theorem dX5_needArgument_25 : decode cX5_needArgument 25 = .ok (.return_, 1) := by decide +kernel
theorem dX5_needState_0 : decode cX5_needState 0 = .ok (.iload_n 1, 1) := by decide +kernel
theorem dX5_needState_1 : decode cX5_needState 1 = .ok (.ifCond .ne 24, 3) := by decide +kernel
theorem dX5_needState_4 : decode cX5_needState 4 = .ok (.aload_n 0, 1) := by decide +kernel
theorem dX5_needState_5 : decode cX5_needState 5 = .ok (.getfield 65, 3) := by decide +kernel
theorem dX5_needState_8 : decode cX5_needState 8 = .ok (.iconst 2, 1) := by decide +kernel
theorem dX5_needState_9 : decode cX5_needState 9 = .ok (.dup2, 1) := by decide +kernel
theorem dX5_needState_10 : decode cX5_needState 10 = .ok (.iaload, 1) := by decide +kernel
theorem dX5_needState_11 : decode cX5_needState 11 = .ok (.iconst 1, 1) := by decide +kernel
theorem dX5_needState_12 : decode cX5_needState 12 = .ok (.iadd, 1) := by decide +kernel
theorem dX5_needState_13 : decode cX5_needState 13 = .ok (.iastore, 1) := by decide +kernel
theorem dX5_needState_14 : decode cX5_needState 14 = .ok (.new 274, 3) := by decide +kernel
theorem dX5_needState_17 : decode cX5_needState 17 = .ok (.dup, 1) := by decide +kernel
theorem dX5_needState_18 : decode cX5_needState 18 = .ok (.ldc_w 276, 3) := by decide +kernel
theorem dX5_needState_21 : decode cX5_needState 21 = .ok (.invokespecial 278, 3) := by decide +kernel
theorem dX5_needState_24 : decode cX5_needState 24 = .ok (.athrow, 1) := by decide +kernel
theorem dX5_needState_25 : decode cX5_needState 25 = .ok (.return_, 1) := by decide +kernel
theorem dX5_placeInRow_0 : decode cX5_placeInRow 0 = .ok (.iload_n 1, 1) := by decide +kernel
theorem dX5_placeInRow_1 : decode cX5_placeInRow 1 = .ok (.ifCond .lt 14, 3) := by decide +kernel
theorem dX5_placeInRow_4 : decode cX5_placeInRow 4 = .ok (.iload_n 1, 1) := by decide +kernel
theorem dX5_placeInRow_5 : decode cX5_placeInRow 5 = .ok (.aload_n 0, 1) := by decide +kernel
theorem dX5_placeInRow_6 : decode cX5_placeInRow 6 = .ok (.getfield 61, 3) := by decide +kernel
theorem dX5_placeInRow_9 : decode cX5_placeInRow 9 = .ok (.getfield 251, 3) := by decide +kernel
theorem dX5_placeInRow_12 : decode cX5_placeInRow 12 = .ok (.if_icmp .lt 24, 3) := by decide +kernel
theorem dX5_placeInRow_15 : decode cX5_placeInRow 15 = .ok (.aload_n 0, 1) := by decide +kernel
theorem dX5_placeInRow_16 : decode cX5_placeInRow 16 = .ok (.getfield 65, 3) := by decide +kernel
theorem dX5_placeInRow_19 : decode cX5_placeInRow 19 = .ok (.iconst 0, 1) := by decide +kernel
theorem dX5_placeInRow_20 : decode cX5_placeInRow 20 = .ok (.dup2, 1) := by decide +kernel
theorem dX5_placeInRow_21 : decode cX5_placeInRow 21 = .ok (.iaload, 1) := by decide +kernel
theorem dX5_placeInRow_22 : decode cX5_placeInRow 22 = .ok (.iconst 1, 1) := by decide +kernel
theorem dX5_placeInRow_23 : decode cX5_placeInRow 23 = .ok (.iadd, 1) := by decide +kernel
theorem dX5_placeInRow_24 : decode cX5_placeInRow 24 = .ok (.iastore, 1) := by decide +kernel
theorem dX5_placeInRow_25 : decode cX5_placeInRow 25 = .ok (.new 262, 3) := by decide +kernel
theorem dX5_placeInRow_28 : decode cX5_placeInRow 28 = .ok (.dup, 1) := by decide +kernel
theorem dX5_placeInRow_29 : decode cX5_placeInRow 29 = .ok (.ldc_w 279, 3) := by decide +kernel
theorem dX5_placeInRow_32 : decode cX5_placeInRow 32 = .ok (.invokespecial 266, 3) := by decide +kernel
theorem dX5_placeInRow_35 : decode cX5_placeInRow 35 = .ok (.athrow, 1) := by decide +kernel
theorem dX5_placeInRow_36 : decode cX5_placeInRow 36 = .ok (.aload_n 0, 1) := by decide +kernel
theorem dX5_placeInRow_37 : decode cX5_placeInRow 37 = .ok (.getfield 61, 3) := by decide +kernel
theorem dX5_placeInRow_40 : decode cX5_placeInRow 40 = .ok (.getfield 281, 3) := by decide +kernel
theorem dX5_placeInRow_43 : decode cX5_placeInRow 43 = .ok (.iload_n 1, 1) := by decide +kernel
theorem dX5_placeInRow_44 : decode cX5_placeInRow 44 = .ok (.iaload, 1) := by decide +kernel
theorem dX5_placeInRow_45 : decode cX5_placeInRow 45 = .ok (.ireturn, 1) := by decide +kernel
theorem dX5_remember_0 : decode cX5_remember 0 = .ok (.aload_n 0, 1) := by decide +kernel
theorem dX5_remember_1 : decode cX5_remember 1 = .ok (.getfield 34, 3) := by decide +kernel
theorem dX5_remember_4 : decode cX5_remember 4 = .ok (.bipush 8, 2) := by decide +kernel
theorem dX5_remember_6 : decode cX5_remember 6 = .ok (.if_icmp .lt 7, 3) := by decide +kernel
theorem dX5_remember_9 : decode cX5_remember 9 = .ok (.aload_n 0, 1) := by decide +kernel
theorem dX5_remember_10 : decode cX5_remember 10 = .ok (.invokevirtual 284, 3) := by decide +kernel
theorem dX5_remember_13 : decode cX5_remember 13 = .ok (.aload_n 0, 1) := by decide +kernel
theorem dX5_remember_14 : decode cX5_remember 14 = .ok (.getfield 30, 3) := by decide +kernel
theorem dX5_remember_17 : decode cX5_remember 17 = .ok (.aload_n 0, 1) := by decide +kernel
theorem dX5_remember_18 : decode cX5_remember 18 = .ok (.getfield 34, 3) := by decide +kernel
theorem dX5_remember_21 : decode cX5_remember 21 = .ok (.aaload, 1) := by decide +kernel
theorem dX5_remember_22 : decode cX5_remember 22 = .ok (.aload_n 0, 1) := by decide +kernel
theorem dX5_remember_23 : decode cX5_remember 23 = .ok (.getfield 23, 3) := by decide +kernel
theorem dX5_remember_26 : decode cX5_remember 26 = .ok (.invokevirtual 170, 3) := by decide +kernel
theorem dX5_remember_29 : decode cX5_remember 29 = .ok (.aload_n 0, 1) := by decide +kernel
theorem dX5_remember_30 : decode cX5_remember 30 = .ok (.dup, 1) := by decide +kernel
theorem dX5_remember_31 : decode cX5_remember 31 = .ok (.getfield 34, 3) := by decide +kernel
theorem dX5_remember_34 : decode cX5_remember 34 = .ok (.iconst 1, 1) := by decide +kernel
theorem dX5_remember_35 : decode cX5_remember 35 = .ok (.iadd, 1) := by decide +kernel
theorem dX5_remember_36 : decode cX5_remember 36 = .ok (.putfield 34, 3) := by decide +kernel
theorem dX5_remember_39 : decode cX5_remember 39 = .ok (.return_, 1) := by decide +kernel
theorem dX5_rememberLines_0 : decode cX5_rememberLines 0 = .ok (.aload_n 0, 1) := by decide +kernel
theorem dX5_rememberLines_1 : decode cX5_rememberLines 1 = .ok (.invokevirtual 124, 3) := by decide +kernel
theorem dX5_rememberLines_4 : decode cX5_rememberLines 4 = .ok (.aload_n 0, 1) := by decide +kernel
theorem dX5_rememberLines_5 : decode cX5_rememberLines 5 = .ok (.invokevirtual 173, 3) := by decide +kernel
theorem dX5_rememberLines_8 : decode cX5_rememberLines 8 = .ok (.return_, 1) := by decide +kernel
theorem dX5_dropOldest_0 : decode cX5_dropOldest 0 = .ok (.aload_n 0, 1) := by decide +kernel
theorem dX5_dropOldest_1 : decode cX5_dropOldest 1 = .ok (.getfield 30, 3) := by decide +kernel
theorem dX5_dropOldest_4 : decode cX5_dropOldest 4 = .ok (.iconst 0, 1) := by decide +kernel
theorem dX5_dropOldest_5 : decode cX5_dropOldest 5 = .ok (.aaload, 1) := by decide +kernel
theorem dX5_dropOldest_6 : decode cX5_dropOldest 6 = .ok (.astore_n 1, 1) := by decide +kernel
theorem dX5_dropOldest_7 : decode cX5_dropOldest 7 = .ok (.iconst 1, 1) := by decide +kernel
theorem dX5_dropOldest_8 : decode cX5_dropOldest 8 = .ok (.istore_n 2, 1) := by decide +kernel
theorem dX5_dropOldest_9 : decode cX5_dropOldest 9 = .ok (.iload_n 2, 1) := by decide +kernel
theorem dX5_dropOldest_10 : decode cX5_dropOldest 10 = .ok (.bipush 8, 2) := by decide +kernel
theorem dX5_dropOldest_12 : decode cX5_dropOldest 12 = .ok (.if_icmp .ge 23, 3) := by decide +kernel
theorem dX5_dropOldest_15 : decode cX5_dropOldest 15 = .ok (.aload_n 0, 1) := by decide +kernel
theorem dX5_dropOldest_16 : decode cX5_dropOldest 16 = .ok (.getfield 30, 3) := by decide +kernel
theorem dX5_dropOldest_19 : decode cX5_dropOldest 19 = .ok (.iload_n 2, 1) := by decide +kernel
theorem dX5_dropOldest_20 : decode cX5_dropOldest 20 = .ok (.iconst 1, 1) := by decide +kernel
theorem dX5_dropOldest_21 : decode cX5_dropOldest 21 = .ok (.isub, 1) := by decide +kernel
theorem dX5_dropOldest_22 : decode cX5_dropOldest 22 = .ok (.aload_n 0, 1) := by decide +kernel
theorem dX5_dropOldest_23 : decode cX5_dropOldest 23 = .ok (.getfield 30, 3) := by decide +kernel
theorem dX5_dropOldest_26 : decode cX5_dropOldest 26 = .ok (.iload_n 2, 1) := by decide +kernel
theorem dX5_dropOldest_27 : decode cX5_dropOldest 27 = .ok (.aaload, 1) := by decide +kernel
theorem dX5_dropOldest_28 : decode cX5_dropOldest 28 = .ok (.aastore, 1) := by decide +kernel
theorem dX5_dropOldest_29 : decode cX5_dropOldest 29 = .ok (.iinc 2 1, 3) := by decide +kernel
theorem dX5_dropOldest_32 : decode cX5_dropOldest 32 = .ok (.goto (-23), 3) := by decide +kernel
theorem dX5_dropOldest_35 : decode cX5_dropOldest 35 = .ok (.aload_n 0, 1) := by decide +kernel
theorem dX5_dropOldest_36 : decode cX5_dropOldest 36 = .ok (.getfield 30, 3) := by decide +kernel
theorem dX5_dropOldest_39 : decode cX5_dropOldest 39 = .ok (.bipush 7, 2) := by decide +kernel
theorem dX5_dropOldest_41 : decode cX5_dropOldest 41 = .ok (.aload_n 1, 1) := by decide +kernel
theorem dX5_dropOldest_42 : decode cX5_dropOldest 42 = .ok (.aastore, 1) := by decide +kernel
theorem dX5_dropOldest_43 : decode cX5_dropOldest 43 = .ok (.aload_n 0, 1) := by decide +kernel
theorem dX5_dropOldest_44 : decode cX5_dropOldest 44 = .ok (.bipush 7, 2) := by decide +kernel
theorem dX5_dropOldest_46 : decode cX5_dropOldest 46 = .ok (.putfield 34, 3) := by decide +kernel
theorem dX5_dropOldest_49 : decode cX5_dropOldest 49 = .ok (.return_, 1) := by decide +kernel
theorem dX5_becomeDraft_0 : decode cX5_becomeDraft 0 = .ok (.aload_n 0, 1) := by decide +kernel
theorem dX5_becomeDraft_1 : decode cX5_becomeDraft 1 = .ok (.invokevirtual 103, 3) := by decide +kernel
theorem dX5_becomeDraft_4 : decode cX5_becomeDraft 4 = .ok (.aload_n 0, 1) := by decide +kernel
theorem dX5_becomeDraft_5 : decode cX5_becomeDraft 5 = .ok (.getfield 23, 3) := by decide +kernel
theorem dX5_becomeDraft_8 : decode cX5_becomeDraft 8 = .ok (.aload_n 0, 1) := by decide +kernel
theorem dX5_becomeDraft_9 : decode cX5_becomeDraft 9 = .ok (.getfield 27, 3) := by decide +kernel
theorem dX5_becomeDraft_12 : decode cX5_becomeDraft 12 = .ok (.invokevirtual 170, 3) := by decide +kernel
theorem dX5_becomeDraft_15 : decode cX5_becomeDraft 15 = .ok (.return_, 1) := by decide +kernel
theorem dX5_forgetAnswers_0 : decode cX5_forgetAnswers 0 = .ok (.aload_n 0, 1) := by decide +kernel
theorem dX5_forgetAnswers_1 : decode cX5_forgetAnswers 1 = .ok (.getfield 47, 3) := by decide +kernel
theorem dX5_forgetAnswers_4 : decode cX5_forgetAnswers 4 = .ok (.iconst 0, 1) := by decide +kernel
theorem dX5_forgetAnswers_5 : decode cX5_forgetAnswers 5 = .ok (.putfield 287, 3) := by decide +kernel
theorem dX5_forgetAnswers_8 : decode cX5_forgetAnswers 8 = .ok (.aload_n 0, 1) := by decide +kernel
theorem dX5_forgetAnswers_9 : decode cX5_forgetAnswers 9 = .ok (.getfield 54, 3) := by decide +kernel
theorem dX5_forgetAnswers_12 : decode cX5_forgetAnswers 12 = .ok (.iconst 0, 1) := by decide +kernel
theorem dX5_forgetAnswers_13 : decode cX5_forgetAnswers 13 = .ok (.putfield 291, 3) := by decide +kernel
theorem dX5_forgetAnswers_16 : decode cX5_forgetAnswers 16 = .ok (.return_, 1) := by decide +kernel
theorem dX5_learn_0 : decode cX5_learn 0 = .ok (.aload_n 0, 1) := by decide +kernel
theorem dX5_learn_1 : decode cX5_learn 1 = .ok (.getfield 47, 3) := by decide +kernel
theorem dX5_learn_4 : decode cX5_learn 4 = .ok (.aload_n 0, 1) := by decide +kernel
theorem dX5_learn_5 : decode cX5_learn 5 = .ok (.getfield 23, 3) := by decide +kernel
theorem dX5_learn_8 : decode cX5_learn 8 = .ok (.invokevirtual 292, 3) := by decide +kernel
theorem dX5_learn_11 : decode cX5_learn 11 = .ok (.return_, 1) := by decide +kernel
theorem dX5_labelOf_0 : decode cX5_labelOf 0 = .ok (.aload_n 0, 1) := by decide +kernel
theorem dX5_labelOf_1 : decode cX5_labelOf 1 = .ok (.getfield 61, 3) := by decide +kernel
theorem dX5_labelOf_4 : decode cX5_labelOf 4 = .ok (.aload_n 0, 1) := by decide +kernel
theorem dX5_labelOf_5 : decode cX5_labelOf 5 = .ok (.getfield 23, 3) := by decide +kernel
theorem dX5_labelOf_8 : decode cX5_labelOf 8 = .ok (.invokevirtual 222, 3) := by decide +kernel
theorem dX5_labelOf_11 : decode cX5_labelOf 11 = .ok (.iconst 0, 1) := by decide +kernel
theorem dX5_labelOf_12 : decode cX5_labelOf 12 = .ok (.istore_n 2, 1) := by decide +kernel
theorem dX5_labelOf_13 : decode cX5_labelOf 13 = .ok (.iload_n 2, 1) := by decide +kernel
theorem dX5_labelOf_14 : decode cX5_labelOf 14 = .ok (.iconst 2, 1) := by decide +kernel
theorem dX5_labelOf_15 : decode cX5_labelOf 15 = .ok (.if_icmp .ge 30, 3) := by decide +kernel
theorem dX5_labelOf_18 : decode cX5_labelOf 18 = .ok (.aload_n 0, 1) := by decide +kernel
theorem dX5_labelOf_19 : decode cX5_labelOf 19 = .ok (.getfield 61, 3) := by decide +kernel
theorem dX5_labelOf_22 : decode cX5_labelOf 22 = .ok (.aload_n 0, 1) := by decide +kernel
theorem dX5_labelOf_23 : decode cX5_labelOf 23 = .ok (.getfield 23, 3) := by decide +kernel
theorem dX5_labelOf_26 : decode cX5_labelOf 26 = .ok (.iload_n 2, 1) := by decide +kernel
theorem dX5_labelOf_27 : decode cX5_labelOf 27 = .ok (.invokevirtual 225, 3) := by decide +kernel
theorem dX5_labelOf_30 : decode cX5_labelOf 30 = .ok (.iload_n 1, 1) := by decide +kernel
theorem dX5_labelOf_31 : decode cX5_labelOf 31 = .ok (.invokestatic 293, 3) := by decide +kernel
theorem dX5_labelOf_34 : decode cX5_labelOf 34 = .ok (.ifCond .eq 5, 3) := by decide +kernel
theorem dX5_labelOf_37 : decode cX5_labelOf 37 = .ok (.iload_n 2, 1) := by decide +kernel
theorem dX5_labelOf_38 : decode cX5_labelOf 38 = .ok (.ireturn, 1) := by decide +kernel
theorem dX5_labelOf_39 : decode cX5_labelOf 39 = .ok (.iinc 2 1, 3) := by decide +kernel
theorem dX5_labelOf_42 : decode cX5_labelOf 42 = .ok (.goto (-29), 3) := by decide +kernel
theorem dX5_labelOf_45 : decode cX5_labelOf 45 = .ok (.iconst 2, 1) := by decide +kernel
theorem dX5_labelOf_46 : decode cX5_labelOf 46 = .ok (.ireturn, 1) := by decide +kernel
theorem dX5_setOf_0 : decode cX5_setOf 0 = .ok (.aload_n 0, 1) := by decide +kernel
theorem dX5_setOf_1 : decode cX5_setOf 1 = .ok (.invokevirtual 176, 3) := by decide +kernel
theorem dX5_setOf_4 : decode cX5_setOf 4 = .ok (.iconst 0, 1) := by decide +kernel
theorem dX5_setOf_5 : decode cX5_setOf 5 = .ok (.istore_n 2, 1) := by decide +kernel
theorem dX5_setOf_6 : decode cX5_setOf 6 = .ok (.iload_n 2, 1) := by decide +kernel
theorem dX5_setOf_7 : decode cX5_setOf 7 = .ok (.iconst 2, 1) := by decide +kernel
theorem dX5_setOf_8 : decode cX5_setOf 8 = .ok (.if_icmp .ge 30, 3) := by decide +kernel
theorem dX5_setOf_11 : decode cX5_setOf 11 = .ok (.aload_n 0, 1) := by decide +kernel
theorem dX5_setOf_12 : decode cX5_setOf 12 = .ok (.getfield 47, 3) := by decide +kernel
theorem dX5_setOf_15 : decode cX5_setOf 15 = .ok (.aload_n 0, 1) := by decide +kernel
theorem dX5_setOf_16 : decode cX5_setOf 16 = .ok (.getfield 23, 3) := by decide +kernel
theorem dX5_setOf_19 : decode cX5_setOf 19 = .ok (.iload_n 2, 1) := by decide +kernel
theorem dX5_setOf_20 : decode cX5_setOf 20 = .ok (.invokevirtual 218, 3) := by decide +kernel
theorem dX5_setOf_23 : decode cX5_setOf 23 = .ok (.iload_n 1, 1) := by decide +kernel
theorem dX5_setOf_24 : decode cX5_setOf 24 = .ok (.invokestatic 293, 3) := by decide +kernel
theorem dX5_setOf_27 : decode cX5_setOf 27 = .ok (.ifCond .eq 5, 3) := by decide +kernel
theorem dX5_setOf_30 : decode cX5_setOf 30 = .ok (.iload_n 2, 1) := by decide +kernel
theorem dX5_setOf_31 : decode cX5_setOf 31 = .ok (.ireturn, 1) := by decide +kernel
theorem dX5_setOf_32 : decode cX5_setOf 32 = .ok (.iinc 2 1, 3) := by decide +kernel
theorem dX5_setOf_35 : decode cX5_setOf 35 = .ok (.goto (-29), 3) := by decide +kernel
theorem dX5_setOf_38 : decode cX5_setOf 38 = .ok (.iconst 2, 1) := by decide +kernel
theorem dX5_setOf_39 : decode cX5_setOf 39 = .ok (.ireturn, 1) := by decide +kernel
theorem dX5_hasBit_0 : decode cX5_hasBit 0 = .ok (.iload_n 0, 1) := by decide +kernel
theorem dX5_hasBit_1 : decode cX5_hasBit 1 = .ok (.iload_n 1, 1) := by decide +kernel
theorem dX5_hasBit_2 : decode cX5_hasBit 2 = .ok (.ishr, 1) := by decide +kernel
theorem dX5_hasBit_3 : decode cX5_hasBit 3 = .ok (.iconst 1, 1) := by decide +kernel
theorem dX5_hasBit_4 : decode cX5_hasBit 4 = .ok (.iand, 1) := by decide +kernel
theorem dX5_hasBit_5 : decode cX5_hasBit 5 = .ok (.iconst 1, 1) := by decide +kernel
theorem dX5_hasBit_6 : decode cX5_hasBit 6 = .ok (.if_icmp .ne 7, 3) := by decide +kernel
theorem dX5_hasBit_9 : decode cX5_hasBit 9 = .ok (.iconst 1, 1) := by decide +kernel
theorem dX5_hasBit_10 : decode cX5_hasBit 10 = .ok (.goto 4, 3) := by decide +kernel
theorem dX5_hasBit_13 : decode cX5_hasBit 13 = .ok (.iconst 0, 1) := by decide +kernel
theorem dX5_hasBit_14 : decode cX5_hasBit 14 = .ok (.ireturn, 1) := by decide +kernel
theorem dX5_asNumber_0 : decode cX5_asNumber 0 = .ok (.iload_n 0, 1) := by decide +kernel
theorem dX5_asNumber_1 : decode cX5_asNumber 1 = .ok (.ifCond .eq 7, 3) := by decide +kernel
theorem dX5_asNumber_4 : decode cX5_asNumber 4 = .ok (.iconst 1, 1) := by decide +kernel
theorem dX5_asNumber_5 : decode cX5_asNumber 5 = .ok (.goto 4, 3) := by decide +kernel
theorem dX5_asNumber_8 : decode cX5_asNumber 8 = .ok (.iconst 0, 1) := by decide +kernel
theorem dX5_asNumber_9 : decode cX5_asNumber 9 = .ok (.ireturn, 1) := by decide +kernel
theorem dJ6_bitCount_0f7a4_0 : decode cJ6_bitCount_0f7a4 0 = .ok (.iload_n 0, 1) := by decide +kernel
theorem dJ6_bitCount_0f7a4_1 : decode cJ6_bitCount_0f7a4 1 = .ok (.iload_n 0, 1) := by decide +kernel
theorem dJ6_bitCount_0f7a4_2 : decode cJ6_bitCount_0f7a4 2 = .ok (.iconst 1, 1) := by decide +kernel
theorem dJ6_bitCount_0f7a4_3 : decode cJ6_bitCount_0f7a4 3 = .ok (.iushr, 1) := by decide +kernel
theorem dJ6_bitCount_0f7a4_4 : decode cJ6_bitCount_0f7a4 4 = .ok (.ldc_w 265, 3) := by decide +kernel
theorem dJ6_bitCount_0f7a4_7 : decode cJ6_bitCount_0f7a4 7 = .ok (.iand, 1) := by decide +kernel
theorem dJ6_bitCount_0f7a4_8 : decode cJ6_bitCount_0f7a4 8 = .ok (.isub, 1) := by decide +kernel
theorem dJ6_bitCount_0f7a4_9 : decode cJ6_bitCount_0f7a4 9 = .ok (.istore_n 0, 1) := by decide +kernel
theorem dJ6_bitCount_0f7a4_10 : decode cJ6_bitCount_0f7a4 10 = .ok (.iload_n 0, 1) := by decide +kernel
theorem dJ6_bitCount_0f7a4_11 : decode cJ6_bitCount_0f7a4 11 = .ok (.ldc_w 266, 3) := by decide +kernel
theorem dJ6_bitCount_0f7a4_14 : decode cJ6_bitCount_0f7a4 14 = .ok (.iand, 1) := by decide +kernel
theorem dJ6_bitCount_0f7a4_15 : decode cJ6_bitCount_0f7a4 15 = .ok (.iload_n 0, 1) := by decide +kernel
theorem dJ6_bitCount_0f7a4_16 : decode cJ6_bitCount_0f7a4 16 = .ok (.iconst 2, 1) := by decide +kernel
theorem dJ6_bitCount_0f7a4_17 : decode cJ6_bitCount_0f7a4 17 = .ok (.iushr, 1) := by decide +kernel
theorem dJ6_bitCount_0f7a4_18 : decode cJ6_bitCount_0f7a4 18 = .ok (.ldc_w 266, 3) := by decide +kernel
theorem dJ6_bitCount_0f7a4_21 : decode cJ6_bitCount_0f7a4 21 = .ok (.iand, 1) := by decide +kernel
theorem dJ6_bitCount_0f7a4_22 : decode cJ6_bitCount_0f7a4 22 = .ok (.iadd, 1) := by decide +kernel
theorem dJ6_bitCount_0f7a4_23 : decode cJ6_bitCount_0f7a4 23 = .ok (.istore_n 0, 1) := by decide +kernel
theorem dJ6_bitCount_0f7a4_24 : decode cJ6_bitCount_0f7a4 24 = .ok (.iload_n 0, 1) := by decide +kernel
theorem dJ6_bitCount_0f7a4_25 : decode cJ6_bitCount_0f7a4 25 = .ok (.iload_n 0, 1) := by decide +kernel
theorem dJ6_bitCount_0f7a4_26 : decode cJ6_bitCount_0f7a4 26 = .ok (.iconst 4, 1) := by decide +kernel
theorem dJ6_bitCount_0f7a4_27 : decode cJ6_bitCount_0f7a4 27 = .ok (.iushr, 1) := by decide +kernel
theorem dJ6_bitCount_0f7a4_28 : decode cJ6_bitCount_0f7a4 28 = .ok (.iadd, 1) := by decide +kernel
theorem dJ6_bitCount_0f7a4_29 : decode cJ6_bitCount_0f7a4 29 = .ok (.ldc_w 267, 3) := by decide +kernel
theorem dJ6_bitCount_0f7a4_32 : decode cJ6_bitCount_0f7a4 32 = .ok (.iand, 1) := by decide +kernel
theorem dJ6_bitCount_0f7a4_33 : decode cJ6_bitCount_0f7a4 33 = .ok (.istore_n 0, 1) := by decide +kernel
theorem dJ6_bitCount_0f7a4_34 : decode cJ6_bitCount_0f7a4 34 = .ok (.iload_n 0, 1) := by decide +kernel
theorem dJ6_bitCount_0f7a4_35 : decode cJ6_bitCount_0f7a4 35 = .ok (.iload_n 0, 1) := by decide +kernel
theorem dJ6_bitCount_0f7a4_36 : decode cJ6_bitCount_0f7a4 36 = .ok (.bipush 8, 2) := by decide +kernel
theorem dJ6_bitCount_0f7a4_38 : decode cJ6_bitCount_0f7a4 38 = .ok (.iushr, 1) := by decide +kernel
theorem dJ6_bitCount_0f7a4_39 : decode cJ6_bitCount_0f7a4 39 = .ok (.iadd, 1) := by decide +kernel
theorem dJ6_bitCount_0f7a4_40 : decode cJ6_bitCount_0f7a4 40 = .ok (.istore_n 0, 1) := by decide +kernel
theorem dJ6_bitCount_0f7a4_41 : decode cJ6_bitCount_0f7a4 41 = .ok (.iload_n 0, 1) := by decide +kernel
theorem dJ6_bitCount_0f7a4_42 : decode cJ6_bitCount_0f7a4 42 = .ok (.iload_n 0, 1) := by decide +kernel
theorem dJ6_bitCount_0f7a4_43 : decode cJ6_bitCount_0f7a4 43 = .ok (.bipush 16, 2) := by decide +kernel
theorem dJ6_bitCount_0f7a4_45 : decode cJ6_bitCount_0f7a4 45 = .ok (.iushr, 1) := by decide +kernel
theorem dJ6_bitCount_0f7a4_46 : decode cJ6_bitCount_0f7a4 46 = .ok (.iadd, 1) := by decide +kernel
theorem dJ6_bitCount_0f7a4_47 : decode cJ6_bitCount_0f7a4 47 = .ok (.istore_n 0, 1) := by decide +kernel
theorem dJ6_bitCount_0f7a4_48 : decode cJ6_bitCount_0f7a4 48 = .ok (.iload_n 0, 1) := by decide +kernel
theorem dJ6_bitCount_0f7a4_49 : decode cJ6_bitCount_0f7a4 49 = .ok (.bipush 63, 2) := by decide +kernel
theorem dJ6_bitCount_0f7a4_51 : decode cJ6_bitCount_0f7a4 51 = .ok (.iand, 1) := by decide +kernel
theorem dJ6_bitCount_0f7a4_52 : decode cJ6_bitCount_0f7a4 52 = .ok (.ireturn, 1) := by decide +kernel
theorem dJ9_max_7cf53_0 : decode cJ9_max_7cf53 0 = .ok (.iload_n 0, 1) := by decide +kernel
theorem dJ9_max_7cf53_1 : decode cJ9_max_7cf53 1 = .ok (.iload_n 1, 1) := by decide +kernel
theorem dJ9_max_7cf53_2 : decode cJ9_max_7cf53 2 = .ok (.if_icmp .lt 7, 3) := by decide +kernel
theorem dJ9_max_7cf53_5 : decode cJ9_max_7cf53 5 = .ok (.iload_n 0, 1) := by decide +kernel
theorem dJ9_max_7cf53_6 : decode cJ9_max_7cf53 6 = .ok (.goto 4, 3) := by decide +kernel
theorem dJ9_max_7cf53_9 : decode cJ9_max_7cf53 9 = .ok (.iload_n 1, 1) := by decide +kernel
theorem dJ9_max_7cf53_10 : decode cJ9_max_7cf53 10 = .ok (.ireturn, 1) := by decide +kernel
theorem dJ9_min_7cf53_0 : decode cJ9_min_7cf53 0 = .ok (.iload_n 0, 1) := by decide +kernel
theorem dJ9_min_7cf53_1 : decode cJ9_min_7cf53 1 = .ok (.iload_n 1, 1) := by decide +kernel
theorem dJ9_min_7cf53_2 : decode cJ9_min_7cf53 2 = .ok (.if_icmp .gt 7, 3) := by decide +kernel
theorem dJ9_min_7cf53_5 : decode cJ9_min_7cf53 5 = .ok (.iload_n 0, 1) := by decide +kernel
theorem dJ9_min_7cf53_6 : decode cJ9_min_7cf53 6 = .ok (.goto 4, 3) := by decide +kernel
theorem dJ9_min_7cf53_9 : decode cJ9_min_7cf53 9 = .ok (.iload_n 1, 1) := by decide +kernel
theorem dJ9_min_7cf53_10 : decode cJ9_min_7cf53 10 = .ok (.ireturn, 1) := by decide +kernel
theorem dJ0_length_8abf5_0 : decode cJ0_length_8abf5 0 = .ok (.aload_n 0, 1) := by decide +kernel
theorem dJ0_length_8abf5_1 : decode cJ0_length_8abf5 1 = .ok (.getfield 9, 3) := by decide +kernel
theorem dJ0_length_8abf5_4 : decode cJ0_length_8abf5 4 = .ok (.arraylength, 1) := by decide +kernel
theorem dJ0_length_8abf5_5 : decode cJ0_length_8abf5 5 = .ok (.aload_n 0, 1) := by decide +kernel
theorem dJ0_length_8abf5_6 : decode cJ0_length_8abf5 6 = .ok (.invokevirtual 335, 3) := by decide +kernel
theorem dJ0_length_8abf5_9 : decode cJ0_length_8abf5 9 = .ok (.ishr, 1) := by decide +kernel
theorem dJ0_length_8abf5_10 : decode cJ0_length_8abf5 10 = .ok (.ireturn, 1) := by decide +kernel
theorem dJ0_charAt_5068e_0 : decode cJ0_charAt_5068e 0 = .ok (.aload_n 0, 1) := by decide +kernel
theorem dJ0_charAt_5068e_1 : decode cJ0_charAt_5068e 1 = .ok (.invokevirtual 492, 3) := by decide +kernel
theorem dJ0_charAt_5068e_4 : decode cJ0_charAt_5068e 4 = .ok (.ifCond .eq 12, 3) := by decide +kernel
theorem dJ0_charAt_5068e_7 : decode cJ0_charAt_5068e 7 = .ok (.aload_n 0, 1) := by decide +kernel
theorem dJ0_charAt_5068e_8 : decode cJ0_charAt_5068e 8 = .ok (.getfield 9, 3) := by decide +kernel
theorem dJ0_charAt_5068e_11 : decode cJ0_charAt_5068e 11 = .ok (.iload_n 1, 1) := by decide +kernel
theorem dJ0_charAt_5068e_12 : decode cJ0_charAt_5068e 12 = .ok (.invokestatic 495, 3) := by decide +kernel
theorem dJ0_charAt_5068e_15 : decode cJ0_charAt_5068e 15 = .ok (.ireturn, 1) := by decide +kernel
theorem dJ0_charAt_5068e_16 : decode cJ0_charAt_5068e 16 = .ok (.aload_n 0, 1) := by decide +kernel
theorem dJ0_charAt_5068e_17 : decode cJ0_charAt_5068e 17 = .ok (.getfield 9, 3) := by decide +kernel
theorem dJ0_charAt_5068e_20 : decode cJ0_charAt_5068e 20 = .ok (.iload_n 1, 1) := by decide +kernel
theorem dJ0_charAt_5068e_21 : decode cJ0_charAt_5068e 21 = .ok (.invokestatic 498, 3) := by decide +kernel
theorem dJ0_charAt_5068e_24 : decode cJ0_charAt_5068e 24 = .ok (.ireturn, 1) := by decide +kernel
theorem dJ0_coder_7d493_0 : decode cJ0_coder_7d493 0 = .ok (.getstatic 38, 3) := by decide +kernel
theorem dJ0_coder_7d493_3 : decode cJ0_coder_7d493 3 = .ok (.ifCond .eq 10, 3) := by decide +kernel
theorem dJ0_coder_7d493_6 : decode cJ0_coder_7d493 6 = .ok (.aload_n 0, 1) := by decide +kernel
theorem dJ0_coder_7d493_7 : decode cJ0_coder_7d493 7 = .ok (.getfield 15, 3) := by decide +kernel
theorem dJ0_coder_7d493_10 : decode cJ0_coder_7d493 10 = .ok (.goto 4, 3) := by decide +kernel
theorem dJ0_coder_7d493_13 : decode cJ0_coder_7d493 13 = .ok (.iconst 1, 1) := by decide +kernel
theorem dJ0_coder_7d493_14 : decode cJ0_coder_7d493 14 = .ok (.ireturn, 1) := by decide +kernel
theorem dJ0_isLatin1_aae02_0 : decode cJ0_isLatin1_aae02 0 = .ok (.getstatic 38, 3) := by decide +kernel
theorem dJ0_isLatin1_aae02_3 : decode cJ0_isLatin1_aae02 3 = .ok (.ifCond .eq 14, 3) := by decide +kernel
theorem dJ0_isLatin1_aae02_6 : decode cJ0_isLatin1_aae02 6 = .ok (.aload_n 0, 1) := by decide +kernel
theorem dJ0_isLatin1_aae02_7 : decode cJ0_isLatin1_aae02 7 = .ok (.getfield 15, 3) := by decide +kernel
theorem dJ0_isLatin1_aae02_10 : decode cJ0_isLatin1_aae02 10 = .ok (.ifCond .ne 7, 3) := by decide +kernel
theorem dJ0_isLatin1_aae02_13 : decode cJ0_isLatin1_aae02 13 = .ok (.iconst 1, 1) := by decide +kernel
theorem dJ0_isLatin1_aae02_14 : decode cJ0_isLatin1_aae02 14 = .ok (.goto 4, 3) := by decide +kernel
theorem dJ0_isLatin1_aae02_17 : decode cJ0_isLatin1_aae02 17 = .ok (.iconst 0, 1) := by decide +kernel
theorem dJ0_isLatin1_aae02_18 : decode cJ0_isLatin1_aae02 18 = .ok (.ireturn, 1) := by decide +kernel
theorem dJ0_checkIndex_df160_0 : decode cJ0_checkIndex_df160 0 = .ok (.iload_n 0, 1) := by decide +kernel
theorem dJ0_checkIndex_df160_1 : decode cJ0_checkIndex_df160 1 = .ok (.iload_n 1, 1) := by decide +kernel
theorem dJ0_checkIndex_df160_2 : decode cJ0_checkIndex_df160 2 = .ok (.getstatic 1053, 3) := by decide +kernel
theorem dJ0_checkIndex_df160_5 : decode cJ0_checkIndex_df160 5 = .ok (.invokestatic 1059, 3) := by decide +kernel
theorem dJ0_checkIndex_df160_8 : decode cJ0_checkIndex_df160 8 = .ok (.pop, 1) := by decide +kernel
theorem dJ0_checkIndex_df160_9 : decode cJ0_checkIndex_df160 9 = .ok (.return_, 1) := by decide +kernel
theorem dJ1_charAt_3b067_0 : decode cJ1_charAt_3b067 0 = .ok (.iload_n 1, 1) := by decide +kernel
theorem dJ1_charAt_3b067_1 : decode cJ1_charAt_3b067 1 = .ok (.aload_n 0, 1) := by decide +kernel
theorem dJ1_charAt_3b067_2 : decode cJ1_charAt_3b067 2 = .ok (.arraylength, 1) := by decide +kernel
theorem dJ1_charAt_3b067_3 : decode cJ1_charAt_3b067 3 = .ok (.invokestatic 9, 3) := by decide +kernel
theorem dJ1_charAt_3b067_6 : decode cJ1_charAt_3b067 6 = .ok (.aload_n 0, 1) := by decide +kernel
theorem dJ1_charAt_3b067_7 : decode cJ1_charAt_3b067 7 = .ok (.iload_n 1, 1) := by decide +kernel
theorem dJ1_charAt_3b067_8 : decode cJ1_charAt_3b067 8 = .ok (.baload, 1) := by decide +kernel
theorem dJ1_charAt_3b067_9 : decode cJ1_charAt_3b067 9 = .ok (.sipush 255, 3) := by decide +kernel
theorem dJ1_charAt_3b067_12 : decode cJ1_charAt_3b067 12 = .ok (.iand, 1) := by decide +kernel
theorem dJ1_charAt_3b067_13 : decode cJ1_charAt_3b067 13 = .ok (.i2c, 1) := by decide +kernel
theorem dJ1_charAt_3b067_14 : decode cJ1_charAt_3b067 14 = .ok (.ireturn, 1) := by decide +kernel
theorem dJ2_getChar_3b067_0 : decode cJ2_getChar_3b067 0 = .ok (.getstatic 44, 3) := by decide +kernel
theorem dJ2_getChar_3b067_3 : decode cJ2_getChar_3b067 3 = .ok (.ifCond .ne 25, 3) := by decide +kernel
theorem dJ2_getChar_3b067_6 : decode cJ2_getChar_3b067 6 = .ok (.iload_n 1, 1) := by decide +kernel
theorem dJ2_getChar_3b067_7 : decode cJ2_getChar_3b067 7 = .ok (.ifCond .lt 11, 3) := by decide +kernel
theorem dJ2_getChar_3b067_10 : decode cJ2_getChar_3b067 10 = .ok (.iload_n 1, 1) := by decide +kernel
theorem dJ2_getChar_3b067_11 : decode cJ2_getChar_3b067 11 = .ok (.aload_n 0, 1) := by decide +kernel
theorem dJ2_getChar_3b067_12 : decode cJ2_getChar_3b067 12 = .ok (.invokestatic 48, 3) := by decide +kernel
theorem dJ2_getChar_3b067_15 : decode cJ2_getChar_3b067 15 = .ok (.if_icmp .lt 13, 3) := by decide +kernel
theorem dJ2_getChar_3b067_18 : decode cJ2_getChar_3b067 18 = .ok (.new 52, 3) := by decide +kernel
theorem dJ2_getChar_3b067_21 : decode cJ2_getChar_3b067 21 = .ok (.dup, 1) := by decide +kernel
theorem dJ2_getChar_3b067_22 : decode cJ2_getChar_3b067 22 = .ok (.ldc 54, 2) := by decide +kernel
theorem dJ2_getChar_3b067_24 : decode cJ2_getChar_3b067 24 = .ok (.invokespecial 56, 3) := by decide +kernel
theorem dJ2_getChar_3b067_27 : decode cJ2_getChar_3b067 27 = .ok (.athrow, 1) := by decide +kernel
theorem dJ2_getChar_3b067_28 : decode cJ2_getChar_3b067 28 = .ok (.iload_n 1, 1) := by decide +kernel
theorem dJ2_getChar_3b067_29 : decode cJ2_getChar_3b067 29 = .ok (.iconst 1, 1) := by decide +kernel
theorem dJ2_getChar_3b067_30 : decode cJ2_getChar_3b067 30 = .ok (.ishl, 1) := by decide +kernel
theorem dJ2_getChar_3b067_31 : decode cJ2_getChar_3b067 31 = .ok (.istore_n 1, 1) := by decide +kernel
theorem dJ2_getChar_3b067_32 : decode cJ2_getChar_3b067 32 = .ok (.aload_n 0, 1) := by decide +kernel
theorem dJ2_getChar_3b067_33 : decode cJ2_getChar_3b067 33 = .ok (.iload_n 1, 1) := by decide +kernel
theorem dJ2_getChar_3b067_34 : decode cJ2_getChar_3b067 34 = .ok (.iinc 1 1, 3) := by decide +kernel
theorem dJ2_getChar_3b067_37 : decode cJ2_getChar_3b067 37 = .ok (.baload, 1) := by decide +kernel
theorem dJ2_getChar_3b067_38 : decode cJ2_getChar_3b067 38 = .ok (.sipush 255, 3) := by decide +kernel
theorem dJ2_getChar_3b067_41 : decode cJ2_getChar_3b067 41 = .ok (.iand, 1) := by decide +kernel
theorem dJ2_getChar_3b067_42 : decode cJ2_getChar_3b067 42 = .ok (.getstatic 59, 3) := by decide +kernel
theorem dJ2_getChar_3b067_45 : decode cJ2_getChar_3b067 45 = .ok (.ishl, 1) := by decide +kernel
theorem dJ2_getChar_3b067_46 : decode cJ2_getChar_3b067 46 = .ok (.aload_n 0, 1) := by decide +kernel
theorem dJ2_getChar_3b067_47 : decode cJ2_getChar_3b067 47 = .ok (.iload_n 1, 1) := by decide +kernel
theorem dJ2_getChar_3b067_48 : decode cJ2_getChar_3b067 48 = .ok (.baload, 1) := by decide +kernel
theorem dJ2_getChar_3b067_49 : decode cJ2_getChar_3b067 49 = .ok (.sipush 255, 3) := by decide +kernel
theorem dJ2_getChar_3b067_52 : decode cJ2_getChar_3b067 52 = .ok (.iand, 1) := by decide +kernel
theorem dJ2_getChar_3b067_53 : decode cJ2_getChar_3b067 53 = .ok (.getstatic 63, 3) := by decide +kernel
theorem dJ2_getChar_3b067_56 : decode cJ2_getChar_3b067 56 = .ok (.ishl, 1) := by decide +kernel
theorem dJ2_getChar_3b067_57 : decode cJ2_getChar_3b067 57 = .ok (.ior, 1) := by decide +kernel
theorem dJ2_getChar_3b067_58 : decode cJ2_getChar_3b067 58 = .ok (.i2c, 1) := by decide +kernel
theorem dJ2_getChar_3b067_59 : decode cJ2_getChar_3b067 59 = .ok (.ireturn, 1) := by decide +kernel
theorem dJ2_length_9d52b_0 : decode cJ2_length_9d52b 0 = .ok (.aload_n 0, 1) := by decide +kernel
theorem dJ2_length_9d52b_1 : decode cJ2_length_9d52b 1 = .ok (.arraylength, 1) := by decide +kernel
theorem dJ2_length_9d52b_2 : decode cJ2_length_9d52b 2 = .ok (.iconst 1, 1) := by decide +kernel
theorem dJ2_length_9d52b_3 : decode cJ2_length_9d52b 3 = .ok (.ishr, 1) := by decide +kernel
theorem dJ2_length_9d52b_4 : decode cJ2_length_9d52b 4 = .ok (.ireturn, 1) := by decide +kernel
theorem dJ2_charAt_3b067_0 : decode cJ2_charAt_3b067 0 = .ok (.iload_n 1, 1) := by decide +kernel
theorem dJ2_charAt_3b067_1 : decode cJ2_charAt_3b067 1 = .ok (.aload_n 0, 1) := by decide +kernel
theorem dJ2_charAt_3b067_2 : decode cJ2_charAt_3b067 2 = .ok (.invokestatic 67, 3) := by decide +kernel
theorem dJ2_charAt_3b067_5 : decode cJ2_charAt_3b067 5 = .ok (.aload_n 0, 1) := by decide +kernel
theorem dJ2_charAt_3b067_6 : decode cJ2_charAt_3b067 6 = .ok (.iload_n 1, 1) := by decide +kernel
theorem dJ2_charAt_3b067_7 : decode cJ2_charAt_3b067 7 = .ok (.invokestatic 71, 3) := by decide +kernel
theorem dJ2_charAt_3b067_10 : decode cJ2_charAt_3b067 10 = .ok (.ireturn, 1) := by decide +kernel
theorem dJ2_checkIndex_2214a_0 : decode cJ2_checkIndex_2214a 0 = .ok (.iload_n 0, 1) := by decide +kernel
theorem dJ2_checkIndex_2214a_1 : decode cJ2_checkIndex_2214a 1 = .ok (.aload_n 1, 1) := by decide +kernel
theorem dJ2_checkIndex_2214a_2 : decode cJ2_checkIndex_2214a 2 = .ok (.invokestatic 48, 3) := by decide +kernel
theorem dJ2_checkIndex_2214a_5 : decode cJ2_checkIndex_2214a 5 = .ok (.invokestatic 414, 3) := by decide +kernel
theorem dJ2_checkIndex_2214a_8 : decode cJ2_checkIndex_2214a 8 = .ok (.return_, 1) := by decide +kernel
theorem dJ7_fill_53178_0 : decode cJ7_fill_53178 0 = .ok (.iconst 0, 1) := by decide +kernel
theorem dJ7_fill_53178_1 : decode cJ7_fill_53178 1 = .ok (.istore_n 2, 1) := by decide +kernel
theorem dJ7_fill_53178_2 : decode cJ7_fill_53178 2 = .ok (.aload_n 0, 1) := by decide +kernel
theorem dJ7_fill_53178_3 : decode cJ7_fill_53178 3 = .ok (.arraylength, 1) := by decide +kernel
theorem dJ7_fill_53178_4 : decode cJ7_fill_53178 4 = .ok (.istore_n 3, 1) := by decide +kernel
theorem dJ7_fill_53178_5 : decode cJ7_fill_53178 5 = .ok (.iload_n 2, 1) := by decide +kernel
theorem dJ7_fill_53178_6 : decode cJ7_fill_53178 6 = .ok (.iload_n 3, 1) := by decide +kernel
theorem dJ7_fill_53178_7 : decode cJ7_fill_53178 7 = .ok (.if_icmp .ge 13, 3) := by decide +kernel
theorem dJ7_fill_53178_10 : decode cJ7_fill_53178 10 = .ok (.aload_n 0, 1) := by decide +kernel
theorem dJ7_fill_53178_11 : decode cJ7_fill_53178 11 = .ok (.iload_n 2, 1) := by decide +kernel
theorem dJ7_fill_53178_12 : decode cJ7_fill_53178 12 = .ok (.iload_n 1, 1) := by decide +kernel
theorem dJ7_fill_53178_13 : decode cJ7_fill_53178 13 = .ok (.iastore, 1) := by decide +kernel
theorem dJ7_fill_53178_14 : decode cJ7_fill_53178 14 = .ok (.iinc 2 1, 3) := by decide +kernel
theorem dJ7_fill_53178_17 : decode cJ7_fill_53178 17 = .ok (.goto (-12), 3) := by decide +kernel
theorem dJ7_fill_53178_20 : decode cJ7_fill_53178 20 = .ok (.return_, 1) := by decide +kernel
theorem dJ3_checkIndex_8e157_0 : decode cJ3_checkIndex_8e157 0 = .ok (.iload_n 0, 1) := by decide +kernel
theorem dJ3_checkIndex_8e157_1 : decode cJ3_checkIndex_8e157 1 = .ok (.ifCond .lt 8, 3) := by decide +kernel
theorem dJ3_checkIndex_8e157_4 : decode cJ3_checkIndex_8e157 4 = .ok (.iload_n 0, 1) := by decide +kernel
theorem dJ3_checkIndex_8e157_5 : decode cJ3_checkIndex_8e157 5 = .ok (.iload_n 1, 1) := by decide +kernel
theorem dJ3_checkIndex_8e157_6 : decode cJ3_checkIndex_8e157 6 = .ok (.if_icmp .lt 10, 3) := by decide +kernel
theorem dJ3_checkIndex_8e157_9 : decode cJ3_checkIndex_8e157 9 = .ok (.aload_n 2, 1) := by decide +kernel
theorem dJ3_checkIndex_8e157_10 : decode cJ3_checkIndex_8e157 10 = .ok (.iload_n 0, 1) := by decide +kernel
theorem dJ3_checkIndex_8e157_11 : decode cJ3_checkIndex_8e157 11 = .ok (.iload_n 1, 1) := by decide +kernel
theorem dJ3_checkIndex_8e157_12 : decode cJ3_checkIndex_8e157 12 = .ok (.invokestatic 95, 3) := by decide +kernel
theorem dJ3_checkIndex_8e157_15 : decode cJ3_checkIndex_8e157 15 = .ok (.athrow, 1) := by decide +kernel
theorem dJ3_checkIndex_8e157_16 : decode cJ3_checkIndex_8e157 16 = .ok (.iload_n 0, 1) := by decide +kernel
theorem dJ3_checkIndex_8e157_17 : decode cJ3_checkIndex_8e157 17 = .ok (.ireturn, 1) := by decide +kernel
end
section
theorem dX6_init_0 : decode cX6_init 0 = .ok (.aload_n 0, 1) := by decide +kernel
theorem dX6_init_1 : decode cX6_init 1 = .ok (.invokespecial 3, 3) := by decide +kernel
theorem dX6_init_4 : decode cX6_init 4 = .ok (.aload_n 0, 1) := by decide +kernel
theorem dX6_init_5 : decode cX6_init 5 = .ok (.iconst 3, 1) := by decide +kernel
theorem dX6_init_6 : decode cX6_init 6 = .ok (.newarray .int, 2) := by decide +kernel
theorem dX6_init_8 : decode cX6_init 8 = .ok (.putfield 9, 3) := by decide +kernel
theorem dX6_init_11 : decode cX6_init 11 = .ok (.aload_n 0, 1) := by decide +kernel
theorem dX6_init_12 : decode cX6_init 12 = .ok (.iconst (-1), 1) := by decide +kernel
theorem dX6_init_13 : decode cX6_init 13 = .ok (.putfield 13, 3) := by decide +kernel
theorem dX6_init_16 : decode cX6_init 16 = .ok (.aload_n 0, 1) := by decide +kernel
theorem dX6_init_17 : decode cX6_init 17 = .ok (.sipush 500, 3) := by decide +kernel
theorem dX6_init_20 : decode cX6_init 20 = .ok (.newarray .int, 2) := by decide +kernel
theorem dX6_init_22 : decode cX6_init 22 = .ok (.putfield 17, 3) := by decide +kernel
theorem dX6_init_25 : decode cX6_init 25 = .ok (.aload_n 0, 1) := by decide +kernel
theorem dX6_init_26 : decode cX6_init 26 = .ok (.sipush 157, 3) := by decide +kernel
theorem dX6_init_29 : decode cX6_init 29 = .ok (.newarray .int, 2) := by decide +kernel
theorem dX6_init_31 : decode cX6_init 31 = .ok (.putfield 20, 3) := by decide +kernel
theorem dX6_init_34 : decode cX6_init 34 = .ok (.aload_n 0, 1) := by decide +kernel
theorem dX6_init_35 : decode cX6_init 35 = .ok (.sipush 157, 3) := by decide +kernel
theorem dX6_init_38 : decode cX6_init 38 = .ok (.newarray .int, 2) := by decide +kernel
theorem dX6_init_40 : decode cX6_init 40 = .ok (.putfield 23, 3) := by decide +kernel
theorem dX6_init_43 : decode cX6_init 43 = .ok (.aload_n 0, 1) := by decide +kernel
theorem dX6_init_44 : decode cX6_init 44 = .ok (.bipush 8, 2) := by decide +kernel
theorem dX6_init_46 : decode cX6_init 46 = .ok (.sipush 157, 3) := by decide +kernel
theorem dX6_init_49 : decode cX6_init 49 = .ok (.multianewarray 26 2, 4) := by decide +kernel
theorem dX6_init_53 : decode cX6_init 53 = .ok (.putfield 28, 3) := by decide +kernel
theorem dX6_init_56 : decode cX6_init 56 = .ok (.aload_n 0, 1) := by decide +kernel
theorem dX6_init_57 : decode cX6_init 57 = .ok (.sipush 500, 3) := by decide +kernel
theorem dX6_init_60 : decode cX6_init 60 = .ok (.newarray .int, 2) := by decide +kernel
theorem dX6_init_62 : decode cX6_init 62 = .ok (.putfield 31, 3) := by decide +kernel
theorem dX6_init_65 : decode cX6_init 65 = .ok (.aload_n 0, 1) := by decide +kernel
theorem dX6_init_66 : decode cX6_init 66 = .ok (.sipush 4096, 3) := by decide +kernel
theorem dX6_init_69 : decode cX6_init 69 = .ok (.newarray .int, 2) := by decide +kernel
theorem dX6_init_71 : decode cX6_init 71 = .ok (.putfield 34, 3) := by decide +kernel
theorem dX6_init_74 : decode cX6_init 74 = .ok (.aload_n 0, 1) := by decide +kernel
theorem dX6_init_75 : decode cX6_init 75 = .ok (.sipush 4096, 3) := by decide +kernel
theorem dX6_init_78 : decode cX6_init 78 = .ok (.newarray .int, 2) := by decide +kernel
theorem dX6_init_80 : decode cX6_init 80 = .ok (.putfield 37, 3) := by decide +kernel
theorem dX6_init_83 : decode cX6_init 83 = .ok (.aload_n 0, 1) := by decide +kernel
theorem dX6_init_84 : decode cX6_init 84 = .ok (.sipush 4096, 3) := by decide +kernel
theorem dX6_init_87 : decode cX6_init 87 = .ok (.newarray .int, 2) := by decide +kernel
theorem dX6_init_89 : decode cX6_init 89 = .ok (.putfield 40, 3) := by decide +kernel
theorem dX6_init_92 : decode cX6_init 92 = .ok (.aload_n 0, 1) := by decide +kernel
theorem dX6_init_93 : decode cX6_init 93 = .ok (.sipush 4096, 3) := by decide +kernel
theorem dX6_init_96 : decode cX6_init 96 = .ok (.newarray .long, 2) := by decide +kernel
theorem dX6_init_98 : decode cX6_init 98 = .ok (.putfield 43, 3) := by decide +kernel
theorem dX6_init_101 : decode cX6_init 101 = .ok (.aload_n 0, 1) := by decide +kernel
theorem dX6_init_102 : decode cX6_init 102 = .ok (.bipush 12, 2) := by decide +kernel
theorem dX6_init_104 : decode cX6_init 104 = .ok (.newarray .int, 2) := by decide +kernel
theorem dX6_init_106 : decode cX6_init 106 = .ok (.putfield 47, 3) := by decide +kernel
theorem dX6_init_109 : decode cX6_init 109 = .ok (.aload_n 0, 1) := by decide +kernel
theorem dX6_init_110 : decode cX6_init 110 = .ok (.ldc 50, 2) := by decide +kernel
theorem dX6_init_112 : decode cX6_init 112 = .ok (.newarray .boolean, 2) := by decide +kernel
theorem dX6_init_114 : decode cX6_init 114 = .ok (.putfield 51, 3) := by decide +kernel
theorem dX6_init_117 : decode cX6_init 117 = .ok (.aload_n 0, 1) := by decide +kernel
theorem dX6_init_118 : decode cX6_init 118 = .ok (.bipush 13, 2) := by decide +kernel
theorem dX6_init_120 : decode cX6_init 120 = .ok (.newarray .int, 2) := by decide +kernel
theorem dX6_init_122 : decode cX6_init 122 = .ok (.putfield 55, 3) := by decide +kernel
theorem dX6_init_125 : decode cX6_init 125 = .ok (.aload_n 0, 1) := by decide +kernel
theorem dX6_init_126 : decode cX6_init 126 = .ok (.bipush 12, 2) := by decide +kernel
theorem dX6_init_128 : decode cX6_init 128 = .ok (.newarray .int, 2) := by decide +kernel
theorem dX6_init_130 : decode cX6_init 130 = .ok (.putfield 58, 3) := by decide +kernel
theorem dX6_init_133 : decode cX6_init 133 = .ok (.aload_n 0, 1) := by decide +kernel
theorem dX6_init_134 : decode cX6_init 134 = .ok (.getfield 20, 3) := by decide +kernel
theorem dX6_init_137 : decode cX6_init 137 = .ok (.invokestatic 61, 3) := by decide +kernel
theorem dX6_init_140 : decode cX6_init 140 = .ok (.aload_n 0, 1) := by decide +kernel
theorem dX6_init_141 : decode cX6_init 141 = .ok (.getfield 20, 3) := by decide +kernel
theorem dX6_init_144 : decode cX6_init 144 = .ok (.iconst 0, 1) := by decide +kernel
theorem dX6_init_145 : decode cX6_init 145 = .ok (.iconst 2, 1) := by decide +kernel
theorem dX6_init_146 : decode cX6_init 146 = .ok (.iastore, 1) := by decide +kernel
theorem dX6_init_147 : decode cX6_init 147 = .ok (.aload_n 0, 1) := by decide +kernel
theorem dX6_init_148 : decode cX6_init 148 = .ok (.getfield 20, 3) := by decide +kernel
theorem dX6_init_151 : decode cX6_init 151 = .ok (.iconst 0, 1) := by decide +kernel
theorem dX6_init_152 : decode cX6_init 152 = .ok (.iconst 1, 1) := by decide +kernel
theorem dX6_init_153 : decode cX6_init 153 = .ok (.iconst 1, 1) := by decide +kernel
theorem dX6_init_154 : decode cX6_init 154 = .ok (.invokestatic 65, 3) := by decide +kernel
theorem dX6_init_157 : decode cX6_init 157 = .ok (.aload_n 0, 1) := by decide +kernel
theorem dX6_init_158 : decode cX6_init 158 = .ok (.invokevirtual 69, 3) := by decide +kernel
theorem dX6_init_161 : decode cX6_init 161 = .ok (.return_, 1) := by decide +kernel
theorem dX6_begins_0 : decode cX6_begins 0 = .ok (.iconst 0, 1) := by decide +kernel
theorem dX6_begins_1 : decode cX6_begins 1 = .ok (.istore_n 1, 1) := by decide +kernel
theorem dX6_begins_2 : decode cX6_begins 2 = .ok (.iload_n 1, 1) := by decide +kernel
theorem dX6_begins_3 : decode cX6_begins 3 = .ok (.sipush 157, 3) := by decide +kernel
theorem dX6_begins_6 : decode cX6_begins 6 = .ok (.if_icmp .ge 13, 3) := by decide +kernel
theorem dX6_begins_9 : decode cX6_begins 9 = .ok (.aload_n 0, 1) := by decide +kernel
theorem dX6_begins_10 : decode cX6_begins 10 = .ok (.iload_n 1, 1) := by decide +kernel
theorem dX6_begins_11 : decode cX6_begins 11 = .ok (.iconst (-1), 1) := by decide +kernel
theorem dX6_begins_12 : decode cX6_begins 12 = .ok (.iastore, 1) := by decide +kernel
theorem dX6_begins_13 : decode cX6_begins 13 = .ok (.iinc 1 1, 3) := by decide +kernel
theorem dX6_begins_16 : decode cX6_begins 16 = .ok (.goto (-14), 3) := by decide +kernel
theorem dX6_begins_19 : decode cX6_begins 19 = .ok (.return_, 1) := by decide +kernel
theorem dX6_thrown_0 : decode cX6_thrown 0 = .ok (.aload_n 0, 1) := by decide +kernel
theorem dX6_thrown_1 : decode cX6_thrown 1 = .ok (.getfield 72, 3) := by decide +kernel
theorem dX6_thrown_4 : decode cX6_thrown 4 = .ok (.ireturn, 1) := by decide +kernel
theorem dX6_bad_0 : decode cX6_bad 0 = .ok (.iload_n 1, 1) := by decide +kernel
theorem dX6_bad_1 : decode cX6_bad 1 = .ok (.ifCond .eq 25, 3) := by decide +kernel
theorem dX6_bad_4 : decode cX6_bad 4 = .ok (.aload_n 0, 1) := by decide +kernel
theorem dX6_bad_5 : decode cX6_bad 5 = .ok (.getfield 72, 3) := by decide +kernel
theorem dX6_bad_8 : decode cX6_bad 8 = .ok (.ifCond .ne 18, 3) := by decide +kernel
theorem dX6_bad_11 : decode cX6_bad 11 = .ok (.aload_n 0, 1) := by decide +kernel
theorem dX6_bad_12 : decode cX6_bad 12 = .ok (.iload_n 2, 1) := by decide +kernel
theorem dX6_bad_13 : decode cX6_bad 13 = .ok (.putfield 72, 3) := by decide +kernel
theorem dX6_bad_16 : decode cX6_bad 16 = .ok (.aload_n 0, 1) := by decide +kernel
theorem dX6_bad_17 : decode cX6_bad 17 = .ok (.getfield 9, 3) := by decide +kernel
theorem dX6_bad_20 : decode cX6_bad 20 = .ok (.iload_n 3, 1) := by decide +kernel
theorem dX6_bad_21 : decode cX6_bad 21 = .ok (.dup2, 1) := by decide +kernel
theorem dX6_bad_22 : decode cX6_bad 22 = .ok (.iaload, 1) := by decide +kernel
theorem dX6_bad_23 : decode cX6_bad 23 = .ok (.iconst 1, 1) := by decide +kernel
theorem dX6_bad_24 : decode cX6_bad 24 = .ok (.iadd, 1) := by decide +kernel
theorem dX6_bad_25 : decode cX6_bad 25 = .ok (.iastore, 1) := by decide +kernel
theorem dX6_bad_26 : decode cX6_bad 26 = .ok (.aload_n 0, 1) := by decide +kernel
theorem dX6_bad_27 : decode cX6_bad 27 = .ok (.getfield 72, 3) := by decide +kernel
theorem dX6_bad_30 : decode cX6_bad 30 = .ok (.ifCond .eq 7, 3) := by decide +kernel
theorem dX6_bad_33 : decode cX6_bad 33 = .ok (.iconst 1, 1) := by decide +kernel
theorem dX6_bad_34 : decode cX6_bad 34 = .ok (.goto 4, 3) := by decide +kernel
theorem dX6_bad_37 : decode cX6_bad 37 = .ok (.iconst 0, 1) := by decide +kernel
theorem dX6_bad_38 : decode cX6_bad 38 = .ok (.ireturn, 1) := by decide +kernel
theorem dX6_in_0 : decode cX6_in 0 = .ok (.iload_n 0, 1) := by decide +kernel
theorem dX6_in_1 : decode cX6_in 1 = .ok (.iload_n 1, 1) := by decide +kernel
theorem dX6_in_2 : decode cX6_in 2 = .ok (.if_icmp .lt 12, 3) := by decide +kernel
theorem dX6_in_5 : decode cX6_in 5 = .ok (.iload_n 0, 1) := by decide +kernel
theorem dX6_in_6 : decode cX6_in 6 = .ok (.iload_n 2, 1) := by decide +kernel
theorem dX6_in_7 : decode cX6_in 7 = .ok (.if_icmp .gt 7, 3) := by decide +kernel
theorem dX6_in_10 : decode cX6_in 10 = .ok (.iconst 1, 1) := by decide +kernel
theorem dX6_in_11 : decode cX6_in 11 = .ok (.goto 4, 3) := by decide +kernel
theorem dX6_in_14 : decode cX6_in 14 = .ok (.iconst 0, 1) := by decide +kernel
theorem dX6_in_15 : decode cX6_in 15 = .ok (.ireturn, 1) := by decide +kernel
theorem dX6_less_0 : decode cX6_less 0 = .ok (.iload_n 0, 1) := by decide +kernel
theorem dX6_less_1 : decode cX6_less 1 = .ok (.iload_n 1, 1) := by decide +kernel
theorem dX6_less_2 : decode cX6_less 2 = .ok (.if_icmp .ge 7, 3) := by decide +kernel
theorem dX6_less_5 : decode cX6_less 5 = .ok (.iload_n 0, 1) := by decide +kernel
theorem dX6_less_6 : decode cX6_less 6 = .ok (.goto 4, 3) := by decide +kernel
theorem dX6_less_9 : decode cX6_less 9 = .ok (.iload_n 1, 1) := by decide +kernel
theorem dX6_less_10 : decode cX6_less 10 = .ok (.ireturn, 1) := by decide +kernel
theorem dX6_feed_0 : decode cX6_feed 0 = .ok (.aload_n 0, 1) := by decide +kernel
theorem dX6_feed_1 : decode cX6_feed 1 = .ok (.iconst 0, 1) := by decide +kernel
theorem dX6_feed_2 : decode cX6_feed 2 = .ok (.putfield 72, 3) := by decide +kernel
theorem dX6_feed_5 : decode cX6_feed 5 = .ok (.aload_n 0, 1) := by decide +kernel
theorem dX6_feed_6 : decode cX6_feed 6 = .ok (.getfield 75, 3) := by decide +kernel
theorem dX6_feed_9 : decode cX6_feed 9 = .ok (.bipush 20, 2) := by decide +kernel
theorem dX6_feed_11 : decode cX6_feed 11 = .ok (.iadd, 1) := by decide +kernel
theorem dX6_feed_12 : decode cX6_feed 12 = .ok (.sipush 500, 3) := by decide +kernel
theorem dX6_feed_15 : decode cX6_feed 15 = .ok (.if_icmp .le 5, 3) := by decide +kernel
theorem dX6_feed_18 : decode cX6_feed 18 = .ok (.iconst (-1), 1) := by decide +kernel
theorem dX6_feed_19 : decode cX6_feed 19 = .ok (.ireturn, 1) := by decide +kernel
theorem dX6_feed_20 : decode cX6_feed 20 = .ok (.iconst 0, 1) := by decide +kernel
theorem dX6_feed_21 : decode cX6_feed 21 = .ok (.istore 6, 2) := by decide +kernel
theorem dX6_feed_23 : decode cX6_feed 23 = .ok (.iload 6, 2) := by decide +kernel
theorem dX6_feed_25 : decode cX6_feed 25 = .ok (.bipush 20, 2) := by decide +kernel
theorem dX6_feed_27 : decode cX6_feed 27 = .ok (.if_icmp .ge 93, 3) := by decide +kernel
theorem dX6_feed_30 : decode cX6_feed 30 = .ok (.iload 6, 2) := by decide +kernel
theorem dX6_feed_32 : decode cX6_feed 32 = .ok (.iconst 4, 1) := by decide +kernel
theorem dX6_feed_33 : decode cX6_feed 33 = .ok (.if_icmp .ge 7, 3) := by decide +kernel
theorem dX6_feed_36 : decode cX6_feed 36 = .ok (.iload_n 1, 1) := by decide +kernel
theorem dX6_feed_37 : decode cX6_feed 37 = .ok (.goto 39, 3) := by decide +kernel
theorem dX6_feed_40 : decode cX6_feed 40 = .ok (.iload 6, 2) := by decide +kernel
theorem dX6_feed_42 : decode cX6_feed 42 = .ok (.bipush 8, 2) := by decide +kernel
theorem dX6_feed_44 : decode cX6_feed 44 = .ok (.if_icmp .ge 7, 3) := by decide +kernel
theorem dX6_feed_47 : decode cX6_feed 47 = .ok (.iload_n 2, 1) := by decide +kernel
theorem dX6_feed_48 : decode cX6_feed 48 = .ok (.goto 28, 3) := by decide +kernel
theorem dX6_feed_51 : decode cX6_feed 51 = .ok (.iload 6, 2) := by decide +kernel
theorem dX6_feed_53 : decode cX6_feed 53 = .ok (.bipush 12, 2) := by decide +kernel
theorem dX6_feed_55 : decode cX6_feed 55 = .ok (.if_icmp .ge 7, 3) := by decide +kernel
theorem dX6_feed_58 : decode cX6_feed 58 = .ok (.iload_n 3, 1) := by decide +kernel
theorem dX6_feed_59 : decode cX6_feed 59 = .ok (.goto 17, 3) := by decide +kernel
theorem dX6_feed_62 : decode cX6_feed 62 = .ok (.iload 6, 2) := by decide +kernel
theorem dX6_feed_64 : decode cX6_feed 64 = .ok (.bipush 16, 2) := by decide +kernel
theorem dX6_feed_66 : decode cX6_feed 66 = .ok (.if_icmp .ge 8, 3) := by decide +kernel
theorem dX6_feed_69 : decode cX6_feed 69 = .ok (.iload 4, 2) := by decide +kernel
theorem dX6_feed_71 : decode cX6_feed 71 = .ok (.goto 5, 3) := by decide +kernel
theorem dX6_feed_74 : decode cX6_feed 74 = .ok (.iload 5, 2) := by decide +kernel
theorem dX6_feed_76 : decode cX6_feed 76 = .ok (.istore 7, 2) := by decide +kernel
theorem dX6_feed_78 : decode cX6_feed 78 = .ok (.aload_n 0, 1) := by decide +kernel
theorem dX6_feed_79 : decode cX6_feed 79 = .ok (.getfield 17, 3) := by decide +kernel
theorem dX6_feed_82 : decode cX6_feed 82 = .ok (.aload_n 0, 1) := by decide +kernel
theorem dX6_feed_83 : decode cX6_feed 83 = .ok (.getfield 75, 3) := by decide +kernel
theorem dX6_feed_86 : decode cX6_feed 86 = .ok (.iload 7, 2) := by decide +kernel
theorem dX6_feed_88 : decode cX6_feed 88 = .ok (.bipush 24, 2) := by decide +kernel
theorem dX6_feed_90 : decode cX6_feed 90 = .ok (.bipush 8, 2) := by decide +kernel
theorem dX6_feed_92 : decode cX6_feed 92 = .ok (.iload 6, 2) := by decide +kernel
theorem dX6_feed_94 : decode cX6_feed 94 = .ok (.iconst 4, 1) := by decide +kernel
theorem dX6_feed_95 : decode cX6_feed 95 = .ok (.irem, 1) := by decide +kernel
theorem dX6_feed_96 : decode cX6_feed 96 = .ok (.imul, 1) := by decide +kernel
theorem dX6_feed_97 : decode cX6_feed 97 = .ok (.isub, 1) := by decide +kernel
theorem dX6_feed_98 : decode cX6_feed 98 = .ok (.ishr, 1) := by decide +kernel
theorem dX6_feed_99 : decode cX6_feed 99 = .ok (.sipush 255, 3) := by decide +kernel
theorem dX6_feed_102 : decode cX6_feed 102 = .ok (.iand, 1) := by decide +kernel
theorem dX6_feed_103 : decode cX6_feed 103 = .ok (.iastore, 1) := by decide +kernel
theorem dX6_feed_104 : decode cX6_feed 104 = .ok (.aload_n 0, 1) := by decide +kernel
theorem dX6_feed_105 : decode cX6_feed 105 = .ok (.dup, 1) := by decide +kernel
theorem dX6_feed_106 : decode cX6_feed 106 = .ok (.getfield 75, 3) := by decide +kernel
theorem dX6_feed_109 : decode cX6_feed 109 = .ok (.iconst 1, 1) := by decide +kernel
theorem dX6_feed_110 : decode cX6_feed 110 = .ok (.iadd, 1) := by decide +kernel
theorem dX6_feed_111 : decode cX6_feed 111 = .ok (.putfield 75, 3) := by decide +kernel
theorem dX6_feed_114 : decode cX6_feed 114 = .ok (.iinc 6 1, 3) := by decide +kernel
theorem dX6_feed_117 : decode cX6_feed 117 = .ok (.goto (-94), 3) := by decide +kernel
theorem dX6_feed_120 : decode cX6_feed 120 = .ok (.aload_n 0, 1) := by decide +kernel
theorem dX6_feed_121 : decode cX6_feed 121 = .ok (.getfield 75, 3) := by decide +kernel
theorem dX6_feed_124 : decode cX6_feed 124 = .ok (.ireturn, 1) := by decide +kernel
theorem dX6_copies_0 : decode cX6_copies 0 = .ok (.iconst 0, 1) := by decide +kernel
theorem dX6_copies_1 : decode cX6_copies 1 = .ok (.istore_n 2, 1) := by decide +kernel
theorem dX6_copies_2 : decode cX6_copies 2 = .ok (.iload_n 2, 1) := by decide +kernel
theorem dX6_copies_3 : decode cX6_copies 3 = .ok (.sipush 157, 3) := by decide +kernel
theorem dX6_copies_6 : decode cX6_copies 6 = .ok (.if_icmp .ge 15, 3) := by decide +kernel
theorem dX6_copies_9 : decode cX6_copies 9 = .ok (.aload_n 1, 1) := by decide +kernel
theorem dX6_copies_10 : decode cX6_copies 10 = .ok (.iload_n 2, 1) := by decide +kernel
theorem dX6_copies_11 : decode cX6_copies 11 = .ok (.aload_n 0, 1) := by decide +kernel
theorem dX6_copies_12 : decode cX6_copies 12 = .ok (.iload_n 2, 1) := by decide +kernel
theorem dX6_copies_13 : decode cX6_copies 13 = .ok (.iaload, 1) := by decide +kernel
theorem dX6_copies_14 : decode cX6_copies 14 = .ok (.iastore, 1) := by decide +kernel
theorem dX6_copies_15 : decode cX6_copies 15 = .ok (.iinc 2 1, 3) := by decide +kernel
theorem dX6_copies_18 : decode cX6_copies 18 = .ok (.goto (-16), 3) := by decide +kernel
theorem dX6_copies_21 : decode cX6_copies 21 = .ok (.return_, 1) := by decide +kernel
theorem dX6_joins_0 : decode cX6_joins 0 = .ok (.aload_n 0, 1) := by decide +kernel
theorem dX6_joins_1 : decode cX6_joins 1 = .ok (.bipush 13, 2) := by decide +kernel
theorem dX6_joins_3 : decode cX6_joins 3 = .ok (.bipush 12, 2) := by decide +kernel
theorem dX6_joins_5 : decode cX6_joins 5 = .ok (.iload_n 1, 1) := by decide +kernel
theorem dX6_joins_6 : decode cX6_joins 6 = .ok (.imul, 1) := by decide +kernel
theorem dX6_joins_7 : decode cX6_joins 7 = .ok (.iadd, 1) := by decide +kernel
theorem dX6_joins_8 : decode cX6_joins 8 = .ok (.iload_n 2, 1) := by decide +kernel
theorem dX6_joins_9 : decode cX6_joins 9 = .ok (.iadd, 1) := by decide +kernel
theorem dX6_joins_10 : decode cX6_joins 10 = .ok (.iload_n 3, 1) := by decide +kernel
theorem dX6_joins_11 : decode cX6_joins 11 = .ok (.iastore, 1) := by decide +kernel
theorem dX6_joins_12 : decode cX6_joins 12 = .ok (.aload_n 0, 1) := by decide +kernel
theorem dX6_joins_13 : decode cX6_joins 13 = .ok (.bipush 13, 2) := by decide +kernel
theorem dX6_joins_15 : decode cX6_joins 15 = .ok (.bipush 12, 2) := by decide +kernel
theorem dX6_joins_17 : decode cX6_joins 17 = .ok (.iload_n 2, 1) := by decide +kernel
theorem dX6_joins_18 : decode cX6_joins 18 = .ok (.imul, 1) := by decide +kernel
theorem dX6_joins_19 : decode cX6_joins 19 = .ok (.iadd, 1) := by decide +kernel
theorem dX6_joins_20 : decode cX6_joins 20 = .ok (.iload_n 1, 1) := by decide +kernel
theorem dX6_joins_21 : decode cX6_joins 21 = .ok (.iadd, 1) := by decide +kernel
theorem dX6_joins_22 : decode cX6_joins 22 = .ok (.iload_n 3, 1) := by decide +kernel
theorem dX6_joins_23 : decode cX6_joins 23 = .ok (.iastore, 1) := by decide +kernel
theorem dX6_joins_24 : decode cX6_joins 24 = .ok (.return_, 1) := by decide +kernel
theorem dX6_byteAt_0 : decode cX6_byteAt 0 = .ok (.iload_n 1, 1) := by decide +kernel
theorem dX6_byteAt_1 : decode cX6_byteAt 1 = .ok (.aload_n 0, 1) := by decide +kernel
theorem dX6_byteAt_2 : decode cX6_byteAt 2 = .ok (.getfield 78, 3) := by decide +kernel
theorem dX6_byteAt_5 : decode cX6_byteAt 5 = .ok (.if_icmp .lt 7, 3) := by decide +kernel
theorem dX6_byteAt_8 : decode cX6_byteAt 8 = .ok (.iconst (-1), 1) := by decide +kernel
theorem dX6_byteAt_9 : decode cX6_byteAt 9 = .ok (.goto 9, 3) := by decide +kernel
theorem dX6_byteAt_12 : decode cX6_byteAt 12 = .ok (.aload_n 0, 1) := by decide +kernel
theorem dX6_byteAt_13 : decode cX6_byteAt 13 = .ok (.getfield 17, 3) := by decide +kernel
theorem dX6_byteAt_16 : decode cX6_byteAt 16 = .ok (.iload_n 1, 1) := by decide +kernel
theorem dX6_byteAt_17 : decode cX6_byteAt 17 = .ok (.iaload, 1) := by decide +kernel
theorem dX6_byteAt_18 : decode cX6_byteAt 18 = .ok (.ireturn, 1) := by decide +kernel
theorem dX6_here_0 : decode cX6_here 0 = .ok (.aload_n 0, 1) := by decide +kernel
theorem dX6_here_1 : decode cX6_here 1 = .ok (.aload_n 0, 1) := by decide +kernel
theorem dX6_here_2 : decode cX6_here 2 = .ok (.getfield 81, 3) := by decide +kernel
theorem dX6_here_5 : decode cX6_here 5 = .ok (.invokevirtual 84, 3) := by decide +kernel
theorem dX6_here_8 : decode cX6_here 8 = .ok (.bipush 32, 2) := by decide +kernel
theorem dX6_here_10 : decode cX6_here 10 = .ok (.if_icmp .ne 16, 3) := by decide +kernel
theorem dX6_here_13 : decode cX6_here 13 = .ok (.aload_n 0, 1) := by decide +kernel
theorem dX6_here_14 : decode cX6_here 14 = .ok (.dup, 1) := by decide +kernel
theorem dX6_here_15 : decode cX6_here 15 = .ok (.getfield 81, 3) := by decide +kernel
theorem dX6_here_18 : decode cX6_here 18 = .ok (.iconst 1, 1) := by decide +kernel
theorem dX6_here_19 : decode cX6_here 19 = .ok (.iadd, 1) := by decide +kernel
theorem dX6_here_20 : decode cX6_here 20 = .ok (.putfield 81, 3) := by decide +kernel
theorem dX6_here_23 : decode cX6_here 23 = .ok (.goto (-23), 3) := by decide +kernel
theorem dX6_here_26 : decode cX6_here 26 = .ok (.aload_n 0, 1) := by decide +kernel
theorem dX6_here_27 : decode cX6_here 27 = .ok (.aload_n 0, 1) := by decide +kernel
theorem dX6_here_28 : decode cX6_here 28 = .ok (.getfield 81, 3) := by decide +kernel
theorem dX6_here_31 : decode cX6_here 31 = .ok (.invokevirtual 84, 3) := by decide +kernel
theorem dX6_here_34 : decode cX6_here 34 = .ok (.ireturn, 1) := by decide +kernel
theorem dX6_fine_0 : decode cX6_fine 0 = .ok (.aload_n 0, 1) := by decide +kernel
theorem dX6_fine_1 : decode cX6_fine 1 = .ok (.getfield 88, 3) := by decide +kernel
theorem dX6_fine_4 : decode cX6_fine 4 = .ok (.ifCond .ne 7, 3) := by decide +kernel
theorem dX6_fine_7 : decode cX6_fine 7 = .ok (.iconst 1, 1) := by decide +kernel
theorem dX6_fine_8 : decode cX6_fine 8 = .ok (.goto 4, 3) := by decide +kernel
theorem dX6_fine_11 : decode cX6_fine 11 = .ok (.iconst 0, 1) := by decide +kernel
theorem dX6_fine_12 : decode cX6_fine 12 = .ok (.ireturn, 1) := by decide +kernel
theorem dX6_wrong_0 : decode cX6_wrong 0 = .ok (.aload_n 0, 1) := by decide +kernel
theorem dX6_wrong_1 : decode cX6_wrong 1 = .ok (.getfield 88, 3) := by decide +kernel
theorem dX6_wrong_4 : decode cX6_wrong 4 = .ok (.ifCond .ne 13, 3) := by decide +kernel
theorem dX6_wrong_7 : decode cX6_wrong 7 = .ok (.aload_n 0, 1) := by decide +kernel
theorem dX6_wrong_8 : decode cX6_wrong 8 = .ok (.iload_n 1, 1) := by decide +kernel
theorem dX6_wrong_9 : decode cX6_wrong 9 = .ok (.putfield 88, 3) := by decide +kernel
theorem dX6_wrong_12 : decode cX6_wrong 12 = .ok (.aload_n 0, 1) := by decide +kernel
theorem dX6_wrong_13 : decode cX6_wrong 13 = .ok (.iload_n 2, 1) := by decide +kernel
theorem dX6_wrong_14 : decode cX6_wrong 14 = .ok (.putfield 91, 3) := by decide +kernel
theorem dX6_wrong_17 : decode cX6_wrong 17 = .ok (.return_, 1) := by decide +kernel
theorem dX6_isDigit_0 : decode cX6_isDigit 0 = .ok (.iload_n 0, 1) := by decide +kernel
theorem dX6_isDigit_1 : decode cX6_isDigit 1 = .ok (.bipush 48, 2) := by decide +kernel
theorem dX6_isDigit_3 : decode cX6_isDigit 3 = .ok (.if_icmp .lt 13, 3) := by decide +kernel
theorem dX6_isDigit_6 : decode cX6_isDigit 6 = .ok (.iload_n 0, 1) := by decide +kernel
theorem dX6_isDigit_7 : decode cX6_isDigit 7 = .ok (.bipush 57, 2) := by decide +kernel
theorem dX6_isDigit_9 : decode cX6_isDigit 9 = .ok (.if_icmp .gt 7, 3) := by decide +kernel
theorem dX6_isDigit_12 : decode cX6_isDigit 12 = .ok (.iconst 1, 1) := by decide +kernel
theorem dX6_isDigit_13 : decode cX6_isDigit 13 = .ok (.goto 4, 3) := by decide +kernel
theorem dX6_isDigit_16 : decode cX6_isDigit 16 = .ok (.iconst 0, 1) := by decide +kernel
theorem dX6_isDigit_17 : decode cX6_isDigit 17 = .ok (.ireturn, 1) := by decide +kernel
theorem dX6_takes_0 : decode cX6_takes 0 = .ok (.aload_n 0, 1) := by decide +kernel
theorem dX6_takes_1 : decode cX6_takes 1 = .ok (.invokevirtual 94, 3) := by decide +kernel
theorem dX6_takes_4 : decode cX6_takes 4 = .ok (.ifCond .ne 5, 3) := by decide +kernel
theorem dX6_takes_7 : decode cX6_takes 7 = .ok (.iconst 0, 1) := by decide +kernel
theorem dX6_takes_8 : decode cX6_takes 8 = .ok (.ireturn, 1) := by decide +kernel
theorem dX6_takes_9 : decode cX6_takes 9 = .ok (.aload_n 0, 1) := by decide +kernel
theorem dX6_takes_10 : decode cX6_takes 10 = .ok (.invokevirtual 98, 3) := by decide +kernel
theorem dX6_takes_13 : decode cX6_takes 13 = .ok (.pop, 1) := by decide +kernel
theorem dX6_takes_14 : decode cX6_takes 14 = .ok (.iconst 0, 1) := by decide +kernel
theorem dX6_takes_15 : decode cX6_takes 15 = .ok (.istore_n 2, 1) := by decide +kernel
theorem dX6_takes_16 : decode cX6_takes 16 = .ok (.iload_n 2, 1) := by decide +kernel
theorem dX6_takes_17 : decode cX6_takes 17 = .ok (.aload_n 1, 1) := by decide +kernel
theorem dX6_takes_18 : decode cX6_takes 18 = .ok (.invokevirtual 102, 3) := by decide +kernel
theorem dX6_takes_21 : decode cX6_takes 21 = .ok (.if_icmp .ge 27, 3) := by decide +kernel
theorem dX6_takes_24 : decode cX6_takes 24 = .ok (.aload_n 0, 1) := by decide +kernel
theorem dX6_takes_25 : decode cX6_takes 25 = .ok (.aload_n 0, 1) := by decide +kernel
theorem dX6_takes_26 : decode cX6_takes 26 = .ok (.getfield 81, 3) := by decide +kernel
theorem dX6_takes_29 : decode cX6_takes 29 = .ok (.iload_n 2, 1) := by decide +kernel
theorem dX6_takes_30 : decode cX6_takes 30 = .ok (.iadd, 1) := by decide +kernel
theorem dX6_takes_31 : decode cX6_takes 31 = .ok (.invokevirtual 84, 3) := by decide +kernel
theorem dX6_takes_34 : decode cX6_takes 34 = .ok (.aload_n 1, 1) := by decide +kernel
theorem dX6_takes_35 : decode cX6_takes 35 = .ok (.iload_n 2, 1) := by decide +kernel
theorem dX6_takes_36 : decode cX6_takes 36 = .ok (.invokevirtual 107, 3) := by decide +kernel
theorem dX6_takes_39 : decode cX6_takes 39 = .ok (.if_icmp .ne 9, 3) := by decide +kernel
theorem dX6_takes_42 : decode cX6_takes 42 = .ok (.iinc 2 1, 3) := by decide +kernel
theorem dX6_takes_45 : decode cX6_takes 45 = .ok (.goto (-29), 3) := by decide +kernel
theorem dX6_takes_48 : decode cX6_takes 48 = .ok (.iload_n 2, 1) := by decide +kernel
theorem dX6_takes_49 : decode cX6_takes 49 = .ok (.aload_n 1, 1) := by decide +kernel
theorem dX6_takes_50 : decode cX6_takes 50 = .ok (.invokevirtual 102, 3) := by decide +kernel
theorem dX6_takes_53 : decode cX6_takes 53 = .ok (.if_icmp .lt 23, 3) := by decide +kernel
theorem dX6_takes_56 : decode cX6_takes 56 = .ok (.aload_n 0, 1) := by decide +kernel
theorem dX6_takes_57 : decode cX6_takes 57 = .ok (.aload_n 0, 1) := by decide +kernel
theorem dX6_takes_58 : decode cX6_takes 58 = .ok (.getfield 81, 3) := by decide +kernel
theorem dX6_takes_61 : decode cX6_takes 61 = .ok (.iload_n 2, 1) := by decide +kernel
theorem dX6_takes_62 : decode cX6_takes 62 = .ok (.iadd, 1) := by decide +kernel
theorem dX6_takes_63 : decode cX6_takes 63 = .ok (.invokevirtual 84, 3) := by decide +kernel
theorem dX6_takes_66 : decode cX6_takes 66 = .ok (.bipush 97, 2) := by decide +kernel
theorem dX6_takes_68 : decode cX6_takes 68 = .ok (.bipush 122, 2) := by decide +kernel
theorem dX6_takes_70 : decode cX6_takes 70 = .ok (.invokestatic 111, 3) := by decide +kernel
theorem dX6_takes_73 : decode cX6_takes 73 = .ok (.ifCond .eq 5, 3) := by decide +kernel
theorem dX6_takes_76 : decode cX6_takes 76 = .ok (.iconst 0, 1) := by decide +kernel
theorem dX6_takes_77 : decode cX6_takes 77 = .ok (.ireturn, 1) := by decide +kernel
theorem dX6_takes_78 : decode cX6_takes 78 = .ok (.aload_n 0, 1) := by decide +kernel
theorem dX6_takes_79 : decode cX6_takes 79 = .ok (.dup, 1) := by decide +kernel
theorem dX6_takes_80 : decode cX6_takes 80 = .ok (.getfield 81, 3) := by decide +kernel
theorem dX6_takes_83 : decode cX6_takes 83 = .ok (.iload_n 2, 1) := by decide +kernel
theorem dX6_takes_84 : decode cX6_takes 84 = .ok (.iadd, 1) := by decide +kernel
theorem dX6_takes_85 : decode cX6_takes 85 = .ok (.putfield 81, 3) := by decide +kernel
theorem dX6_takes_88 : decode cX6_takes 88 = .ok (.iconst 1, 1) := by decide +kernel
theorem dX6_takes_89 : decode cX6_takes 89 = .ok (.ireturn, 1) := by decide +kernel
theorem dX6_must_0 : decode cX6_must 0 = .ok (.aload_n 0, 1) := by decide +kernel
theorem dX6_must_1 : decode cX6_must 1 = .ok (.invokevirtual 94, 3) := by decide +kernel
theorem dX6_must_4 : decode cX6_must 4 = .ok (.ifCond .ne 4, 3) := by decide +kernel
theorem dX6_must_7 : decode cX6_must 7 = .ok (.return_, 1) := by decide +kernel
theorem dX6_must_8 : decode cX6_must 8 = .ok (.aload_n 0, 1) := by decide +kernel
theorem dX6_must_9 : decode cX6_must 9 = .ok (.invokevirtual 98, 3) := by decide +kernel
theorem dX6_must_12 : decode cX6_must 12 = .ok (.iload_n 1, 1) := by decide +kernel
theorem dX6_must_13 : decode cX6_must 13 = .ok (.if_icmp .ne 16, 3) := by decide +kernel
theorem dX6_must_16 : decode cX6_must 16 = .ok (.aload_n 0, 1) := by decide +kernel
theorem dX6_must_17 : decode cX6_must 17 = .ok (.dup, 1) := by decide +kernel
theorem dX6_must_18 : decode cX6_must 18 = .ok (.getfield 81, 3) := by decide +kernel
theorem dX6_must_21 : decode cX6_must 21 = .ok (.iconst 1, 1) := by decide +kernel
theorem dX6_must_22 : decode cX6_must 22 = .ok (.iadd, 1) := by decide +kernel
theorem dX6_must_23 : decode cX6_must 23 = .ok (.putfield 81, 3) := by decide +kernel
theorem dX6_must_26 : decode cX6_must 26 = .ok (.goto 12, 3) := by decide +kernel
theorem dX6_must_29 : decode cX6_must 29 = .ok (.aload_n 0, 1) := by decide +kernel
theorem dX6_must_30 : decode cX6_must 30 = .ok (.iconst 1, 1) := by decide +kernel
theorem dX6_must_31 : decode cX6_must 31 = .ok (.aload_n 0, 1) := by decide +kernel
theorem dX6_must_32 : decode cX6_must 32 = .ok (.getfield 81, 3) := by decide +kernel
theorem dX6_must_35 : decode cX6_must 35 = .ok (.invokevirtual 115, 3) := by decide +kernel
theorem dX6_must_38 : decode cX6_must 38 = .ok (.return_, 1) := by decide +kernel
theorem dX6_number_0 : decode cX6_number 0 = .ok (.aload_n 0, 1) := by decide +kernel
theorem dX6_number_1 : decode cX6_number 1 = .ok (.invokevirtual 94, 3) := by decide +kernel
theorem dX6_number_4 : decode cX6_number 4 = .ok (.ifCond .ne 5, 3) := by decide +kernel
theorem dX6_number_7 : decode cX6_number 7 = .ok (.iconst 0, 1) := by decide +kernel
theorem dX6_number_8 : decode cX6_number 8 = .ok (.ireturn, 1) := by decide +kernel
theorem dX6_number_9 : decode cX6_number 9 = .ok (.aload_n 0, 1) := by decide +kernel
theorem dX6_number_10 : decode cX6_number 10 = .ok (.invokevirtual 98, 3) := by decide +kernel
theorem dX6_number_13 : decode cX6_number 13 = .ok (.invokestatic 119, 3) := by decide +kernel
theorem dX6_number_16 : decode cX6_number 16 = .ok (.ifCond .ne 14, 3) := by decide +kernel
theorem dX6_number_19 : decode cX6_number 19 = .ok (.aload_n 0, 1) := by decide +kernel
theorem dX6_number_20 : decode cX6_number 20 = .ok (.iconst 1, 1) := by decide +kernel
theorem dX6_number_21 : decode cX6_number 21 = .ok (.aload_n 0, 1) := by decide +kernel
theorem dX6_number_22 : decode cX6_number 22 = .ok (.getfield 81, 3) := by decide +kernel
theorem dX6_number_25 : decode cX6_number 25 = .ok (.invokevirtual 115, 3) := by decide +kernel
theorem dX6_number_28 : decode cX6_number 28 = .ok (.iconst 0, 1) := by decide +kernel
theorem dX6_number_29 : decode cX6_number 29 = .ok (.ireturn, 1) := by decide +kernel
theorem dX6_number_30 : decode cX6_number 30 = .ok (.aload_n 0, 1) := by decide +kernel
theorem dX6_number_31 : decode cX6_number 31 = .ok (.getfield 81, 3) := by decide +kernel
theorem dX6_number_34 : decode cX6_number 34 = .ok (.istore 4, 2) := by decide +kernel
theorem dX6_number_36 : decode cX6_number 36 = .ok (.iconst 0, 1) := by decide +kernel
theorem dX6_number_37 : decode cX6_number 37 = .ok (.istore 5, 2) := by decide +kernel
theorem dX6_number_39 : decode cX6_number 39 = .ok (.aload_n 0, 1) := by decide +kernel
theorem dX6_number_40 : decode cX6_number 40 = .ok (.aload_n 0, 1) := by decide +kernel
theorem dX6_number_41 : decode cX6_number 41 = .ok (.getfield 81, 3) := by decide +kernel
theorem dX6_number_44 : decode cX6_number 44 = .ok (.invokevirtual 84, 3) := by decide +kernel
theorem dX6_number_47 : decode cX6_number 47 = .ok (.invokestatic 119, 3) := by decide +kernel
theorem dX6_number_50 : decode cX6_number 50 = .ok (.ifCond .eq 40, 3) := by decide +kernel
theorem dX6_number_53 : decode cX6_number 53 = .ok (.ldc 123, 2) := by decide +kernel
theorem dX6_number_55 : decode cX6_number 55 = .ok (.bipush 10, 2) := by decide +kernel
theorem dX6_number_57 : decode cX6_number 57 = .ok (.iload 5, 2) := by decide +kernel
theorem dX6_number_59 : decode cX6_number 59 = .ok (.imul, 1) := by decide +kernel
theorem dX6_number_60 : decode cX6_number 60 = .ok (.aload_n 0, 1) := by decide +kernel
theorem dX6_number_61 : decode cX6_number 61 = .ok (.aload_n 0, 1) := by decide +kernel
theorem dX6_number_62 : decode cX6_number 62 = .ok (.getfield 81, 3) := by decide +kernel
theorem dX6_number_65 : decode cX6_number 65 = .ok (.invokevirtual 84, 3) := by decide +kernel
theorem dX6_number_68 : decode cX6_number 68 = .ok (.iadd, 1) := by decide +kernel
theorem dX6_number_69 : decode cX6_number 69 = .ok (.bipush 48, 2) := by decide +kernel
theorem dX6_number_71 : decode cX6_number 71 = .ok (.isub, 1) := by decide +kernel
theorem dX6_number_72 : decode cX6_number 72 = .ok (.invokestatic 124, 3) := by decide +kernel
theorem dX6_number_75 : decode cX6_number 75 = .ok (.istore 5, 2) := by decide +kernel
theorem dX6_number_77 : decode cX6_number 77 = .ok (.aload_n 0, 1) := by decide +kernel
theorem dX6_number_78 : decode cX6_number 78 = .ok (.dup, 1) := by decide +kernel
theorem dX6_number_79 : decode cX6_number 79 = .ok (.getfield 81, 3) := by decide +kernel
theorem dX6_number_82 : decode cX6_number 82 = .ok (.iconst 1, 1) := by decide +kernel
theorem dX6_number_83 : decode cX6_number 83 = .ok (.iadd, 1) := by decide +kernel
theorem dX6_number_84 : decode cX6_number 84 = .ok (.putfield 81, 3) := by decide +kernel
theorem dX6_number_87 : decode cX6_number 87 = .ok (.goto (-48), 3) := by decide +kernel
theorem dX6_number_90 : decode cX6_number 90 = .ok (.iload 5, 2) := by decide +kernel
theorem dX6_number_92 : decode cX6_number 92 = .ok (.iload_n 1, 1) := by decide +kernel
theorem dX6_number_93 : decode cX6_number 93 = .ok (.iload_n 2, 1) := by decide +kernel
theorem dX6_number_94 : decode cX6_number 94 = .ok (.invokestatic 111, 3) := by decide +kernel
theorem dX6_number_97 : decode cX6_number 97 = .ok (.ifCond .eq 20, 3) := by decide +kernel
theorem dX6_number_100 : decode cX6_number 100 = .ok (.iload 5, 2) := by decide +kernel
theorem dX6_number_102 : decode cX6_number 102 = .ok (.bipush 12, 2) := by decide +kernel
theorem dX6_number_104 : decode cX6_number 104 = .ok (.if_icmp .ge 20, 3) := by decide +kernel
theorem dX6_number_107 : decode cX6_number 107 = .ok (.iload_n 3, 1) := by decide +kernel
theorem dX6_number_108 : decode cX6_number 108 = .ok (.iload 5, 2) := by decide +kernel
theorem dX6_number_110 : decode cX6_number 110 = .ok (.ishr, 1) := by decide +kernel
theorem dX6_number_111 : decode cX6_number 111 = .ok (.iconst 1, 1) := by decide +kernel
theorem dX6_number_112 : decode cX6_number 112 = .ok (.iand, 1) := by decide +kernel
theorem dX6_number_113 : decode cX6_number 113 = .ok (.iconst 1, 1) := by decide +kernel
theorem dX6_number_114 : decode cX6_number 114 = .ok (.if_icmp .ne 10, 3) := by decide +kernel
theorem dX6_number_117 : decode cX6_number 117 = .ok (.aload_n 0, 1) := by decide +kernel
theorem dX6_number_118 : decode cX6_number 118 = .ok (.iconst 2, 1) := by decide +kernel
theorem dX6_number_119 : decode cX6_number 119 = .ok (.iload 4, 2) := by decide +kernel
theorem dX6_number_121 : decode cX6_number 121 = .ok (.invokevirtual 115, 3) := by decide +kernel
theorem dX6_number_124 : decode cX6_number 124 = .ok (.iload 5, 2) := by decide +kernel
theorem dX6_number_126 : decode cX6_number 126 = .ok (.ireturn, 1) := by decide +kernel
theorem dX6_nodeTold_0 : decode cX6_nodeTold 0 = .ok (.aload_n 0, 1) := by decide +kernel
theorem dX6_nodeTold_1 : decode cX6_nodeTold 1 = .ok (.iconst 0, 1) := by decide +kernel
theorem dX6_nodeTold_2 : decode cX6_nodeTold 2 = .ok (.aload_n 0, 1) := by decide +kernel
theorem dX6_nodeTold_3 : decode cX6_nodeTold 3 = .ok (.getfield 23, 3) := by decide +kernel
theorem dX6_nodeTold_6 : decode cX6_nodeTold 6 = .ok (.iconst 0, 1) := by decide +kernel
theorem dX6_nodeTold_7 : decode cX6_nodeTold 7 = .ok (.iaload, 1) := by decide +kernel
theorem dX6_nodeTold_8 : decode cX6_nodeTold 8 = .ok (.iconst 1, 1) := by decide +kernel
theorem dX6_nodeTold_9 : decode cX6_nodeTold 9 = .ok (.isub, 1) := by decide +kernel
theorem dX6_nodeTold_10 : decode cX6_nodeTold 10 = .ok (.iload_n 1, 1) := by decide +kernel
theorem dX6_nodeTold_11 : decode cX6_nodeTold 11 = .ok (.invokevirtual 128, 3) := by decide +kernel
theorem dX6_nodeTold_14 : decode cX6_nodeTold 14 = .ok (.ireturn, 1) := by decide +kernel
theorem dX6_comes_0 : decode cX6_comes 0 = .ok (.aload_n 0, 1) := by decide +kernel
theorem dX6_comes_1 : decode cX6_comes 1 = .ok (.invokevirtual 94, 3) := by decide +kernel
theorem dX6_comes_4 : decode cX6_comes 4 = .ok (.ifCond .eq 31, 3) := by decide +kernel
theorem dX6_comes_7 : decode cX6_comes 7 = .ok (.aload_n 0, 1) := by decide +kernel
theorem dX6_comes_8 : decode cX6_comes 8 = .ok (.getfield 23, 3) := by decide +kernel
theorem dX6_comes_11 : decode cX6_comes 11 = .ok (.bipush 13, 2) := by decide +kernel
theorem dX6_comes_13 : decode cX6_comes 13 = .ok (.bipush 12, 2) := by decide +kernel
theorem dX6_comes_15 : decode cX6_comes 15 = .ok (.iload_n 1, 1) := by decide +kernel
theorem dX6_comes_16 : decode cX6_comes 16 = .ok (.imul, 1) := by decide +kernel
theorem dX6_comes_17 : decode cX6_comes 17 = .ok (.iadd, 1) := by decide +kernel
theorem dX6_comes_18 : decode cX6_comes 18 = .ok (.iload_n 2, 1) := by decide +kernel
theorem dX6_comes_19 : decode cX6_comes 19 = .ok (.iadd, 1) := by decide +kernel
theorem dX6_comes_20 : decode cX6_comes 20 = .ok (.iaload, 1) := by decide +kernel
theorem dX6_comes_21 : decode cX6_comes 21 = .ok (.iconst (-1), 1) := by decide +kernel
theorem dX6_comes_22 : decode cX6_comes 22 = .ok (.if_icmp .ne 13, 3) := by decide +kernel
theorem dX6_comes_25 : decode cX6_comes 25 = .ok (.aload_n 0, 1) := by decide +kernel
theorem dX6_comes_26 : decode cX6_comes 26 = .ok (.getfield 23, 3) := by decide +kernel
theorem dX6_comes_29 : decode cX6_comes 29 = .ok (.iload_n 1, 1) := by decide +kernel
theorem dX6_comes_30 : decode cX6_comes 30 = .ok (.iload_n 2, 1) := by decide +kernel
theorem dX6_comes_31 : decode cX6_comes 31 = .ok (.iconst 1, 1) := by decide +kernel
theorem dX6_comes_32 : decode cX6_comes 32 = .ok (.invokestatic 65, 3) := by decide +kernel
theorem dX6_comes_35 : decode cX6_comes 35 = .ok (.return_, 1) := by decide +kernel
theorem dX6_readsRing_0 : decode cX6_readsRing 0 = .ok (.aload_n 0, 1) := by decide +kernel
theorem dX6_readsRing_1 : decode cX6_readsRing 1 = .ok (.iconst 0, 1) := by decide +kernel
theorem dX6_readsRing_2 : decode cX6_readsRing 2 = .ok (.invokevirtual 131, 3) := by decide +kernel
theorem dX6_readsRing_5 : decode cX6_readsRing 5 = .ok (.istore_n 1, 1) := by decide +kernel
theorem dX6_readsRing_6 : decode cX6_readsRing 6 = .ok (.iload_n 1, 1) := by decide +kernel
theorem dX6_readsRing_7 : decode cX6_readsRing 7 = .ok (.istore_n 2, 1) := by decide +kernel
theorem dX6_readsRing_8 : decode cX6_readsRing 8 = .ok (.aload_n 0, 1) := by decide +kernel
theorem dX6_readsRing_9 : decode cX6_readsRing 9 = .ok (.invokevirtual 94, 3) := by decide +kernel
theorem dX6_readsRing_12 : decode cX6_readsRing 12 = .ok (.ifCond .eq 9, 3) := by decide +kernel
theorem dX6_readsRing_15 : decode cX6_readsRing 15 = .ok (.iconst 1, 1) := by decide +kernel
theorem dX6_readsRing_16 : decode cX6_readsRing 16 = .ok (.iload_n 1, 1) := by decide +kernel
theorem dX6_readsRing_17 : decode cX6_readsRing 17 = .ok (.ishl, 1) := by decide +kernel
theorem dX6_readsRing_18 : decode cX6_readsRing 18 = .ok (.goto 4, 3) := by decide +kernel
theorem dX6_readsRing_21 : decode cX6_readsRing 21 = .ok (.iconst 0, 1) := by decide +kernel
theorem dX6_readsRing_22 : decode cX6_readsRing 22 = .ok (.istore_n 3, 1) := by decide +kernel
theorem dX6_readsRing_23 : decode cX6_readsRing 23 = .ok (.iconst 1, 1) := by decide +kernel
theorem dX6_readsRing_24 : decode cX6_readsRing 24 = .ok (.istore 4, 2) := by decide +kernel
theorem dX6_readsRing_26 : decode cX6_readsRing 26 = .ok (.aload_n 0, 1) := by decide +kernel
theorem dX6_readsRing_27 : decode cX6_readsRing 27 = .ok (.invokevirtual 94, 3) := by decide +kernel
theorem dX6_readsRing_30 : decode cX6_readsRing 30 = .ok (.ifCond .eq 73, 3) := by decide +kernel
theorem dX6_readsRing_33 : decode cX6_readsRing 33 = .ok (.iload 4, 2) := by decide +kernel
theorem dX6_readsRing_35 : decode cX6_readsRing 35 = .ok (.iconst 2, 1) := by decide +kernel
theorem dX6_readsRing_36 : decode cX6_readsRing 36 = .ok (.if_icmp .lt 13, 3) := by decide +kernel
theorem dX6_readsRing_39 : decode cX6_readsRing 39 = .ok (.aload_n 0, 1) := by decide +kernel
theorem dX6_readsRing_40 : decode cX6_readsRing 40 = .ok (.invokevirtual 98, 3) := by decide +kernel
theorem dX6_readsRing_43 : decode cX6_readsRing 43 = .ok (.invokestatic 119, 3) := by decide +kernel
theorem dX6_readsRing_46 : decode cX6_readsRing 46 = .ok (.ifCond .eq 57, 3) := by decide +kernel
theorem dX6_readsRing_49 : decode cX6_readsRing 49 = .ok (.iload 4, 2) := by decide +kernel
theorem dX6_readsRing_51 : decode cX6_readsRing 51 = .ok (.bipush 12, 2) := by decide +kernel
theorem dX6_readsRing_53 : decode cX6_readsRing 53 = .ok (.if_icmp .ne 12, 3) := by decide +kernel
theorem dX6_readsRing_56 : decode cX6_readsRing 56 = .ok (.aload_n 0, 1) := by decide +kernel
theorem dX6_readsRing_57 : decode cX6_readsRing 57 = .ok (.iconst 1, 1) := by decide +kernel
theorem dX6_readsRing_58 : decode cX6_readsRing 58 = .ok (.aload_n 0, 1) := by decide +kernel
theorem dX6_readsRing_59 : decode cX6_readsRing 59 = .ok (.getfield 81, 3) := by decide +kernel
theorem dX6_readsRing_62 : decode cX6_readsRing 62 = .ok (.invokevirtual 115, 3) := by decide +kernel
theorem dX6_readsRing_65 : decode cX6_readsRing 65 = .ok (.aload_n 0, 1) := by decide +kernel
theorem dX6_readsRing_66 : decode cX6_readsRing 66 = .ok (.iload_n 3, 1) := by decide +kernel
theorem dX6_readsRing_67 : decode cX6_readsRing 67 = .ok (.invokevirtual 131, 3) := by decide +kernel
theorem dX6_readsRing_70 : decode cX6_readsRing 70 = .ok (.istore 5, 2) := by decide +kernel
theorem dX6_readsRing_72 : decode cX6_readsRing 72 = .ok (.aload_n 0, 1) := by decide +kernel
theorem dX6_readsRing_73 : decode cX6_readsRing 73 = .ok (.invokevirtual 94, 3) := by decide +kernel
theorem dX6_readsRing_76 : decode cX6_readsRing 76 = .ok (.ifCond .ne 4, 3) := by decide +kernel
theorem dX6_readsRing_79 : decode cX6_readsRing 79 = .ok (.return_, 1) := by decide +kernel
theorem dX6_readsRing_80 : decode cX6_readsRing 80 = .ok (.aload_n 0, 1) := by decide +kernel
theorem dX6_readsRing_81 : decode cX6_readsRing 81 = .ok (.iload_n 2, 1) := by decide +kernel
theorem dX6_readsRing_82 : decode cX6_readsRing 82 = .ok (.iload 5, 2) := by decide +kernel
theorem dX6_readsRing_84 : decode cX6_readsRing 84 = .ok (.invokevirtual 134, 3) := by decide +kernel
theorem dX6_readsRing_87 : decode cX6_readsRing 87 = .ok (.iload_n 3, 1) := by decide +kernel
theorem dX6_readsRing_88 : decode cX6_readsRing 88 = .ok (.iconst 1, 1) := by decide +kernel
theorem dX6_readsRing_89 : decode cX6_readsRing 89 = .ok (.iload 5, 2) := by decide +kernel
theorem dX6_readsRing_91 : decode cX6_readsRing 91 = .ok (.ishl, 1) := by decide +kernel
theorem dX6_readsRing_92 : decode cX6_readsRing 92 = .ok (.ior, 1) := by decide +kernel
theorem dX6_readsRing_93 : decode cX6_readsRing 93 = .ok (.istore_n 3, 1) := by decide +kernel
theorem dX6_readsRing_94 : decode cX6_readsRing 94 = .ok (.iload 5, 2) := by decide +kernel
theorem dX6_readsRing_96 : decode cX6_readsRing 96 = .ok (.istore_n 2, 1) := by decide +kernel
theorem dX6_readsRing_97 : decode cX6_readsRing 97 = .ok (.iinc 4 1, 3) := by decide +kernel
theorem dX6_readsRing_100 : decode cX6_readsRing 100 = .ok (.goto (-74), 3) := by decide +kernel
theorem dX6_readsRing_103 : decode cX6_readsRing 103 = .ok (.aload_n 0, 1) := by decide +kernel
theorem dX6_readsRing_104 : decode cX6_readsRing 104 = .ok (.invokevirtual 94, 3) := by decide +kernel
theorem dX6_readsRing_107 : decode cX6_readsRing 107 = .ok (.ifCond .eq 9, 3) := by decide +kernel
theorem dX6_readsRing_110 : decode cX6_readsRing 110 = .ok (.aload_n 0, 1) := by decide +kernel
theorem dX6_readsRing_111 : decode cX6_readsRing 111 = .ok (.iload_n 2, 1) := by decide +kernel
theorem dX6_readsRing_112 : decode cX6_readsRing 112 = .ok (.iload_n 1, 1) := by decide +kernel
theorem dX6_readsRing_113 : decode cX6_readsRing 113 = .ok (.invokevirtual 134, 3) := by decide +kernel
theorem dX6_readsRing_116 : decode cX6_readsRing 116 = .ok (.return_, 1) := by decide +kernel
theorem dX6_readsLine_0 : decode cX6_readsLine 0 = .ok (.aload_n 0, 1) := by decide +kernel
theorem dX6_readsLine_1 : decode cX6_readsLine 1 = .ok (.invokevirtual 98, 3) := by decide +kernel
theorem dX6_readsLine_4 : decode cX6_readsLine 4 = .ok (.pop, 1) := by decide +kernel
theorem dX6_readsLine_5 : decode cX6_readsLine 5 = .ok (.aload_n 0, 1) := by decide +kernel
theorem dX6_readsLine_6 : decode cX6_readsLine 6 = .ok (.getfield 81, 3) := by decide +kernel
theorem dX6_readsLine_9 : decode cX6_readsLine 9 = .ok (.istore_n 1, 1) := by decide +kernel
theorem dX6_readsLine_10 : decode cX6_readsLine 10 = .ok (.aload_n 0, 1) := by decide +kernel
theorem dX6_readsLine_11 : decode cX6_readsLine 11 = .ok (.ldc 137, 2) := by decide +kernel
theorem dX6_readsLine_13 : decode cX6_readsLine 13 = .ok (.invokevirtual 139, 3) := by decide +kernel
theorem dX6_readsLine_16 : decode cX6_readsLine 16 = .ok (.ifCond .eq 80, 3) := by decide +kernel
theorem dX6_readsLine_19 : decode cX6_readsLine 19 = .ok (.aload_n 0, 1) := by decide +kernel
theorem dX6_readsLine_20 : decode cX6_readsLine 20 = .ok (.iconst 0, 1) := by decide +kernel
theorem dX6_readsLine_21 : decode cX6_readsLine 21 = .ok (.invokevirtual 131, 3) := by decide +kernel
theorem dX6_readsLine_24 : decode cX6_readsLine 24 = .ok (.istore_n 2, 1) := by decide +kernel
theorem dX6_readsLine_25 : decode cX6_readsLine 25 = .ok (.aload_n 0, 1) := by decide +kernel
theorem dX6_readsLine_26 : decode cX6_readsLine 26 = .ok (.aload_n 0, 1) := by decide +kernel
theorem dX6_readsLine_27 : decode cX6_readsLine 27 = .ok (.invokevirtual 94, 3) := by decide +kernel
theorem dX6_readsLine_30 : decode cX6_readsLine 30 = .ok (.ifCond .eq 9, 3) := by decide +kernel
theorem dX6_readsLine_33 : decode cX6_readsLine 33 = .ok (.iconst 1, 1) := by decide +kernel
theorem dX6_readsLine_34 : decode cX6_readsLine 34 = .ok (.iload_n 2, 1) := by decide +kernel
theorem dX6_readsLine_35 : decode cX6_readsLine 35 = .ok (.ishl, 1) := by decide +kernel
theorem dX6_readsLine_36 : decode cX6_readsLine 36 = .ok (.goto 4, 3) := by decide +kernel
theorem dX6_readsLine_39 : decode cX6_readsLine 39 = .ok (.iconst 0, 1) := by decide +kernel
theorem dX6_readsLine_40 : decode cX6_readsLine 40 = .ok (.invokevirtual 131, 3) := by decide +kernel
theorem dX6_readsLine_43 : decode cX6_readsLine 43 = .ok (.istore_n 3, 1) := by decide +kernel
theorem dX6_readsLine_44 : decode cX6_readsLine 44 = .ok (.iconst 1, 1) := by decide +kernel
theorem dX6_readsLine_45 : decode cX6_readsLine 45 = .ok (.istore 4, 2) := by decide +kernel
theorem dX6_readsLine_47 : decode cX6_readsLine 47 = .ok (.aload_n 0, 1) := by decide +kernel
theorem dX6_readsLine_48 : decode cX6_readsLine 48 = .ok (.invokevirtual 94, 3) := by decide +kernel
theorem dX6_readsLine_51 : decode cX6_readsLine 51 = .ok (.ifCond .eq 24, 3) := by decide +kernel
theorem dX6_readsLine_54 : decode cX6_readsLine 54 = .ok (.aload_n 0, 1) := by decide +kernel
theorem dX6_readsLine_55 : decode cX6_readsLine 55 = .ok (.invokevirtual 98, 3) := by decide +kernel
theorem dX6_readsLine_58 : decode cX6_readsLine 58 = .ok (.invokestatic 119, 3) := by decide +kernel
theorem dX6_readsLine_61 : decode cX6_readsLine 61 = .ok (.ifCond .eq 14, 3) := by decide +kernel
theorem dX6_readsLine_64 : decode cX6_readsLine 64 = .ok (.aload_n 0, 1) := by decide +kernel
theorem dX6_readsLine_65 : decode cX6_readsLine 65 = .ok (.iconst 0, 1) := by decide +kernel
theorem dX6_readsLine_66 : decode cX6_readsLine 66 = .ok (.sipush 999, 3) := by decide +kernel
theorem dX6_readsLine_69 : decode cX6_readsLine 69 = .ok (.iconst 0, 1) := by decide +kernel
theorem dX6_readsLine_70 : decode cX6_readsLine 70 = .ok (.invokevirtual 128, 3) := by decide +kernel
theorem dX6_readsLine_73 : decode cX6_readsLine 73 = .ok (.istore 4, 2) := by decide +kernel
theorem dX6_readsLine_75 : decode cX6_readsLine 75 = .ok (.aload_n 0, 1) := by decide +kernel
theorem dX6_readsLine_76 : decode cX6_readsLine 76 = .ok (.invokevirtual 94, 3) := by decide +kernel
theorem dX6_readsLine_79 : decode cX6_readsLine 79 = .ok (.ifCond .eq 14, 3) := by decide +kernel
theorem dX6_readsLine_82 : decode cX6_readsLine 82 = .ok (.aload_n 0, 1) := by decide +kernel
theorem dX6_readsLine_83 : decode cX6_readsLine 83 = .ok (.getfield 23, 3) := by decide +kernel
theorem dX6_readsLine_86 : decode cX6_readsLine 86 = .ok (.iload_n 2, 1) := by decide +kernel
theorem dX6_readsLine_87 : decode cX6_readsLine 87 = .ok (.iload_n 3, 1) := by decide +kernel
theorem dX6_readsLine_88 : decode cX6_readsLine 88 = .ok (.iload 4, 2) := by decide +kernel
theorem dX6_readsLine_90 : decode cX6_readsLine 90 = .ok (.invokestatic 65, 3) := by decide +kernel
theorem dX6_readsLine_93 : decode cX6_readsLine 93 = .ok (.goto 150, 3) := by decide +kernel
theorem dX6_readsLine_96 : decode cX6_readsLine 96 = .ok (.aload_n 0, 1) := by decide +kernel
theorem dX6_readsLine_97 : decode cX6_readsLine 97 = .ok (.ldc 143, 2) := by decide +kernel
theorem dX6_readsLine_99 : decode cX6_readsLine 99 = .ok (.invokevirtual 139, 3) := by decide +kernel
theorem dX6_readsLine_102 : decode cX6_readsLine 102 = .ok (.ifCond .eq 10, 3) := by decide +kernel
theorem dX6_readsLine_105 : decode cX6_readsLine 105 = .ok (.aload_n 0, 1) := by decide +kernel
theorem dX6_readsLine_106 : decode cX6_readsLine 106 = .ok (.invokevirtual 145, 3) := by decide +kernel
theorem dX6_readsLine_109 : decode cX6_readsLine 109 = .ok (.goto 134, 3) := by decide +kernel
theorem dX6_readsLine_112 : decode cX6_readsLine 112 = .ok (.aload_n 0, 1) := by decide +kernel
theorem dX6_readsLine_113 : decode cX6_readsLine 113 = .ok (.ldc 148, 2) := by decide +kernel
theorem dX6_readsLine_115 : decode cX6_readsLine 115 = .ok (.invokevirtual 139, 3) := by decide +kernel
theorem dX6_readsLine_118 : decode cX6_readsLine 118 = .ok (.ifCond .eq 43, 3) := by decide +kernel
theorem dX6_readsLine_121 : decode cX6_readsLine 121 = .ok (.iconst 0, 1) := by decide +kernel
theorem dX6_readsLine_122 : decode cX6_readsLine 122 = .ok (.istore_n 2, 1) := by decide +kernel
theorem dX6_readsLine_123 : decode cX6_readsLine 123 = .ok (.iload_n 2, 1) := by decide +kernel
theorem dX6_readsLine_124 : decode cX6_readsLine 124 = .ok (.aload_n 0, 1) := by decide +kernel
theorem dX6_readsLine_125 : decode cX6_readsLine 125 = .ok (.getfield 23, 3) := by decide +kernel
theorem dX6_readsLine_128 : decode cX6_readsLine 128 = .ok (.iconst 0, 1) := by decide +kernel
theorem dX6_readsLine_129 : decode cX6_readsLine 129 = .ok (.iaload, 1) := by decide +kernel
theorem dX6_readsLine_130 : decode cX6_readsLine 130 = .ok (.if_icmp .ge 28, 3) := by decide +kernel
theorem dX6_readsLine_133 : decode cX6_readsLine 133 = .ok (.iconst 0, 1) := by decide +kernel
theorem dX6_readsLine_134 : decode cX6_readsLine 134 = .ok (.istore_n 3, 1) := by decide +kernel
theorem dX6_readsLine_135 : decode cX6_readsLine 135 = .ok (.iload_n 3, 1) := by decide +kernel
theorem dX6_readsLine_136 : decode cX6_readsLine 136 = .ok (.iload_n 2, 1) := by decide +kernel
theorem dX6_readsLine_137 : decode cX6_readsLine 137 = .ok (.if_icmp .ge 15, 3) := by decide +kernel
theorem dX6_readsLine_140 : decode cX6_readsLine 140 = .ok (.aload_n 0, 1) := by decide +kernel
theorem dX6_readsLine_141 : decode cX6_readsLine 141 = .ok (.iload_n 2, 1) := by decide +kernel
theorem dX6_readsLine_142 : decode cX6_readsLine 142 = .ok (.iload_n 3, 1) := by decide +kernel
theorem dX6_readsLine_143 : decode cX6_readsLine 143 = .ok (.invokevirtual 134, 3) := by decide +kernel
theorem dX6_readsLine_146 : decode cX6_readsLine 146 = .ok (.iinc 3 1, 3) := by decide +kernel
theorem dX6_readsLine_149 : decode cX6_readsLine 149 = .ok (.goto (-14), 3) := by decide +kernel
theorem dX6_readsLine_152 : decode cX6_readsLine 152 = .ok (.iinc 2 1, 3) := by decide +kernel
theorem dX6_readsLine_155 : decode cX6_readsLine 155 = .ok (.goto (-32), 3) := by decide +kernel
theorem dX6_readsLine_158 : decode cX6_readsLine 158 = .ok (.goto 85, 3) := by decide +kernel
theorem dX6_readsLine_161 : decode cX6_readsLine 161 = .ok (.aload_n 0, 1) := by decide +kernel
theorem dX6_readsLine_162 : decode cX6_readsLine 162 = .ok (.ldc 150, 2) := by decide +kernel
theorem dX6_readsLine_164 : decode cX6_readsLine 164 = .ok (.invokevirtual 139, 3) := by decide +kernel
theorem dX6_readsLine_167 : decode cX6_readsLine 167 = .ok (.ifCond .eq 70, 3) := by decide +kernel
theorem dX6_readsLine_170 : decode cX6_readsLine 170 = .ok (.aload_n 0, 1) := by decide +kernel
theorem dX6_readsLine_171 : decode cX6_readsLine 171 = .ok (.iconst 0, 1) := by decide +kernel
theorem dX6_readsLine_172 : decode cX6_readsLine 172 = .ok (.invokevirtual 131, 3) := by decide +kernel
theorem dX6_readsLine_175 : decode cX6_readsLine 175 = .ok (.istore_n 2, 1) := by decide +kernel
theorem dX6_readsLine_176 : decode cX6_readsLine 176 = .ok (.aload_n 0, 1) := by decide +kernel
theorem dX6_readsLine_177 : decode cX6_readsLine 177 = .ok (.aload_n 0, 1) := by decide +kernel
theorem dX6_readsLine_178 : decode cX6_readsLine 178 = .ok (.invokevirtual 94, 3) := by decide +kernel
theorem dX6_readsLine_181 : decode cX6_readsLine 181 = .ok (.ifCond .eq 9, 3) := by decide +kernel
theorem dX6_readsLine_184 : decode cX6_readsLine 184 = .ok (.iconst 1, 1) := by decide +kernel
theorem dX6_readsLine_185 : decode cX6_readsLine 185 = .ok (.iload_n 2, 1) := by decide +kernel
theorem dX6_readsLine_186 : decode cX6_readsLine 186 = .ok (.ishl, 1) := by decide +kernel
theorem dX6_readsLine_187 : decode cX6_readsLine 187 = .ok (.goto 4, 3) := by decide +kernel
theorem dX6_readsLine_190 : decode cX6_readsLine 190 = .ok (.iconst 0, 1) := by decide +kernel
theorem dX6_readsLine_191 : decode cX6_readsLine 191 = .ok (.invokevirtual 131, 3) := by decide +kernel
theorem dX6_readsLine_194 : decode cX6_readsLine 194 = .ok (.istore_n 3, 1) := by decide +kernel
theorem dX6_readsLine_195 : decode cX6_readsLine 195 = .ok (.aload_n 0, 1) := by decide +kernel
theorem dX6_readsLine_196 : decode cX6_readsLine 196 = .ok (.invokevirtual 94, 3) := by decide +kernel
theorem dX6_readsLine_199 : decode cX6_readsLine 199 = .ok (.ifCond .eq 35, 3) := by decide +kernel
theorem dX6_readsLine_202 : decode cX6_readsLine 202 = .ok (.aload_n 0, 1) := by decide +kernel
theorem dX6_readsLine_203 : decode cX6_readsLine 203 = .ok (.getfield 31, 3) := by decide +kernel
theorem dX6_readsLine_206 : decode cX6_readsLine 206 = .ok (.aload_n 0, 1) := by decide +kernel
theorem dX6_readsLine_207 : decode cX6_readsLine 207 = .ok (.getfield 152, 3) := by decide +kernel
theorem dX6_readsLine_210 : decode cX6_readsLine 210 = .ok (.iload_n 2, 1) := by decide +kernel
theorem dX6_readsLine_211 : decode cX6_readsLine 211 = .ok (.iastore, 1) := by decide +kernel
theorem dX6_readsLine_212 : decode cX6_readsLine 212 = .ok (.aload_n 0, 1) := by decide +kernel
theorem dX6_readsLine_213 : decode cX6_readsLine 213 = .ok (.getfield 31, 3) := by decide +kernel
theorem dX6_readsLine_216 : decode cX6_readsLine 216 = .ok (.aload_n 0, 1) := by decide +kernel
theorem dX6_readsLine_217 : decode cX6_readsLine 217 = .ok (.getfield 152, 3) := by decide +kernel
theorem dX6_readsLine_220 : decode cX6_readsLine 220 = .ok (.iconst 1, 1) := by decide +kernel
theorem dX6_readsLine_221 : decode cX6_readsLine 221 = .ok (.iadd, 1) := by decide +kernel
theorem dX6_readsLine_222 : decode cX6_readsLine 222 = .ok (.iload_n 3, 1) := by decide +kernel
theorem dX6_readsLine_223 : decode cX6_readsLine 223 = .ok (.iastore, 1) := by decide +kernel
theorem dX6_readsLine_224 : decode cX6_readsLine 224 = .ok (.aload_n 0, 1) := by decide +kernel
theorem dX6_readsLine_225 : decode cX6_readsLine 225 = .ok (.dup, 1) := by decide +kernel
theorem dX6_readsLine_226 : decode cX6_readsLine 226 = .ok (.getfield 152, 3) := by decide +kernel
theorem dX6_readsLine_229 : decode cX6_readsLine 229 = .ok (.iconst 2, 1) := by decide +kernel
theorem dX6_readsLine_230 : decode cX6_readsLine 230 = .ok (.iadd, 1) := by decide +kernel
theorem dX6_readsLine_231 : decode cX6_readsLine 231 = .ok (.putfield 152, 3) := by decide +kernel
theorem dX6_readsLine_234 : decode cX6_readsLine 234 = .ok (.goto 9, 3) := by decide +kernel
theorem dX6_readsLine_237 : decode cX6_readsLine 237 = .ok (.aload_n 0, 1) := by decide +kernel
theorem dX6_readsLine_238 : decode cX6_readsLine 238 = .ok (.iconst 1, 1) := by decide +kernel
theorem dX6_readsLine_239 : decode cX6_readsLine 239 = .ok (.iload_n 1, 1) := by decide +kernel
theorem dX6_readsLine_240 : decode cX6_readsLine 240 = .ok (.invokevirtual 115, 3) := by decide +kernel
theorem dX6_readsLine_243 : decode cX6_readsLine 243 = .ok (.aload_n 0, 1) := by decide +kernel
theorem dX6_readsLine_244 : decode cX6_readsLine 244 = .ok (.bipush 59, 2) := by decide +kernel
theorem dX6_readsLine_246 : decode cX6_readsLine 246 = .ok (.invokevirtual 155, 3) := by decide +kernel
theorem dX6_readsLine_249 : decode cX6_readsLine 249 = .ok (.return_, 1) := by decide +kernel
theorem dX6_arePairs_0 : decode cX6_arePairs 0 = .ok (.iconst 0, 1) := by decide +kernel
theorem dX6_arePairs_1 : decode cX6_arePairs 1 = .ok (.istore_n 1, 1) := by decide +kernel
theorem dX6_arePairs_2 : decode cX6_arePairs 2 = .ok (.iload_n 1, 1) := by decide +kernel
theorem dX6_arePairs_3 : decode cX6_arePairs 3 = .ok (.aload_n 0, 1) := by decide +kernel
theorem dX6_arePairs_4 : decode cX6_arePairs 4 = .ok (.getfield 152, 3) := by decide +kernel
theorem dX6_arePairs_7 : decode cX6_arePairs 7 = .ok (.if_icmp .ge 87, 3) := by decide +kernel
theorem dX6_arePairs_10 : decode cX6_arePairs 10 = .ok (.aload_n 0, 1) := by decide +kernel
theorem dX6_arePairs_11 : decode cX6_arePairs 11 = .ok (.getfield 31, 3) := by decide +kernel
theorem dX6_arePairs_14 : decode cX6_arePairs 14 = .ok (.iload_n 1, 1) := by decide +kernel
theorem dX6_arePairs_15 : decode cX6_arePairs 15 = .ok (.iaload, 1) := by decide +kernel
theorem dX6_arePairs_16 : decode cX6_arePairs 16 = .ok (.istore_n 2, 1) := by decide +kernel
theorem dX6_arePairs_17 : decode cX6_arePairs 17 = .ok (.aload_n 0, 1) := by decide +kernel
theorem dX6_arePairs_18 : decode cX6_arePairs 18 = .ok (.getfield 31, 3) := by decide +kernel
theorem dX6_arePairs_21 : decode cX6_arePairs 21 = .ok (.iload_n 1, 1) := by decide +kernel
theorem dX6_arePairs_22 : decode cX6_arePairs 22 = .ok (.iconst 1, 1) := by decide +kernel
theorem dX6_arePairs_23 : decode cX6_arePairs 23 = .ok (.iadd, 1) := by decide +kernel
theorem dX6_arePairs_24 : decode cX6_arePairs 24 = .ok (.iaload, 1) := by decide +kernel
theorem dX6_arePairs_25 : decode cX6_arePairs 25 = .ok (.istore_n 3, 1) := by decide +kernel
theorem dX6_arePairs_26 : decode cX6_arePairs 26 = .ok (.aload_n 0, 1) := by decide +kernel
theorem dX6_arePairs_27 : decode cX6_arePairs 27 = .ok (.getfield 23, 3) := by decide +kernel
theorem dX6_arePairs_30 : decode cX6_arePairs 30 = .ok (.bipush 13, 2) := by decide +kernel
theorem dX6_arePairs_32 : decode cX6_arePairs 32 = .ok (.bipush 12, 2) := by decide +kernel
theorem dX6_arePairs_34 : decode cX6_arePairs 34 = .ok (.iload_n 2, 1) := by decide +kernel
theorem dX6_arePairs_35 : decode cX6_arePairs 35 = .ok (.imul, 1) := by decide +kernel
theorem dX6_arePairs_36 : decode cX6_arePairs 36 = .ok (.iadd, 1) := by decide +kernel
theorem dX6_arePairs_37 : decode cX6_arePairs 37 = .ok (.iload_n 3, 1) := by decide +kernel
theorem dX6_arePairs_38 : decode cX6_arePairs 38 = .ok (.iadd, 1) := by decide +kernel
theorem dX6_arePairs_39 : decode cX6_arePairs 39 = .ok (.iaload, 1) := by decide +kernel
theorem dX6_arePairs_40 : decode cX6_arePairs 40 = .ok (.iconst (-1), 1) := by decide +kernel
theorem dX6_arePairs_41 : decode cX6_arePairs 41 = .ok (.if_icmp .eq 27, 3) := by decide +kernel
theorem dX6_arePairs_44 : decode cX6_arePairs 44 = .ok (.aload_n 0, 1) := by decide +kernel
theorem dX6_arePairs_45 : decode cX6_arePairs 45 = .ok (.getfield 23, 3) := by decide +kernel
theorem dX6_arePairs_48 : decode cX6_arePairs 48 = .ok (.iconst 1, 1) := by decide +kernel
theorem dX6_arePairs_49 : decode cX6_arePairs 49 = .ok (.iload_n 2, 1) := by decide +kernel
theorem dX6_arePairs_50 : decode cX6_arePairs 50 = .ok (.iadd, 1) := by decide +kernel
theorem dX6_arePairs_51 : decode cX6_arePairs 51 = .ok (.iaload, 1) := by decide +kernel
theorem dX6_arePairs_52 : decode cX6_arePairs 52 = .ok (.iconst (-1), 1) := by decide +kernel
theorem dX6_arePairs_53 : decode cX6_arePairs 53 = .ok (.if_icmp .ne 15, 3) := by decide +kernel
theorem dX6_arePairs_56 : decode cX6_arePairs 56 = .ok (.aload_n 0, 1) := by decide +kernel
theorem dX6_arePairs_57 : decode cX6_arePairs 57 = .ok (.getfield 23, 3) := by decide +kernel
theorem dX6_arePairs_60 : decode cX6_arePairs 60 = .ok (.iconst 1, 1) := by decide +kernel
theorem dX6_arePairs_61 : decode cX6_arePairs 61 = .ok (.iload_n 3, 1) := by decide +kernel
theorem dX6_arePairs_62 : decode cX6_arePairs 62 = .ok (.iadd, 1) := by decide +kernel
theorem dX6_arePairs_63 : decode cX6_arePairs 63 = .ok (.iaload, 1) := by decide +kernel
theorem dX6_arePairs_64 : decode cX6_arePairs 64 = .ok (.iconst (-1), 1) := by decide +kernel
theorem dX6_arePairs_65 : decode cX6_arePairs 65 = .ok (.if_icmp .eq 5, 3) := by decide +kernel
theorem dX6_arePairs_68 : decode cX6_arePairs 68 = .ok (.iconst 0, 1) := by decide +kernel
theorem dX6_arePairs_69 : decode cX6_arePairs 69 = .ok (.ireturn, 1) := by decide +kernel
theorem dX6_arePairs_70 : decode cX6_arePairs 70 = .ok (.aload_n 0, 1) := by decide +kernel
theorem dX6_arePairs_71 : decode cX6_arePairs 71 = .ok (.getfield 23, 3) := by decide +kernel
theorem dX6_arePairs_74 : decode cX6_arePairs 74 = .ok (.iconst 1, 1) := by decide +kernel
theorem dX6_arePairs_75 : decode cX6_arePairs 75 = .ok (.iload_n 2, 1) := by decide +kernel
theorem dX6_arePairs_76 : decode cX6_arePairs 76 = .ok (.iadd, 1) := by decide +kernel
theorem dX6_arePairs_77 : decode cX6_arePairs 77 = .ok (.iload_n 3, 1) := by decide +kernel
theorem dX6_arePairs_78 : decode cX6_arePairs 78 = .ok (.iastore, 1) := by decide +kernel
theorem dX6_arePairs_79 : decode cX6_arePairs 79 = .ok (.aload_n 0, 1) := by decide +kernel
theorem dX6_arePairs_80 : decode cX6_arePairs 80 = .ok (.getfield 23, 3) := by decide +kernel
theorem dX6_arePairs_83 : decode cX6_arePairs 83 = .ok (.iconst 1, 1) := by decide +kernel
theorem dX6_arePairs_84 : decode cX6_arePairs 84 = .ok (.iload_n 3, 1) := by decide +kernel
theorem dX6_arePairs_85 : decode cX6_arePairs 85 = .ok (.iadd, 1) := by decide +kernel
theorem dX6_arePairs_86 : decode cX6_arePairs 86 = .ok (.iload_n 2, 1) := by decide +kernel
theorem dX6_arePairs_87 : decode cX6_arePairs 87 = .ok (.iastore, 1) := by decide +kernel
theorem dX6_arePairs_88 : decode cX6_arePairs 88 = .ok (.iinc 1 2, 3) := by decide +kernel
theorem dX6_arePairs_91 : decode cX6_arePairs 91 = .ok (.goto (-89), 3) := by decide +kernel
theorem dX6_arePairs_94 : decode cX6_arePairs 94 = .ok (.iconst 1, 1) := by decide +kernel
theorem dX6_arePairs_95 : decode cX6_arePairs 95 = .ok (.ireturn, 1) := by decide +kernel
theorem dX6_text_0 : decode cX6_text 0 = .ok (.aload_n 0, 1) := by decide +kernel
theorem dX6_text_1 : decode cX6_text 1 = .ok (.iconst 0, 1) := by decide +kernel
theorem dX6_text_2 : decode cX6_text 2 = .ok (.putfield 72, 3) := by decide +kernel
theorem dX6_text_5 : decode cX6_text 5 = .ok (.aload_n 0, 1) := by decide +kernel
theorem dX6_text_6 : decode cX6_text 6 = .ok (.iload_n 1, 1) := by decide +kernel
theorem dX6_text_7 : decode cX6_text 7 = .ok (.iconst 0, 1) := by decide +kernel
theorem dX6_text_8 : decode cX6_text 8 = .ok (.aload_n 0, 1) := by decide +kernel
theorem dX6_text_9 : decode cX6_text 9 = .ok (.getfield 75, 3) := by decide +kernel
theorem dX6_text_12 : decode cX6_text 12 = .ok (.invokestatic 111, 3) := by decide +kernel
theorem dX6_text_15 : decode cX6_text 15 = .ok (.ifCond .ne 7, 3) := by decide +kernel
theorem dX6_text_18 : decode cX6_text 18 = .ok (.iconst 1, 1) := by decide +kernel
theorem dX6_text_19 : decode cX6_text 19 = .ok (.goto 4, 3) := by decide +kernel
theorem dX6_text_22 : decode cX6_text 22 = .ok (.iconst 0, 1) := by decide +kernel
theorem dX6_text_23 : decode cX6_text 23 = .ok (.iconst 1, 1) := by decide +kernel
theorem dX6_text_24 : decode cX6_text 24 = .ok (.iconst 1, 1) := by decide +kernel
theorem dX6_text_25 : decode cX6_text 25 = .ok (.invokevirtual 159, 3) := by decide +kernel
theorem dX6_text_28 : decode cX6_text 28 = .ok (.ifCond .eq 5, 3) := by decide +kernel
theorem dX6_text_31 : decode cX6_text 31 = .ok (.iconst 0, 1) := by decide +kernel
theorem dX6_text_32 : decode cX6_text 32 = .ok (.ireturn, 1) := by decide +kernel
theorem dX6_text_33 : decode cX6_text 33 = .ok (.aload_n 0, 1) := by decide +kernel
theorem dX6_text_34 : decode cX6_text 34 = .ok (.iconst 0, 1) := by decide +kernel
theorem dX6_text_35 : decode cX6_text 35 = .ok (.putfield 75, 3) := by decide +kernel
theorem dX6_text_38 : decode cX6_text 38 = .ok (.aload_n 0, 1) := by decide +kernel
theorem dX6_text_39 : decode cX6_text 39 = .ok (.iload_n 1, 1) := by decide +kernel
theorem dX6_text_40 : decode cX6_text 40 = .ok (.putfield 78, 3) := by decide +kernel
theorem dX6_text_43 : decode cX6_text 43 = .ok (.aload_n 0, 1) := by decide +kernel
theorem dX6_text_44 : decode cX6_text 44 = .ok (.iconst 0, 1) := by decide +kernel
theorem dX6_text_45 : decode cX6_text 45 = .ok (.putfield 81, 3) := by decide +kernel
theorem dX6_text_48 : decode cX6_text 48 = .ok (.aload_n 0, 1) := by decide +kernel
theorem dX6_text_49 : decode cX6_text 49 = .ok (.iconst 0, 1) := by decide +kernel
theorem dX6_text_50 : decode cX6_text 50 = .ok (.putfield 88, 3) := by decide +kernel
theorem dX6_text_53 : decode cX6_text 53 = .ok (.aload_n 0, 1) := by decide +kernel
theorem dX6_text_54 : decode cX6_text 54 = .ok (.iconst (-1), 1) := by decide +kernel
theorem dX6_text_55 : decode cX6_text 55 = .ok (.putfield 91, 3) := by decide +kernel
theorem dX6_text_58 : decode cX6_text 58 = .ok (.aload_n 0, 1) := by decide +kernel
theorem dX6_text_59 : decode cX6_text 59 = .ok (.iconst 0, 1) := by decide +kernel
theorem dX6_text_60 : decode cX6_text 60 = .ok (.putfield 152, 3) := by decide +kernel
theorem dX6_text_63 : decode cX6_text 63 = .ok (.aload_n 0, 1) := by decide +kernel
theorem dX6_text_64 : decode cX6_text 64 = .ok (.getfield 23, 3) := by decide +kernel
theorem dX6_text_67 : decode cX6_text 67 = .ok (.invokestatic 61, 3) := by decide +kernel
theorem dX6_text_70 : decode cX6_text 70 = .ok (.aload_n 0, 1) := by decide +kernel
theorem dX6_text_71 : decode cX6_text 71 = .ok (.ldc 163, 2) := by decide +kernel
theorem dX6_text_73 : decode cX6_text 73 = .ok (.invokevirtual 139, 3) := by decide +kernel
theorem dX6_text_76 : decode cX6_text 76 = .ok (.ifCond .ne 12, 3) := by decide +kernel
theorem dX6_text_79 : decode cX6_text 79 = .ok (.aload_n 0, 1) := by decide +kernel
theorem dX6_text_80 : decode cX6_text 80 = .ok (.iconst 1, 1) := by decide +kernel
theorem dX6_text_81 : decode cX6_text 81 = .ok (.aload_n 0, 1) := by decide +kernel
theorem dX6_text_82 : decode cX6_text 82 = .ok (.getfield 81, 3) := by decide +kernel
theorem dX6_text_85 : decode cX6_text 85 = .ok (.invokevirtual 115, 3) := by decide +kernel
theorem dX6_text_88 : decode cX6_text 88 = .ok (.aload_n 0, 1) := by decide +kernel
theorem dX6_text_89 : decode cX6_text 89 = .ok (.getfield 23, 3) := by decide +kernel
theorem dX6_text_92 : decode cX6_text 92 = .ok (.iconst 0, 1) := by decide +kernel
theorem dX6_text_93 : decode cX6_text 93 = .ok (.aload_n 0, 1) := by decide +kernel
theorem dX6_text_94 : decode cX6_text 94 = .ok (.iconst 1, 1) := by decide +kernel
theorem dX6_text_95 : decode cX6_text 95 = .ok (.bipush 12, 2) := by decide +kernel
theorem dX6_text_97 : decode cX6_text 97 = .ok (.iconst 0, 1) := by decide +kernel
theorem dX6_text_98 : decode cX6_text 98 = .ok (.invokevirtual 128, 3) := by decide +kernel
theorem dX6_text_101 : decode cX6_text 101 = .ok (.iastore, 1) := by decide +kernel
theorem dX6_text_102 : decode cX6_text 102 = .ok (.aload_n 0, 1) := by decide +kernel
theorem dX6_text_103 : decode cX6_text 103 = .ok (.bipush 59, 2) := by decide +kernel
theorem dX6_text_105 : decode cX6_text 105 = .ok (.invokevirtual 155, 3) := by decide +kernel
theorem dX6_text_108 : decode cX6_text 108 = .ok (.aload_n 0, 1) := by decide +kernel
theorem dX6_text_109 : decode cX6_text 109 = .ok (.invokevirtual 94, 3) := by decide +kernel
theorem dX6_text_112 : decode cX6_text 112 = .ok (.ifCond .eq 18, 3) := by decide +kernel
theorem dX6_text_115 : decode cX6_text 115 = .ok (.aload_n 0, 1) := by decide +kernel
theorem dX6_text_116 : decode cX6_text 116 = .ok (.invokevirtual 98, 3) := by decide +kernel
theorem dX6_text_119 : decode cX6_text 119 = .ok (.iconst (-1), 1) := by decide +kernel
theorem dX6_text_120 : decode cX6_text 120 = .ok (.if_icmp .eq 10, 3) := by decide +kernel
theorem dX6_text_123 : decode cX6_text 123 = .ok (.aload_n 0, 1) := by decide +kernel
theorem dX6_text_124 : decode cX6_text 124 = .ok (.invokevirtual 165, 3) := by decide +kernel
theorem dX6_text_127 : decode cX6_text 127 = .ok (.goto (-19), 3) := by decide +kernel
theorem dX6_text_130 : decode cX6_text 130 = .ok (.aload_n 0, 1) := by decide +kernel
theorem dX6_text_131 : decode cX6_text 131 = .ok (.invokevirtual 94, 3) := by decide +kernel
theorem dX6_text_134 : decode cX6_text 134 = .ok (.ifCond .eq 19, 3) := by decide +kernel
theorem dX6_text_137 : decode cX6_text 137 = .ok (.aload_n 0, 1) := by decide +kernel
theorem dX6_text_138 : decode cX6_text 138 = .ok (.invokevirtual 168, 3) := by decide +kernel
theorem dX6_text_141 : decode cX6_text 141 = .ok (.ifCond .ne 12, 3) := by decide +kernel
theorem dX6_text_144 : decode cX6_text 144 = .ok (.aload_n 0, 1) := by decide +kernel
theorem dX6_text_145 : decode cX6_text 145 = .ok (.iconst 3, 1) := by decide +kernel
theorem dX6_text_146 : decode cX6_text 146 = .ok (.aload_n 0, 1) := by decide +kernel
theorem dX6_text_147 : decode cX6_text 147 = .ok (.getfield 78, 3) := by decide +kernel
theorem dX6_text_150 : decode cX6_text 150 = .ok (.invokevirtual 115, 3) := by decide +kernel
theorem dX6_text_153 : decode cX6_text 153 = .ok (.aload_n 0, 1) := by decide +kernel
theorem dX6_text_154 : decode cX6_text 154 = .ok (.aload_n 0, 1) := by decide +kernel
theorem dX6_text_155 : decode cX6_text 155 = .ok (.getfield 91, 3) := by decide +kernel
theorem dX6_text_158 : decode cX6_text 158 = .ok (.putfield 13, 3) := by decide +kernel
theorem dX6_text_161 : decode cX6_text 161 = .ok (.aload_n 0, 1) := by decide +kernel
theorem dX6_text_162 : decode cX6_text 162 = .ok (.invokevirtual 94, 3) := by decide +kernel
theorem dX6_text_165 : decode cX6_text 165 = .ok (.ifCond .ne 11, 3) := by decide +kernel
theorem dX6_text_168 : decode cX6_text 168 = .ok (.aload_n 0, 1) := by decide +kernel
theorem dX6_text_169 : decode cX6_text 169 = .ok (.getfield 88, 3) := by decide +kernel
theorem dX6_text_172 : decode cX6_text 172 = .ok (.bipush 10, 2) := by decide +kernel
theorem dX6_text_174 : decode cX6_text 174 = .ok (.isub, 1) := by decide +kernel
theorem dX6_text_175 : decode cX6_text 175 = .ok (.ireturn, 1) := by decide +kernel
theorem dX6_text_176 : decode cX6_text 176 = .ok (.aload_n 0, 1) := by decide +kernel
theorem dX6_text_177 : decode cX6_text 177 = .ok (.invokevirtual 171, 3) := by decide +kernel
theorem dX6_text_180 : decode cX6_text 180 = .ok (.aload_n 0, 1) := by decide +kernel
theorem dX6_text_181 : decode cX6_text 181 = .ok (.getfield 23, 3) := by decide +kernel
theorem dX6_text_184 : decode cX6_text 184 = .ok (.aload_n 0, 1) := by decide +kernel
theorem dX6_text_185 : decode cX6_text 185 = .ok (.getfield 20, 3) := by decide +kernel
theorem dX6_text_188 : decode cX6_text 188 = .ok (.invokestatic 174, 3) := by decide +kernel
theorem dX6_text_191 : decode cX6_text 191 = .ok (.aload_n 0, 1) := by decide +kernel
theorem dX6_text_192 : decode cX6_text 192 = .ok (.invokevirtual 69, 3) := by decide +kernel
theorem dX6_text_195 : decode cX6_text 195 = .ok (.aload_n 0, 1) := by decide +kernel
theorem dX6_text_196 : decode cX6_text 196 = .ok (.invokevirtual 178, 3) := by decide +kernel
theorem dX6_text_199 : decode cX6_text 199 = .ok (.ireturn, 1) := by decide +kernel
theorem dX6_fault_0 : decode cX6_fault 0 = .ok (.aload_n 0, 1) := by decide +kernel
theorem dX6_fault_1 : decode cX6_fault 1 = .ok (.iconst 0, 1) := by decide +kernel
theorem dX6_fault_2 : decode cX6_fault 2 = .ok (.putfield 72, 3) := by decide +kernel
theorem dX6_fault_5 : decode cX6_fault 5 = .ok (.aload_n 0, 1) := by decide +kernel
theorem dX6_fault_6 : decode cX6_fault 6 = .ok (.getfield 13, 3) := by decide +kernel
theorem dX6_fault_9 : decode cX6_fault 9 = .ok (.ireturn, 1) := by decide +kernel
theorem dX6_nodes_0 : decode cX6_nodes 0 = .ok (.aload_n 0, 1) := by decide +kernel
theorem dX6_nodes_1 : decode cX6_nodes 1 = .ok (.getfield 20, 3) := by decide +kernel
theorem dX6_nodes_4 : decode cX6_nodes 4 = .ok (.iconst 0, 1) := by decide +kernel
theorem dX6_nodes_5 : decode cX6_nodes 5 = .ok (.iaload, 1) := by decide +kernel
theorem dX6_nodes_6 : decode cX6_nodes 6 = .ok (.ireturn, 1) := by decide +kernel
theorem dX6_all_0 : decode cX6_all 0 = .ok (.iconst 1, 1) := by decide +kernel
theorem dX6_all_1 : decode cX6_all 1 = .ok (.aload_n 0, 1) := by decide +kernel
theorem dX6_all_2 : decode cX6_all 2 = .ok (.invokevirtual 181, 3) := by decide +kernel
theorem dX6_all_5 : decode cX6_all 5 = .ok (.ishl, 1) := by decide +kernel
theorem dX6_all_6 : decode cX6_all 6 = .ok (.iconst 1, 1) := by decide +kernel
theorem dX6_all_7 : decode cX6_all 7 = .ok (.isub, 1) := by decide +kernel
theorem dX6_all_8 : decode cX6_all 8 = .ok (.ireturn, 1) := by decide +kernel
theorem dX6_mate_0 : decode cX6_mate 0 = .ok (.aload_n 0, 1) := by decide +kernel
theorem dX6_mate_1 : decode cX6_mate 1 = .ok (.getfield 20, 3) := by decide +kernel
theorem dX6_mate_4 : decode cX6_mate 4 = .ok (.iconst 1, 1) := by decide +kernel
theorem dX6_mate_5 : decode cX6_mate 5 = .ok (.iload_n 1, 1) := by decide +kernel
theorem dX6_mate_6 : decode cX6_mate 6 = .ok (.iadd, 1) := by decide +kernel
theorem dX6_mate_7 : decode cX6_mate 7 = .ok (.iaload, 1) := by decide +kernel
theorem dX6_mate_8 : decode cX6_mate 8 = .ok (.ireturn, 1) := by decide +kernel
theorem dX6_weight_0 : decode cX6_weight 0 = .ok (.aload_n 0, 1) := by decide +kernel
theorem dX6_weight_1 : decode cX6_weight 1 = .ok (.getfield 20, 3) := by decide +kernel
theorem dX6_weight_4 : decode cX6_weight 4 = .ok (.bipush 13, 2) := by decide +kernel
theorem dX6_weight_6 : decode cX6_weight 6 = .ok (.bipush 12, 2) := by decide +kernel
theorem dX6_weight_8 : decode cX6_weight 8 = .ok (.iload_n 1, 1) := by decide +kernel
theorem dX6_weight_9 : decode cX6_weight 9 = .ok (.imul, 1) := by decide +kernel
theorem dX6_weight_10 : decode cX6_weight 10 = .ok (.iadd, 1) := by decide +kernel
theorem dX6_weight_11 : decode cX6_weight 11 = .ok (.iload_n 2, 1) := by decide +kernel
theorem dX6_weight_12 : decode cX6_weight 12 = .ok (.iadd, 1) := by decide +kernel
theorem dX6_weight_13 : decode cX6_weight 13 = .ok (.iaload, 1) := by decide +kernel
theorem dX6_weight_14 : decode cX6_weight 14 = .ok (.ireturn, 1) := by decide +kernel
theorem dX6_has_0 : decode cX6_has 0 = .ok (.iload_n 0, 1) := by decide +kernel
theorem dX6_has_1 : decode cX6_has 1 = .ok (.iload_n 1, 1) := by decide +kernel
theorem dX6_has_2 : decode cX6_has 2 = .ok (.ishr, 1) := by decide +kernel
theorem dX6_has_3 : decode cX6_has 3 = .ok (.iconst 1, 1) := by decide +kernel
theorem dX6_has_4 : decode cX6_has 4 = .ok (.iand, 1) := by decide +kernel
theorem dX6_has_5 : decode cX6_has 5 = .ok (.iconst 1, 1) := by decide +kernel
theorem dX6_has_6 : decode cX6_has 6 = .ok (.if_icmp .ne 7, 3) := by decide +kernel
theorem dX6_has_9 : decode cX6_has 9 = .ok (.iconst 1, 1) := by decide +kernel
theorem dX6_has_10 : decode cX6_has 10 = .ok (.goto 4, 3) := by decide +kernel
theorem dX6_has_13 : decode cX6_has 13 = .ok (.iconst 0, 1) := by decide +kernel
theorem dX6_has_14 : decode cX6_has 14 = .ok (.ireturn, 1) := by decide +kernel
theorem dX6_bits_0 : decode cX6_bits 0 = .ok (.iconst 0, 1) := by decide +kernel
theorem dX6_bits_1 : decode cX6_bits 1 = .ok (.istore_n 1, 1) := by decide +kernel
theorem dX6_bits_2 : decode cX6_bits 2 = .ok (.iload_n 0, 1) := by decide +kernel
theorem dX6_bits_3 : decode cX6_bits 3 = .ok (.istore_n 2, 1) := by decide +kernel
theorem dX6_bits_4 : decode cX6_bits 4 = .ok (.iload_n 2, 1) := by decide +kernel
theorem dX6_bits_5 : decode cX6_bits 5 = .ok (.ifCond .eq 15, 3) := by decide +kernel
theorem dX6_bits_8 : decode cX6_bits 8 = .ok (.iinc 1 1, 3) := by decide +kernel
theorem dX6_bits_11 : decode cX6_bits 11 = .ok (.iload_n 2, 1) := by decide +kernel
theorem dX6_bits_12 : decode cX6_bits 12 = .ok (.iload_n 2, 1) := by decide +kernel
theorem dX6_bits_13 : decode cX6_bits 13 = .ok (.iconst 1, 1) := by decide +kernel
theorem dX6_bits_14 : decode cX6_bits 14 = .ok (.isub, 1) := by decide +kernel
theorem dX6_bits_15 : decode cX6_bits 15 = .ok (.iand, 1) := by decide +kernel
theorem dX6_bits_16 : decode cX6_bits 16 = .ok (.istore_n 2, 1) := by decide +kernel
theorem dX6_bits_17 : decode cX6_bits 17 = .ok (.goto (-13), 3) := by decide +kernel
theorem dX6_bits_20 : decode cX6_bits 20 = .ok (.iload_n 1, 1) := by decide +kernel
theorem dX6_bits_21 : decode cX6_bits 21 = .ok (.ireturn, 1) := by decide +kernel
theorem dX6_first_0 : decode cX6_first 0 = .ok (.iconst 0, 1) := by decide +kernel
theorem dX6_first_1 : decode cX6_first 1 = .ok (.istore_n 1, 1) := by decide +kernel
theorem dX6_first_2 : decode cX6_first 2 = .ok (.iload_n 0, 1) := by decide +kernel
theorem dX6_first_3 : decode cX6_first 3 = .ok (.iload_n 1, 1) := by decide +kernel
theorem dX6_first_4 : decode cX6_first 4 = .ok (.invokestatic 183, 3) := by decide +kernel
theorem dX6_first_7 : decode cX6_first 7 = .ok (.ifCond .ne 9, 3) := by decide +kernel
theorem dX6_first_10 : decode cX6_first 10 = .ok (.iinc 1 1, 3) := by decide +kernel
theorem dX6_first_13 : decode cX6_first 13 = .ok (.goto (-11), 3) := by decide +kernel
theorem dX6_first_16 : decode cX6_first 16 = .ok (.iload_n 1, 1) := by decide +kernel
theorem dX6_first_17 : decode cX6_first 17 = .ok (.ireturn, 1) := by decide +kernel
theorem dX6_changes_0 : decode cX6_changes 0 = .ok (.aload_n 0, 1) := by decide +kernel
theorem dX6_changes_1 : decode cX6_changes 1 = .ok (.iconst 0, 1) := by decide +kernel
theorem dX6_changes_2 : decode cX6_changes 2 = .ok (.putfield 187, 3) := by decide +kernel
theorem dX6_changes_5 : decode cX6_changes 5 = .ok (.return_, 1) := by decide +kernel
theorem dX6_adds_0 : decode cX6_adds 0 = .ok (.aload_n 0, 1) := by decide +kernel
theorem dX6_adds_1 : decode cX6_adds 1 = .ok (.getfield 34, 3) := by decide +kernel
theorem dX6_adds_4 : decode cX6_adds 4 = .ok (.iload_n 2, 1) := by decide +kernel
theorem dX6_adds_5 : decode cX6_adds 5 = .ok (.iaload, 1) := by decide +kernel
theorem dX6_adds_6 : decode cX6_adds 6 = .ok (.iload_n 3, 1) := by decide +kernel
theorem dX6_adds_7 : decode cX6_adds 7 = .ok (.iadd, 1) := by decide +kernel
theorem dX6_adds_8 : decode cX6_adds 8 = .ok (.istore 5, 2) := by decide +kernel
theorem dX6_adds_10 : decode cX6_adds 10 = .ok (.iload 5, 2) := by decide +kernel
theorem dX6_adds_12 : decode cX6_adds 12 = .ok (.aload_n 0, 1) := by decide +kernel
theorem dX6_adds_13 : decode cX6_adds 13 = .ok (.getfield 34, 3) := by decide +kernel
theorem dX6_adds_16 : decode cX6_adds 16 = .ok (.iload_n 1, 1) := by decide +kernel
theorem dX6_adds_17 : decode cX6_adds 17 = .ok (.iaload, 1) := by decide +kernel
theorem dX6_adds_18 : decode cX6_adds 18 = .ok (.if_icmp .ge 4, 3) := by decide +kernel
theorem dX6_adds_21 : decode cX6_adds 21 = .ok (.return_, 1) := by decide +kernel
theorem dX6_adds_22 : decode cX6_adds 22 = .ok (.iload 5, 2) := by decide +kernel
theorem dX6_adds_24 : decode cX6_adds 24 = .ok (.aload_n 0, 1) := by decide +kernel
theorem dX6_adds_25 : decode cX6_adds 25 = .ok (.getfield 34, 3) := by decide +kernel
theorem dX6_adds_28 : decode cX6_adds 28 = .ok (.iload_n 1, 1) := by decide +kernel
theorem dX6_adds_29 : decode cX6_adds 29 = .ok (.iaload, 1) := by decide +kernel
theorem dX6_adds_30 : decode cX6_adds 30 = .ok (.if_icmp .le 25, 3) := by decide +kernel
theorem dX6_adds_33 : decode cX6_adds 33 = .ok (.aload_n 0, 1) := by decide +kernel
theorem dX6_adds_34 : decode cX6_adds 34 = .ok (.getfield 43, 3) := by decide +kernel
theorem dX6_adds_37 : decode cX6_adds 37 = .ok (.iload_n 1, 1) := by decide +kernel
theorem dX6_adds_38 : decode cX6_adds 38 = .ok (.lconst 0, 1) := by decide +kernel
theorem dX6_adds_39 : decode cX6_adds 39 = .ok (.lastore, 1) := by decide +kernel
theorem dX6_adds_40 : decode cX6_adds 40 = .ok (.aload_n 0, 1) := by decide +kernel
theorem dX6_adds_41 : decode cX6_adds 41 = .ok (.getfield 37, 3) := by decide +kernel
theorem dX6_adds_44 : decode cX6_adds 44 = .ok (.iload_n 1, 1) := by decide +kernel
theorem dX6_adds_45 : decode cX6_adds 45 = .ok (.iconst (-1), 1) := by decide +kernel
theorem dX6_adds_46 : decode cX6_adds 46 = .ok (.iastore, 1) := by decide +kernel
theorem dX6_adds_47 : decode cX6_adds 47 = .ok (.aload_n 0, 1) := by decide +kernel
theorem dX6_adds_48 : decode cX6_adds 48 = .ok (.getfield 40, 3) := by decide +kernel
theorem dX6_adds_51 : decode cX6_adds 51 = .ok (.iload_n 1, 1) := by decide +kernel
theorem dX6_adds_52 : decode cX6_adds 52 = .ok (.ldc 193, 2) := by decide +kernel
theorem dX6_adds_54 : decode cX6_adds 54 = .ok (.iastore, 1) := by decide +kernel
theorem dX6_adds_55 : decode cX6_adds 55 = .ok (.aload_n 0, 1) := by decide +kernel
theorem dX6_adds_56 : decode cX6_adds 56 = .ok (.getfield 34, 3) := by decide +kernel
theorem dX6_adds_59 : decode cX6_adds 59 = .ok (.iload_n 1, 1) := by decide +kernel
theorem dX6_adds_60 : decode cX6_adds 60 = .ok (.iload 5, 2) := by decide +kernel
theorem dX6_adds_62 : decode cX6_adds 62 = .ok (.iastore, 1) := by decide +kernel
theorem dX6_adds_63 : decode cX6_adds 63 = .ok (.aload_n 0, 1) := by decide +kernel
theorem dX6_adds_64 : decode cX6_adds 64 = .ok (.getfield 43, 3) := by decide +kernel
theorem dX6_adds_67 : decode cX6_adds 67 = .ok (.iload_n 1, 1) := by decide +kernel
theorem dX6_adds_68 : decode cX6_adds 68 = .ok (.dup2, 1) := by decide +kernel
theorem dX6_adds_69 : decode cX6_adds 69 = .ok (.laload, 1) := by decide +kernel
theorem dX6_adds_70 : decode cX6_adds 70 = .ok (.aload_n 0, 1) := by decide +kernel
theorem dX6_adds_71 : decode cX6_adds 71 = .ok (.getfield 43, 3) := by decide +kernel
theorem dX6_adds_74 : decode cX6_adds 74 = .ok (.iload_n 2, 1) := by decide +kernel
theorem dX6_adds_75 : decode cX6_adds 75 = .ok (.laload, 1) := by decide +kernel
theorem dX6_adds_76 : decode cX6_adds 76 = .ok (.ladd, 1) := by decide +kernel
theorem dX6_adds_77 : decode cX6_adds 77 = .ok (.lastore, 1) := by decide +kernel
theorem dX6_adds_78 : decode cX6_adds 78 = .ok (.aload_n 0, 1) := by decide +kernel
theorem dX6_adds_79 : decode cX6_adds 79 = .ok (.getfield 37, 3) := by decide +kernel
theorem dX6_adds_82 : decode cX6_adds 82 = .ok (.iload_n 1, 1) := by decide +kernel
theorem dX6_adds_83 : decode cX6_adds 83 = .ok (.aload_n 0, 1) := by decide +kernel
theorem dX6_adds_84 : decode cX6_adds 84 = .ok (.getfield 37, 3) := by decide +kernel
theorem dX6_adds_87 : decode cX6_adds 87 = .ok (.iload_n 1, 1) := by decide +kernel
theorem dX6_adds_88 : decode cX6_adds 88 = .ok (.iaload, 1) := by decide +kernel
theorem dX6_adds_89 : decode cX6_adds 89 = .ok (.aload_n 0, 1) := by decide +kernel
theorem dX6_adds_90 : decode cX6_adds 90 = .ok (.getfield 37, 3) := by decide +kernel
theorem dX6_adds_93 : decode cX6_adds 93 = .ok (.iload_n 2, 1) := by decide +kernel
theorem dX6_adds_94 : decode cX6_adds 94 = .ok (.iaload, 1) := by decide +kernel
theorem dX6_adds_95 : decode cX6_adds 95 = .ok (.iload 4, 2) := by decide +kernel
theorem dX6_adds_97 : decode cX6_adds 97 = .ok (.iadd, 1) := by decide +kernel
theorem dX6_adds_98 : decode cX6_adds 98 = .ok (.if_icmp .le 12, 3) := by decide +kernel
theorem dX6_adds_101 : decode cX6_adds 101 = .ok (.aload_n 0, 1) := by decide +kernel
theorem dX6_adds_102 : decode cX6_adds 102 = .ok (.getfield 37, 3) := by decide +kernel
theorem dX6_adds_105 : decode cX6_adds 105 = .ok (.iload_n 1, 1) := by decide +kernel
theorem dX6_adds_106 : decode cX6_adds 106 = .ok (.iaload, 1) := by decide +kernel
theorem dX6_adds_107 : decode cX6_adds 107 = .ok (.goto 12, 3) := by decide +kernel
theorem dX6_adds_110 : decode cX6_adds 110 = .ok (.aload_n 0, 1) := by decide +kernel
theorem dX6_adds_111 : decode cX6_adds 111 = .ok (.getfield 37, 3) := by decide +kernel
theorem dX6_adds_114 : decode cX6_adds 114 = .ok (.iload_n 2, 1) := by decide +kernel
theorem dX6_adds_115 : decode cX6_adds 115 = .ok (.iaload, 1) := by decide +kernel
theorem dX6_adds_116 : decode cX6_adds 116 = .ok (.iload 4, 2) := by decide +kernel
theorem dX6_adds_118 : decode cX6_adds 118 = .ok (.iadd, 1) := by decide +kernel
theorem dX6_adds_119 : decode cX6_adds 119 = .ok (.iastore, 1) := by decide +kernel
theorem dX6_adds_120 : decode cX6_adds 120 = .ok (.aload_n 0, 1) := by decide +kernel
theorem dX6_adds_121 : decode cX6_adds 121 = .ok (.getfield 40, 3) := by decide +kernel
theorem dX6_adds_124 : decode cX6_adds 124 = .ok (.iload_n 1, 1) := by decide +kernel
theorem dX6_adds_125 : decode cX6_adds 125 = .ok (.aload_n 0, 1) := by decide +kernel
theorem dX6_adds_126 : decode cX6_adds 126 = .ok (.getfield 40, 3) := by decide +kernel
theorem dX6_adds_129 : decode cX6_adds 129 = .ok (.iload_n 1, 1) := by decide +kernel
theorem dX6_adds_130 : decode cX6_adds 130 = .ok (.iaload, 1) := by decide +kernel
theorem dX6_adds_131 : decode cX6_adds 131 = .ok (.aload_n 0, 1) := by decide +kernel
theorem dX6_adds_132 : decode cX6_adds 132 = .ok (.getfield 40, 3) := by decide +kernel
theorem dX6_adds_135 : decode cX6_adds 135 = .ok (.iload_n 2, 1) := by decide +kernel
theorem dX6_adds_136 : decode cX6_adds 136 = .ok (.iaload, 1) := by decide +kernel
theorem dX6_adds_137 : decode cX6_adds 137 = .ok (.iload 4, 2) := by decide +kernel
theorem dX6_adds_139 : decode cX6_adds 139 = .ok (.iadd, 1) := by decide +kernel
theorem dX6_adds_140 : decode cX6_adds 140 = .ok (.invokestatic 124, 3) := by decide +kernel
theorem dX6_adds_143 : decode cX6_adds 143 = .ok (.iastore, 1) := by decide +kernel
theorem dX6_adds_144 : decode cX6_adds 144 = .ok (.return_, 1) := by decide +kernel
theorem dX6_lays_0 : decode cX6_lays 0 = .ok (.aload_n 0, 1) := by decide +kernel
theorem dX6_lays_1 : decode cX6_lays 1 = .ok (.getfield 187, 3) := by decide +kernel
theorem dX6_lays_4 : decode cX6_lays 4 = .ok (.ifCond .eq 4, 3) := by decide +kernel
theorem dX6_lays_7 : decode cX6_lays 7 = .ok (.return_, 1) := by decide +kernel
theorem dX6_lays_8 : decode cX6_lays 8 = .ok (.aload_n 0, 1) := by decide +kernel
theorem dX6_lays_9 : decode cX6_lays 9 = .ok (.iconst 1, 1) := by decide +kernel
theorem dX6_lays_10 : decode cX6_lays 10 = .ok (.putfield 187, 3) := by decide +kernel
theorem dX6_lays_13 : decode cX6_lays 13 = .ok (.aload_n 0, 1) := by decide +kernel
theorem dX6_lays_14 : decode cX6_lays 14 = .ok (.getfield 43, 3) := by decide +kernel
theorem dX6_lays_17 : decode cX6_lays 17 = .ok (.iconst 0, 1) := by decide +kernel
theorem dX6_lays_18 : decode cX6_lays 18 = .ok (.lconst 1, 1) := by decide +kernel
theorem dX6_lays_19 : decode cX6_lays 19 = .ok (.lastore, 1) := by decide +kernel
theorem dX6_lays_20 : decode cX6_lays 20 = .ok (.aload_n 0, 1) := by decide +kernel
theorem dX6_lays_21 : decode cX6_lays 21 = .ok (.getfield 34, 3) := by decide +kernel
theorem dX6_lays_24 : decode cX6_lays 24 = .ok (.iconst 0, 1) := by decide +kernel
theorem dX6_lays_25 : decode cX6_lays 25 = .ok (.iconst 0, 1) := by decide +kernel
theorem dX6_lays_26 : decode cX6_lays 26 = .ok (.iastore, 1) := by decide +kernel
theorem dX6_lays_27 : decode cX6_lays 27 = .ok (.aload_n 0, 1) := by decide +kernel
theorem dX6_lays_28 : decode cX6_lays 28 = .ok (.getfield 37, 3) := by decide +kernel
theorem dX6_lays_31 : decode cX6_lays 31 = .ok (.iconst 0, 1) := by decide +kernel
theorem dX6_lays_32 : decode cX6_lays 32 = .ok (.iconst 0, 1) := by decide +kernel
theorem dX6_lays_33 : decode cX6_lays 33 = .ok (.iastore, 1) := by decide +kernel
theorem dX6_lays_34 : decode cX6_lays 34 = .ok (.aload_n 0, 1) := by decide +kernel
theorem dX6_lays_35 : decode cX6_lays 35 = .ok (.getfield 40, 3) := by decide +kernel
theorem dX6_lays_38 : decode cX6_lays 38 = .ok (.iconst 0, 1) := by decide +kernel
theorem dX6_lays_39 : decode cX6_lays 39 = .ok (.iconst 0, 1) := by decide +kernel
theorem dX6_lays_40 : decode cX6_lays 40 = .ok (.iastore, 1) := by decide +kernel
theorem dX6_lays_41 : decode cX6_lays 41 = .ok (.iconst 1, 1) := by decide +kernel
theorem dX6_lays_42 : decode cX6_lays 42 = .ok (.istore_n 1, 1) := by decide +kernel
theorem dX6_lays_43 : decode cX6_lays 43 = .ok (.iload_n 1, 1) := by decide +kernel
theorem dX6_lays_44 : decode cX6_lays 44 = .ok (.aload_n 0, 1) := by decide +kernel
theorem dX6_lays_45 : decode cX6_lays 45 = .ok (.invokevirtual 194, 3) := by decide +kernel
theorem dX6_lays_48 : decode cX6_lays 48 = .ok (.if_icmp .gt 98, 3) := by decide +kernel
theorem dX6_lays_51 : decode cX6_lays 51 = .ok (.iload_n 1, 1) := by decide +kernel
theorem dX6_lays_52 : decode cX6_lays 52 = .ok (.invokestatic 196, 3) := by decide +kernel
theorem dX6_lays_55 : decode cX6_lays 55 = .ok (.istore_n 2, 1) := by decide +kernel
theorem dX6_lays_56 : decode cX6_lays 56 = .ok (.iload_n 1, 1) := by decide +kernel
theorem dX6_lays_57 : decode cX6_lays 57 = .ok (.iconst 1, 1) := by decide +kernel
theorem dX6_lays_58 : decode cX6_lays 58 = .ok (.iload_n 2, 1) := by decide +kernel
theorem dX6_lays_59 : decode cX6_lays 59 = .ok (.ishl, 1) := by decide +kernel
theorem dX6_lays_60 : decode cX6_lays 60 = .ok (.iconst (-1), 1) := by decide +kernel
theorem dX6_lays_61 : decode cX6_lays 61 = .ok (.ixor, 1) := by decide +kernel
theorem dX6_lays_62 : decode cX6_lays 62 = .ok (.iand, 1) := by decide +kernel
theorem dX6_lays_63 : decode cX6_lays 63 = .ok (.istore_n 3, 1) := by decide +kernel
theorem dX6_lays_64 : decode cX6_lays 64 = .ok (.aload_n 0, 1) := by decide +kernel
theorem dX6_lays_65 : decode cX6_lays 65 = .ok (.getfield 34, 3) := by decide +kernel
theorem dX6_lays_68 : decode cX6_lays 68 = .ok (.iload_n 1, 1) := by decide +kernel
theorem dX6_lays_69 : decode cX6_lays 69 = .ok (.iconst (-1), 1) := by decide +kernel
theorem dX6_lays_70 : decode cX6_lays 70 = .ok (.iastore, 1) := by decide +kernel
theorem dX6_lays_71 : decode cX6_lays 71 = .ok (.aload_n 0, 1) := by decide +kernel
theorem dX6_lays_72 : decode cX6_lays 72 = .ok (.iload_n 1, 1) := by decide +kernel
theorem dX6_lays_73 : decode cX6_lays 73 = .ok (.iload_n 3, 1) := by decide +kernel
theorem dX6_lays_74 : decode cX6_lays 74 = .ok (.iconst 0, 1) := by decide +kernel
theorem dX6_lays_75 : decode cX6_lays 75 = .ok (.iconst 0, 1) := by decide +kernel
theorem dX6_lays_76 : decode cX6_lays 76 = .ok (.invokevirtual 199, 3) := by decide +kernel
theorem dX6_lays_79 : decode cX6_lays 79 = .ok (.iload_n 2, 1) := by decide +kernel
theorem dX6_lays_80 : decode cX6_lays 80 = .ok (.iconst 1, 1) := by decide +kernel
theorem dX6_lays_81 : decode cX6_lays 81 = .ok (.iadd, 1) := by decide +kernel
theorem dX6_lays_82 : decode cX6_lays 82 = .ok (.istore 4, 2) := by decide +kernel
theorem dX6_lays_84 : decode cX6_lays 84 = .ok (.iload 4, 2) := by decide +kernel
theorem dX6_lays_86 : decode cX6_lays 86 = .ok (.aload_n 0, 1) := by decide +kernel
theorem dX6_lays_87 : decode cX6_lays 87 = .ok (.invokevirtual 181, 3) := by decide +kernel
theorem dX6_lays_90 : decode cX6_lays 90 = .ok (.if_icmp .ge 50, 3) := by decide +kernel
theorem dX6_lays_93 : decode cX6_lays 93 = .ok (.iload_n 3, 1) := by decide +kernel
theorem dX6_lays_94 : decode cX6_lays 94 = .ok (.iload 4, 2) := by decide +kernel
theorem dX6_lays_96 : decode cX6_lays 96 = .ok (.invokestatic 183, 3) := by decide +kernel
theorem dX6_lays_99 : decode cX6_lays 99 = .ok (.ifCond .eq 35, 3) := by decide +kernel
theorem dX6_lays_102 : decode cX6_lays 102 = .ok (.aload_n 0, 1) := by decide +kernel
theorem dX6_lays_103 : decode cX6_lays 103 = .ok (.iload_n 2, 1) := by decide +kernel
theorem dX6_lays_104 : decode cX6_lays 104 = .ok (.iload 4, 2) := by decide +kernel
theorem dX6_lays_106 : decode cX6_lays 106 = .ok (.invokevirtual 203, 3) := by decide +kernel
theorem dX6_lays_109 : decode cX6_lays 109 = .ok (.iconst (-1), 1) := by decide +kernel
theorem dX6_lays_110 : decode cX6_lays 110 = .ok (.if_icmp .eq 24, 3) := by decide +kernel
theorem dX6_lays_113 : decode cX6_lays 113 = .ok (.aload_n 0, 1) := by decide +kernel
theorem dX6_lays_114 : decode cX6_lays 114 = .ok (.iload_n 1, 1) := by decide +kernel
theorem dX6_lays_115 : decode cX6_lays 115 = .ok (.iload_n 3, 1) := by decide +kernel
theorem dX6_lays_116 : decode cX6_lays 116 = .ok (.iconst 1, 1) := by decide +kernel
theorem dX6_lays_117 : decode cX6_lays 117 = .ok (.iload 4, 2) := by decide +kernel
theorem dX6_lays_119 : decode cX6_lays 119 = .ok (.ishl, 1) := by decide +kernel
theorem dX6_lays_120 : decode cX6_lays 120 = .ok (.iconst (-1), 1) := by decide +kernel
theorem dX6_lays_121 : decode cX6_lays 121 = .ok (.ixor, 1) := by decide +kernel
theorem dX6_lays_122 : decode cX6_lays 122 = .ok (.iand, 1) := by decide +kernel
theorem dX6_lays_123 : decode cX6_lays 123 = .ok (.iconst 1, 1) := by decide +kernel
theorem dX6_lays_124 : decode cX6_lays 124 = .ok (.aload_n 0, 1) := by decide +kernel
theorem dX6_lays_125 : decode cX6_lays 125 = .ok (.iload_n 2, 1) := by decide +kernel
theorem dX6_lays_126 : decode cX6_lays 126 = .ok (.iload 4, 2) := by decide +kernel
theorem dX6_lays_128 : decode cX6_lays 128 = .ok (.invokevirtual 203, 3) := by decide +kernel
theorem dX6_lays_131 : decode cX6_lays 131 = .ok (.invokevirtual 199, 3) := by decide +kernel
theorem dX6_lays_134 : decode cX6_lays 134 = .ok (.iinc 4 1, 3) := by decide +kernel
theorem dX6_lays_137 : decode cX6_lays 137 = .ok (.goto (-53), 3) := by decide +kernel
theorem dX6_lays_140 : decode cX6_lays 140 = .ok (.iinc 1 1, 3) := by decide +kernel
theorem dX6_lays_143 : decode cX6_lays 143 = .ok (.goto (-100), 3) := by decide +kernel
theorem dX6_lays_146 : decode cX6_lays 146 = .ok (.return_, 1) := by decide +kernel
theorem dX6_missing_0 : decode cX6_missing 0 = .ok (.aload_n 0, 1) := by decide +kernel
theorem dX6_missing_1 : decode cX6_missing 1 = .ok (.invokevirtual 181, 3) := by decide +kernel
theorem dX6_missing_4 : decode cX6_missing 4 = .ok (.iconst 2, 1) := by decide +kernel
theorem dX6_missing_5 : decode cX6_missing 5 = .ok (.aload_n 0, 1) := by decide +kernel
theorem dX6_missing_6 : decode cX6_missing 6 = .ok (.getfield 34, 3) := by decide +kernel
theorem dX6_missing_9 : decode cX6_missing 9 = .ok (.aload_n 0, 1) := by decide +kernel
theorem dX6_missing_10 : decode cX6_missing 10 = .ok (.invokevirtual 194, 3) := by decide +kernel
theorem dX6_missing_13 : decode cX6_missing 13 = .ok (.iaload, 1) := by decide +kernel
theorem dX6_missing_14 : decode cX6_missing 14 = .ok (.imul, 1) := by decide +kernel
theorem dX6_missing_15 : decode cX6_missing 15 = .ok (.isub, 1) := by decide +kernel
theorem dX6_missing_16 : decode cX6_missing 16 = .ok (.ireturn, 1) := by decide +kernel
theorem dX6_lines_0 : decode cX6_lines 0 = .ok (.iconst 0, 1) := by decide +kernel
theorem dX6_lines_1 : decode cX6_lines 1 = .ok (.istore_n 1, 1) := by decide +kernel
theorem dX6_lines_2 : decode cX6_lines 2 = .ok (.iconst 0, 1) := by decide +kernel
theorem dX6_lines_3 : decode cX6_lines 3 = .ok (.istore_n 2, 1) := by decide +kernel
theorem dX6_lines_4 : decode cX6_lines 4 = .ok (.iload_n 2, 1) := by decide +kernel
theorem dX6_lines_5 : decode cX6_lines 5 = .ok (.aload_n 0, 1) := by decide +kernel
theorem dX6_lines_6 : decode cX6_lines 6 = .ok (.invokevirtual 181, 3) := by decide +kernel
theorem dX6_lines_9 : decode cX6_lines 9 = .ok (.if_icmp .ge 40, 3) := by decide +kernel
theorem dX6_lines_12 : decode cX6_lines 12 = .ok (.iconst 0, 1) := by decide +kernel
theorem dX6_lines_13 : decode cX6_lines 13 = .ok (.istore_n 3, 1) := by decide +kernel
theorem dX6_lines_14 : decode cX6_lines 14 = .ok (.iload_n 3, 1) := by decide +kernel
theorem dX6_lines_15 : decode cX6_lines 15 = .ok (.iload_n 2, 1) := by decide +kernel
theorem dX6_lines_16 : decode cX6_lines 16 = .ok (.if_icmp .ge 27, 3) := by decide +kernel
theorem dX6_lines_19 : decode cX6_lines 19 = .ok (.iload_n 1, 1) := by decide +kernel
theorem dX6_lines_20 : decode cX6_lines 20 = .ok (.aload_n 0, 1) := by decide +kernel
theorem dX6_lines_21 : decode cX6_lines 21 = .ok (.iload_n 2, 1) := by decide +kernel
theorem dX6_lines_22 : decode cX6_lines 22 = .ok (.iload_n 3, 1) := by decide +kernel
theorem dX6_lines_23 : decode cX6_lines 23 = .ok (.invokevirtual 203, 3) := by decide +kernel
theorem dX6_lines_26 : decode cX6_lines 26 = .ok (.iconst (-1), 1) := by decide +kernel
theorem dX6_lines_27 : decode cX6_lines 27 = .ok (.if_icmp .ne 7, 3) := by decide +kernel
theorem dX6_lines_30 : decode cX6_lines 30 = .ok (.iconst 0, 1) := by decide +kernel
theorem dX6_lines_31 : decode cX6_lines 31 = .ok (.goto 4, 3) := by decide +kernel
theorem dX6_lines_34 : decode cX6_lines 34 = .ok (.iconst 1, 1) := by decide +kernel
theorem dX6_lines_35 : decode cX6_lines 35 = .ok (.iadd, 1) := by decide +kernel
theorem dX6_lines_36 : decode cX6_lines 36 = .ok (.istore_n 1, 1) := by decide +kernel
theorem dX6_lines_37 : decode cX6_lines 37 = .ok (.iinc 3 1, 3) := by decide +kernel
theorem dX6_lines_40 : decode cX6_lines 40 = .ok (.goto (-26), 3) := by decide +kernel
theorem dX6_lines_43 : decode cX6_lines 43 = .ok (.iinc 2 1, 3) := by decide +kernel
theorem dX6_lines_46 : decode cX6_lines 46 = .ok (.goto (-42), 3) := by decide +kernel
theorem dX6_lines_49 : decode cX6_lines 49 = .ok (.iload_n 1, 1) := by decide +kernel
theorem dX6_lines_50 : decode cX6_lines 50 = .ok (.ireturn, 1) := by decide +kernel
theorem dX6_pairsNow_0 : decode cX6_pairsNow 0 = .ok (.iconst 0, 1) := by decide +kernel
theorem dX6_pairsNow_1 : decode cX6_pairsNow 1 = .ok (.istore_n 1, 1) := by decide +kernel
theorem dX6_pairsNow_2 : decode cX6_pairsNow 2 = .ok (.iconst 0, 1) := by decide +kernel
theorem dX6_pairsNow_3 : decode cX6_pairsNow 3 = .ok (.istore_n 2, 1) := by decide +kernel
theorem dX6_pairsNow_4 : decode cX6_pairsNow 4 = .ok (.iload_n 2, 1) := by decide +kernel
theorem dX6_pairsNow_5 : decode cX6_pairsNow 5 = .ok (.aload_n 0, 1) := by decide +kernel
theorem dX6_pairsNow_6 : decode cX6_pairsNow 6 = .ok (.invokevirtual 181, 3) := by decide +kernel
theorem dX6_pairsNow_9 : decode cX6_pairsNow 9 = .ok (.if_icmp .ge 26, 3) := by decide +kernel
theorem dX6_pairsNow_12 : decode cX6_pairsNow 12 = .ok (.iload_n 1, 1) := by decide +kernel
theorem dX6_pairsNow_13 : decode cX6_pairsNow 13 = .ok (.aload_n 0, 1) := by decide +kernel
theorem dX6_pairsNow_14 : decode cX6_pairsNow 14 = .ok (.iload_n 2, 1) := by decide +kernel
theorem dX6_pairsNow_15 : decode cX6_pairsNow 15 = .ok (.invokevirtual 206, 3) := by decide +kernel
theorem dX6_pairsNow_18 : decode cX6_pairsNow 18 = .ok (.iload_n 2, 1) := by decide +kernel
theorem dX6_pairsNow_19 : decode cX6_pairsNow 19 = .ok (.if_icmp .le 7, 3) := by decide +kernel
theorem dX6_pairsNow_22 : decode cX6_pairsNow 22 = .ok (.iconst 1, 1) := by decide +kernel
theorem dX6_pairsNow_23 : decode cX6_pairsNow 23 = .ok (.goto 4, 3) := by decide +kernel
theorem dX6_pairsNow_26 : decode cX6_pairsNow 26 = .ok (.iconst 0, 1) := by decide +kernel
theorem dX6_pairsNow_27 : decode cX6_pairsNow 27 = .ok (.iadd, 1) := by decide +kernel
theorem dX6_pairsNow_28 : decode cX6_pairsNow 28 = .ok (.istore_n 1, 1) := by decide +kernel
theorem dX6_pairsNow_29 : decode cX6_pairsNow 29 = .ok (.iinc 2 1, 3) := by decide +kernel
theorem dX6_pairsNow_32 : decode cX6_pairsNow 32 = .ok (.goto (-28), 3) := by decide +kernel
theorem dX6_pairsNow_35 : decode cX6_pairsNow 35 = .ok (.iload_n 1, 1) := by decide +kernel
theorem dX6_pairsNow_36 : decode cX6_pairsNow 36 = .ok (.ireturn, 1) := by decide +kernel
theorem dX6_laysFirst_0 : decode cX6_laysFirst 0 = .ok (.aload_n 0, 1) := by decide +kernel
theorem dX6_laysFirst_1 : decode cX6_laysFirst 1 = .ok (.invokevirtual 209, 3) := by decide +kernel
theorem dX6_laysFirst_4 : decode cX6_laysFirst 4 = .ok (.aload_n 0, 1) := by decide +kernel
theorem dX6_laysFirst_5 : decode cX6_laysFirst 5 = .ok (.invokevirtual 194, 3) := by decide +kernel
theorem dX6_laysFirst_8 : decode cX6_laysFirst 8 = .ok (.istore_n 1, 1) := by decide +kernel
theorem dX6_laysFirst_9 : decode cX6_laysFirst 9 = .ok (.aload_n 0, 1) := by decide +kernel
theorem dX6_laysFirst_10 : decode cX6_laysFirst 10 = .ok (.getfield 34, 3) := by decide +kernel
theorem dX6_laysFirst_13 : decode cX6_laysFirst 13 = .ok (.aload_n 0, 1) := by decide +kernel
theorem dX6_laysFirst_14 : decode cX6_laysFirst 14 = .ok (.invokevirtual 194, 3) := by decide +kernel
theorem dX6_laysFirst_17 : decode cX6_laysFirst 17 = .ok (.iaload, 1) := by decide +kernel
theorem dX6_laysFirst_18 : decode cX6_laysFirst 18 = .ok (.istore_n 2, 1) := by decide +kernel
theorem dX6_laysFirst_19 : decode cX6_laysFirst 19 = .ok (.iconst 0, 1) := by decide +kernel
theorem dX6_laysFirst_20 : decode cX6_laysFirst 20 = .ok (.istore_n 3, 1) := by decide +kernel
theorem dX6_laysFirst_21 : decode cX6_laysFirst 21 = .ok (.iload_n 3, 1) := by decide +kernel
theorem dX6_laysFirst_22 : decode cX6_laysFirst 22 = .ok (.aload_n 0, 1) := by decide +kernel
theorem dX6_laysFirst_23 : decode cX6_laysFirst 23 = .ok (.invokevirtual 181, 3) := by decide +kernel
theorem dX6_laysFirst_26 : decode cX6_laysFirst 26 = .ok (.if_icmp .ge 135, 3) := by decide +kernel
theorem dX6_laysFirst_29 : decode cX6_laysFirst 29 = .ok (.iload_n 1, 1) := by decide +kernel
theorem dX6_laysFirst_30 : decode cX6_laysFirst 30 = .ok (.iload_n 3, 1) := by decide +kernel
theorem dX6_laysFirst_31 : decode cX6_laysFirst 31 = .ok (.invokestatic 183, 3) := by decide +kernel
theorem dX6_laysFirst_34 : decode cX6_laysFirst 34 = .ok (.ifCond .ne 6, 3) := by decide +kernel
theorem dX6_laysFirst_37 : decode cX6_laysFirst 37 = .ok (.goto 118, 3) := by decide +kernel
theorem dX6_laysFirst_40 : decode cX6_laysFirst 40 = .ok (.iload_n 1, 1) := by decide +kernel
theorem dX6_laysFirst_41 : decode cX6_laysFirst 41 = .ok (.iconst 1, 1) := by decide +kernel
theorem dX6_laysFirst_42 : decode cX6_laysFirst 42 = .ok (.iload_n 3, 1) := by decide +kernel
theorem dX6_laysFirst_43 : decode cX6_laysFirst 43 = .ok (.ishl, 1) := by decide +kernel
theorem dX6_laysFirst_44 : decode cX6_laysFirst 44 = .ok (.iconst (-1), 1) := by decide +kernel
theorem dX6_laysFirst_45 : decode cX6_laysFirst 45 = .ok (.ixor, 1) := by decide +kernel
theorem dX6_laysFirst_46 : decode cX6_laysFirst 46 = .ok (.iand, 1) := by decide +kernel
theorem dX6_laysFirst_47 : decode cX6_laysFirst 47 = .ok (.istore_n 1, 1) := by decide +kernel
theorem dX6_laysFirst_48 : decode cX6_laysFirst 48 = .ok (.aload_n 0, 1) := by decide +kernel
theorem dX6_laysFirst_49 : decode cX6_laysFirst 49 = .ok (.getfield 47, 3) := by decide +kernel
theorem dX6_laysFirst_52 : decode cX6_laysFirst 52 = .ok (.iload_n 3, 1) := by decide +kernel
theorem dX6_laysFirst_53 : decode cX6_laysFirst 53 = .ok (.iconst (-1), 1) := by decide +kernel
theorem dX6_laysFirst_54 : decode cX6_laysFirst 54 = .ok (.iastore, 1) := by decide +kernel
theorem dX6_laysFirst_55 : decode cX6_laysFirst 55 = .ok (.iload_n 3, 1) := by decide +kernel
theorem dX6_laysFirst_56 : decode cX6_laysFirst 56 = .ok (.iconst 1, 1) := by decide +kernel
theorem dX6_laysFirst_57 : decode cX6_laysFirst 57 = .ok (.iadd, 1) := by decide +kernel
theorem dX6_laysFirst_58 : decode cX6_laysFirst 58 = .ok (.istore 4, 2) := by decide +kernel
theorem dX6_laysFirst_60 : decode cX6_laysFirst 60 = .ok (.iload 4, 2) := by decide +kernel
theorem dX6_laysFirst_62 : decode cX6_laysFirst 62 = .ok (.aload_n 0, 1) := by decide +kernel
theorem dX6_laysFirst_63 : decode cX6_laysFirst 63 = .ok (.invokevirtual 181, 3) := by decide +kernel
theorem dX6_laysFirst_66 : decode cX6_laysFirst 66 = .ok (.if_icmp .ge 89, 3) := by decide +kernel
theorem dX6_laysFirst_69 : decode cX6_laysFirst 69 = .ok (.aload_n 0, 1) := by decide +kernel
theorem dX6_laysFirst_70 : decode cX6_laysFirst 70 = .ok (.getfield 47, 3) := by decide +kernel
theorem dX6_laysFirst_73 : decode cX6_laysFirst 73 = .ok (.iload_n 3, 1) := by decide +kernel
theorem dX6_laysFirst_74 : decode cX6_laysFirst 74 = .ok (.iaload, 1) := by decide +kernel
theorem dX6_laysFirst_75 : decode cX6_laysFirst 75 = .ok (.iconst (-1), 1) := by decide +kernel
theorem dX6_laysFirst_76 : decode cX6_laysFirst 76 = .ok (.if_icmp .ne 79, 3) := by decide +kernel
theorem dX6_laysFirst_79 : decode cX6_laysFirst 79 = .ok (.iload_n 1, 1) := by decide +kernel
theorem dX6_laysFirst_80 : decode cX6_laysFirst 80 = .ok (.iload 4, 2) := by decide +kernel
theorem dX6_laysFirst_82 : decode cX6_laysFirst 82 = .ok (.invokestatic 183, 3) := by decide +kernel
theorem dX6_laysFirst_85 : decode cX6_laysFirst 85 = .ok (.ifCond .eq 64, 3) := by decide +kernel
theorem dX6_laysFirst_88 : decode cX6_laysFirst 88 = .ok (.aload_n 0, 1) := by decide +kernel
theorem dX6_laysFirst_89 : decode cX6_laysFirst 89 = .ok (.iload_n 3, 1) := by decide +kernel
theorem dX6_laysFirst_90 : decode cX6_laysFirst 90 = .ok (.iload 4, 2) := by decide +kernel
theorem dX6_laysFirst_92 : decode cX6_laysFirst 92 = .ok (.invokevirtual 203, 3) := by decide +kernel
theorem dX6_laysFirst_95 : decode cX6_laysFirst 95 = .ok (.iconst (-1), 1) := by decide +kernel
theorem dX6_laysFirst_96 : decode cX6_laysFirst 96 = .ok (.if_icmp .eq 53, 3) := by decide +kernel
theorem dX6_laysFirst_99 : decode cX6_laysFirst 99 = .ok (.aload_n 0, 1) := by decide +kernel
theorem dX6_laysFirst_100 : decode cX6_laysFirst 100 = .ok (.getfield 34, 3) := by decide +kernel
theorem dX6_laysFirst_103 : decode cX6_laysFirst 103 = .ok (.iload_n 1, 1) := by decide +kernel
theorem dX6_laysFirst_104 : decode cX6_laysFirst 104 = .ok (.iconst 1, 1) := by decide +kernel
theorem dX6_laysFirst_105 : decode cX6_laysFirst 105 = .ok (.iload 4, 2) := by decide +kernel
theorem dX6_laysFirst_107 : decode cX6_laysFirst 107 = .ok (.ishl, 1) := by decide +kernel
theorem dX6_laysFirst_108 : decode cX6_laysFirst 108 = .ok (.iconst (-1), 1) := by decide +kernel
theorem dX6_laysFirst_109 : decode cX6_laysFirst 109 = .ok (.ixor, 1) := by decide +kernel
theorem dX6_laysFirst_110 : decode cX6_laysFirst 110 = .ok (.iand, 1) := by decide +kernel
theorem dX6_laysFirst_111 : decode cX6_laysFirst 111 = .ok (.iaload, 1) := by decide +kernel
theorem dX6_laysFirst_112 : decode cX6_laysFirst 112 = .ok (.iconst 1, 1) := by decide +kernel
theorem dX6_laysFirst_113 : decode cX6_laysFirst 113 = .ok (.iadd, 1) := by decide +kernel
theorem dX6_laysFirst_114 : decode cX6_laysFirst 114 = .ok (.iload_n 2, 1) := by decide +kernel
theorem dX6_laysFirst_115 : decode cX6_laysFirst 115 = .ok (.if_icmp .eq 6, 3) := by decide +kernel
theorem dX6_laysFirst_118 : decode cX6_laysFirst 118 = .ok (.goto 31, 3) := by decide +kernel
theorem dX6_laysFirst_121 : decode cX6_laysFirst 121 = .ok (.aload_n 0, 1) := by decide +kernel
theorem dX6_laysFirst_122 : decode cX6_laysFirst 122 = .ok (.getfield 47, 3) := by decide +kernel
theorem dX6_laysFirst_125 : decode cX6_laysFirst 125 = .ok (.iload_n 3, 1) := by decide +kernel
theorem dX6_laysFirst_126 : decode cX6_laysFirst 126 = .ok (.iload 4, 2) := by decide +kernel
theorem dX6_laysFirst_128 : decode cX6_laysFirst 128 = .ok (.iastore, 1) := by decide +kernel
theorem dX6_laysFirst_129 : decode cX6_laysFirst 129 = .ok (.aload_n 0, 1) := by decide +kernel
theorem dX6_laysFirst_130 : decode cX6_laysFirst 130 = .ok (.getfield 47, 3) := by decide +kernel
theorem dX6_laysFirst_133 : decode cX6_laysFirst 133 = .ok (.iload 4, 2) := by decide +kernel
theorem dX6_laysFirst_135 : decode cX6_laysFirst 135 = .ok (.iload_n 3, 1) := by decide +kernel
theorem dX6_laysFirst_136 : decode cX6_laysFirst 136 = .ok (.iastore, 1) := by decide +kernel
theorem dX6_laysFirst_137 : decode cX6_laysFirst 137 = .ok (.iload_n 1, 1) := by decide +kernel
theorem dX6_laysFirst_138 : decode cX6_laysFirst 138 = .ok (.iconst 1, 1) := by decide +kernel
theorem dX6_laysFirst_139 : decode cX6_laysFirst 139 = .ok (.iload 4, 2) := by decide +kernel
theorem dX6_laysFirst_141 : decode cX6_laysFirst 141 = .ok (.ishl, 1) := by decide +kernel
theorem dX6_laysFirst_142 : decode cX6_laysFirst 142 = .ok (.iconst (-1), 1) := by decide +kernel
theorem dX6_laysFirst_143 : decode cX6_laysFirst 143 = .ok (.ixor, 1) := by decide +kernel
theorem dX6_laysFirst_144 : decode cX6_laysFirst 144 = .ok (.iand, 1) := by decide +kernel
theorem dX6_laysFirst_145 : decode cX6_laysFirst 145 = .ok (.istore_n 1, 1) := by decide +kernel
theorem dX6_laysFirst_146 : decode cX6_laysFirst 146 = .ok (.iinc 2 (-1), 3) := by decide +kernel
theorem dX6_laysFirst_149 : decode cX6_laysFirst 149 = .ok (.iinc 4 1, 3) := by decide +kernel
theorem dX6_laysFirst_152 : decode cX6_laysFirst 152 = .ok (.goto (-92), 3) := by decide +kernel
theorem dX6_laysFirst_155 : decode cX6_laysFirst 155 = .ok (.iinc 3 1, 3) := by decide +kernel
theorem dX6_laysFirst_158 : decode cX6_laysFirst 158 = .ok (.goto (-137), 3) := by decide +kernel
theorem dX6_laysFirst_161 : decode cX6_laysFirst 161 = .ok (.return_, 1) := by decide +kernel
theorem dX6_missed_0 : decode cX6_missed 0 = .ok (.aload_n 0, 1) := by decide +kernel
theorem dX6_missed_1 : decode cX6_missed 1 = .ok (.invokevirtual 209, 3) := by decide +kernel
theorem dX6_missed_4 : decode cX6_missed 4 = .ok (.iconst 0, 1) := by decide +kernel
theorem dX6_missed_5 : decode cX6_missed 5 = .ok (.istore_n 1, 1) := by decide +kernel
theorem dX6_missed_6 : decode cX6_missed 6 = .ok (.iconst 0, 1) := by decide +kernel
theorem dX6_missed_7 : decode cX6_missed 7 = .ok (.istore_n 2, 1) := by decide +kernel
theorem dX6_missed_8 : decode cX6_missed 8 = .ok (.iload_n 2, 1) := by decide +kernel
theorem dX6_missed_9 : decode cX6_missed 9 = .ok (.aload_n 0, 1) := by decide +kernel
theorem dX6_missed_10 : decode cX6_missed 10 = .ok (.invokevirtual 181, 3) := by decide +kernel
theorem dX6_missed_13 : decode cX6_missed 13 = .ok (.if_icmp .ge 46, 3) := by decide +kernel
theorem dX6_missed_16 : decode cX6_missed 16 = .ok (.iload_n 1, 1) := by decide +kernel
theorem dX6_missed_17 : decode cX6_missed 17 = .ok (.aload_n 0, 1) := by decide +kernel
theorem dX6_missed_18 : decode cX6_missed 18 = .ok (.getfield 34, 3) := by decide +kernel
theorem dX6_missed_21 : decode cX6_missed 21 = .ok (.aload_n 0, 1) := by decide +kernel
theorem dX6_missed_22 : decode cX6_missed 22 = .ok (.invokevirtual 194, 3) := by decide +kernel
theorem dX6_missed_25 : decode cX6_missed 25 = .ok (.iconst 1, 1) := by decide +kernel
theorem dX6_missed_26 : decode cX6_missed 26 = .ok (.iload_n 2, 1) := by decide +kernel
theorem dX6_missed_27 : decode cX6_missed 27 = .ok (.ishl, 1) := by decide +kernel
theorem dX6_missed_28 : decode cX6_missed 28 = .ok (.iconst (-1), 1) := by decide +kernel
theorem dX6_missed_29 : decode cX6_missed 29 = .ok (.ixor, 1) := by decide +kernel
theorem dX6_missed_30 : decode cX6_missed 30 = .ok (.iand, 1) := by decide +kernel
theorem dX6_missed_31 : decode cX6_missed 31 = .ok (.iaload, 1) := by decide +kernel
theorem dX6_missed_32 : decode cX6_missed 32 = .ok (.aload_n 0, 1) := by decide +kernel
theorem dX6_missed_33 : decode cX6_missed 33 = .ok (.getfield 34, 3) := by decide +kernel
theorem dX6_missed_36 : decode cX6_missed 36 = .ok (.aload_n 0, 1) := by decide +kernel
theorem dX6_missed_37 : decode cX6_missed 37 = .ok (.invokevirtual 194, 3) := by decide +kernel
theorem dX6_missed_40 : decode cX6_missed 40 = .ok (.iaload, 1) := by decide +kernel
theorem dX6_missed_41 : decode cX6_missed 41 = .ok (.if_icmp .ne 9, 3) := by decide +kernel
theorem dX6_missed_44 : decode cX6_missed 44 = .ok (.iconst 1, 1) := by decide +kernel
theorem dX6_missed_45 : decode cX6_missed 45 = .ok (.iload_n 2, 1) := by decide +kernel
theorem dX6_missed_46 : decode cX6_missed 46 = .ok (.ishl, 1) := by decide +kernel
theorem dX6_missed_47 : decode cX6_missed 47 = .ok (.goto 4, 3) := by decide +kernel
theorem dX6_missed_50 : decode cX6_missed 50 = .ok (.iconst 0, 1) := by decide +kernel
theorem dX6_missed_51 : decode cX6_missed 51 = .ok (.ior, 1) := by decide +kernel
theorem dX6_missed_52 : decode cX6_missed 52 = .ok (.istore_n 1, 1) := by decide +kernel
theorem dX6_missed_53 : decode cX6_missed 53 = .ok (.iinc 2 1, 3) := by decide +kernel
theorem dX6_missed_56 : decode cX6_missed 56 = .ok (.goto (-48), 3) := by decide +kernel
theorem dX6_missed_59 : decode cX6_missed 59 = .ok (.iload_n 1, 1) := by decide +kernel
theorem dX6_missed_60 : decode cX6_missed 60 = .ok (.ireturn, 1) := by decide +kernel
theorem dX6_beside_0 : decode cX6_beside 0 = .ok (.iconst 0, 1) := by decide +kernel
theorem dX6_beside_1 : decode cX6_beside 1 = .ok (.istore_n 2, 1) := by decide +kernel
theorem dX6_beside_2 : decode cX6_beside 2 = .ok (.iconst 0, 1) := by decide +kernel
theorem dX6_beside_3 : decode cX6_beside 3 = .ok (.istore_n 3, 1) := by decide +kernel
theorem dX6_beside_4 : decode cX6_beside 4 = .ok (.iload_n 3, 1) := by decide +kernel
theorem dX6_beside_5 : decode cX6_beside 5 = .ok (.aload_n 0, 1) := by decide +kernel
theorem dX6_beside_6 : decode cX6_beside 6 = .ok (.invokevirtual 181, 3) := by decide +kernel
theorem dX6_beside_9 : decode cX6_beside 9 = .ok (.if_icmp .ge 61, 3) := by decide +kernel
theorem dX6_beside_12 : decode cX6_beside 12 = .ok (.iconst 0, 1) := by decide +kernel
theorem dX6_beside_13 : decode cX6_beside 13 = .ok (.istore 4, 2) := by decide +kernel
theorem dX6_beside_15 : decode cX6_beside 15 = .ok (.iload 4, 2) := by decide +kernel
theorem dX6_beside_17 : decode cX6_beside 17 = .ok (.aload_n 0, 1) := by decide +kernel
theorem dX6_beside_18 : decode cX6_beside 18 = .ok (.invokevirtual 181, 3) := by decide +kernel
theorem dX6_beside_21 : decode cX6_beside 21 = .ok (.if_icmp .ge 43, 3) := by decide +kernel
theorem dX6_beside_24 : decode cX6_beside 24 = .ok (.iload_n 1, 1) := by decide +kernel
theorem dX6_beside_25 : decode cX6_beside 25 = .ok (.iload_n 3, 1) := by decide +kernel
theorem dX6_beside_26 : decode cX6_beside 26 = .ok (.invokestatic 183, 3) := by decide +kernel
theorem dX6_beside_29 : decode cX6_beside 29 = .ok (.ifCond .ne 29, 3) := by decide +kernel
theorem dX6_beside_32 : decode cX6_beside 32 = .ok (.iload_n 1, 1) := by decide +kernel
theorem dX6_beside_33 : decode cX6_beside 33 = .ok (.iload 4, 2) := by decide +kernel
theorem dX6_beside_35 : decode cX6_beside 35 = .ok (.invokestatic 183, 3) := by decide +kernel
theorem dX6_beside_38 : decode cX6_beside 38 = .ok (.ifCond .eq 20, 3) := by decide +kernel
theorem dX6_beside_41 : decode cX6_beside 41 = .ok (.aload_n 0, 1) := by decide +kernel
theorem dX6_beside_42 : decode cX6_beside 42 = .ok (.iload_n 3, 1) := by decide +kernel
theorem dX6_beside_43 : decode cX6_beside 43 = .ok (.iload 4, 2) := by decide +kernel
theorem dX6_beside_45 : decode cX6_beside 45 = .ok (.invokevirtual 203, 3) := by decide +kernel
theorem dX6_beside_48 : decode cX6_beside 48 = .ok (.iconst (-1), 1) := by decide +kernel
theorem dX6_beside_49 : decode cX6_beside 49 = .ok (.if_icmp .eq 9, 3) := by decide +kernel
theorem dX6_beside_52 : decode cX6_beside 52 = .ok (.iload_n 2, 1) := by decide +kernel
theorem dX6_beside_53 : decode cX6_beside 53 = .ok (.iconst 1, 1) := by decide +kernel
theorem dX6_beside_54 : decode cX6_beside 54 = .ok (.iload_n 3, 1) := by decide +kernel
theorem dX6_beside_55 : decode cX6_beside 55 = .ok (.ishl, 1) := by decide +kernel
theorem dX6_beside_56 : decode cX6_beside 56 = .ok (.ior, 1) := by decide +kernel
theorem dX6_beside_57 : decode cX6_beside 57 = .ok (.istore_n 2, 1) := by decide +kernel
theorem dX6_beside_58 : decode cX6_beside 58 = .ok (.iinc 4 1, 3) := by decide +kernel
theorem dX6_beside_61 : decode cX6_beside 61 = .ok (.goto (-46), 3) := by decide +kernel
theorem dX6_beside_64 : decode cX6_beside 64 = .ok (.iinc 3 1, 3) := by decide +kernel
theorem dX6_beside_67 : decode cX6_beside 67 = .ok (.goto (-63), 3) := by decide +kernel
theorem dX6_beside_70 : decode cX6_beside 70 = .ok (.iload_n 2, 1) := by decide +kernel
theorem dX6_beside_71 : decode cX6_beside 71 = .ok (.ireturn, 1) := by decide +kernel
theorem dX6_setOf_0 : decode cX6_setOf 0 = .ok (.aload_n 0, 1) := by decide +kernel
theorem dX6_setOf_1 : decode cX6_setOf 1 = .ok (.invokevirtual 212, 3) := by decide +kernel
theorem dX6_setOf_4 : decode cX6_setOf 4 = .ok (.istore_n 2, 1) := by decide +kernel
theorem dX6_setOf_5 : decode cX6_setOf 5 = .ok (.aload_n 0, 1) := by decide +kernel
theorem dX6_setOf_6 : decode cX6_setOf 6 = .ok (.iload_n 2, 1) := by decide +kernel
theorem dX6_setOf_7 : decode cX6_setOf 7 = .ok (.invokevirtual 215, 3) := by decide +kernel
theorem dX6_setOf_10 : decode cX6_setOf 10 = .ok (.istore_n 3, 1) := by decide +kernel
theorem dX6_setOf_11 : decode cX6_setOf 11 = .ok (.iload_n 1, 1) := by decide +kernel
theorem dX6_setOf_12 : decode cX6_setOf 12 = .ok (.ifCond .ne 7, 3) := by decide +kernel
theorem dX6_setOf_15 : decode cX6_setOf 15 = .ok (.iload_n 2, 1) := by decide +kernel
theorem dX6_setOf_16 : decode cX6_setOf 16 = .ok (.goto 24, 3) := by decide +kernel
theorem dX6_setOf_19 : decode cX6_setOf 19 = .ok (.iload_n 1, 1) := by decide +kernel
theorem dX6_setOf_20 : decode cX6_setOf 20 = .ok (.iconst 1, 1) := by decide +kernel
theorem dX6_setOf_21 : decode cX6_setOf 21 = .ok (.if_icmp .ne 7, 3) := by decide +kernel
theorem dX6_setOf_24 : decode cX6_setOf 24 = .ok (.iload_n 3, 1) := by decide +kernel
theorem dX6_setOf_25 : decode cX6_setOf 25 = .ok (.goto 15, 3) := by decide +kernel
theorem dX6_setOf_28 : decode cX6_setOf 28 = .ok (.aload_n 0, 1) := by decide +kernel
theorem dX6_setOf_29 : decode cX6_setOf 29 = .ok (.invokevirtual 194, 3) := by decide +kernel
theorem dX6_setOf_32 : decode cX6_setOf 32 = .ok (.iload_n 2, 1) := by decide +kernel
theorem dX6_setOf_33 : decode cX6_setOf 33 = .ok (.iconst (-1), 1) := by decide +kernel
theorem dX6_setOf_34 : decode cX6_setOf 34 = .ok (.ixor, 1) := by decide +kernel
theorem dX6_setOf_35 : decode cX6_setOf 35 = .ok (.iand, 1) := by decide +kernel
theorem dX6_setOf_36 : decode cX6_setOf 36 = .ok (.iload_n 3, 1) := by decide +kernel
theorem dX6_setOf_37 : decode cX6_setOf 37 = .ok (.iconst (-1), 1) := by decide +kernel
theorem dX6_setOf_38 : decode cX6_setOf 38 = .ok (.ixor, 1) := by decide +kernel
theorem dX6_setOf_39 : decode cX6_setOf 39 = .ok (.iand, 1) := by decide +kernel
theorem dX6_setOf_40 : decode cX6_setOf 40 = .ok (.ireturn, 1) := by decide +kernel
theorem dX6_partOf_0 : decode cX6_partOf 0 = .ok (.iconst 1, 1) := by decide +kernel
theorem dX6_partOf_1 : decode cX6_partOf 1 = .ok (.iload_n 1, 1) := by decide +kernel
theorem dX6_partOf_2 : decode cX6_partOf 2 = .ok (.ishl, 1) := by decide +kernel
theorem dX6_partOf_3 : decode cX6_partOf 3 = .ok (.istore_n 3, 1) := by decide +kernel
theorem dX6_partOf_4 : decode cX6_partOf 4 = .ok (.iconst 0, 1) := by decide +kernel
theorem dX6_partOf_5 : decode cX6_partOf 5 = .ok (.istore 4, 2) := by decide +kernel
theorem dX6_partOf_7 : decode cX6_partOf 7 = .ok (.iload_n 3, 1) := by decide +kernel
theorem dX6_partOf_8 : decode cX6_partOf 8 = .ok (.iload 4, 2) := by decide +kernel
theorem dX6_partOf_10 : decode cX6_partOf 10 = .ok (.if_icmp .eq 83, 3) := by decide +kernel
theorem dX6_partOf_13 : decode cX6_partOf 13 = .ok (.iload_n 3, 1) := by decide +kernel
theorem dX6_partOf_14 : decode cX6_partOf 14 = .ok (.istore 4, 2) := by decide +kernel
theorem dX6_partOf_16 : decode cX6_partOf 16 = .ok (.iconst 0, 1) := by decide +kernel
theorem dX6_partOf_17 : decode cX6_partOf 17 = .ok (.istore 5, 2) := by decide +kernel
theorem dX6_partOf_19 : decode cX6_partOf 19 = .ok (.iload 5, 2) := by decide +kernel
theorem dX6_partOf_21 : decode cX6_partOf 21 = .ok (.aload_n 0, 1) := by decide +kernel
theorem dX6_partOf_22 : decode cX6_partOf 22 = .ok (.invokevirtual 181, 3) := by decide +kernel
theorem dX6_partOf_25 : decode cX6_partOf 25 = .ok (.if_icmp .ge 65, 3) := by decide +kernel
theorem dX6_partOf_28 : decode cX6_partOf 28 = .ok (.iconst 0, 1) := by decide +kernel
theorem dX6_partOf_29 : decode cX6_partOf 29 = .ok (.istore 6, 2) := by decide +kernel
theorem dX6_partOf_31 : decode cX6_partOf 31 = .ok (.iload 6, 2) := by decide +kernel
theorem dX6_partOf_33 : decode cX6_partOf 33 = .ok (.aload_n 0, 1) := by decide +kernel
theorem dX6_partOf_34 : decode cX6_partOf 34 = .ok (.invokevirtual 181, 3) := by decide +kernel
theorem dX6_partOf_37 : decode cX6_partOf 37 = .ok (.if_icmp .ge 47, 3) := by decide +kernel
theorem dX6_partOf_40 : decode cX6_partOf 40 = .ok (.iload 4, 2) := by decide +kernel
theorem dX6_partOf_42 : decode cX6_partOf 42 = .ok (.iload 5, 2) := by decide +kernel
theorem dX6_partOf_44 : decode cX6_partOf 44 = .ok (.invokestatic 183, 3) := by decide +kernel
theorem dX6_partOf_47 : decode cX6_partOf 47 = .ok (.ifCond .eq 37, 3) := by decide +kernel
theorem dX6_partOf_50 : decode cX6_partOf 50 = .ok (.iload_n 2, 1) := by decide +kernel
theorem dX6_partOf_51 : decode cX6_partOf 51 = .ok (.iload 6, 2) := by decide +kernel
theorem dX6_partOf_53 : decode cX6_partOf 53 = .ok (.invokestatic 183, 3) := by decide +kernel
theorem dX6_partOf_56 : decode cX6_partOf 56 = .ok (.ifCond .eq 22, 3) := by decide +kernel
theorem dX6_partOf_59 : decode cX6_partOf 59 = .ok (.aload_n 0, 1) := by decide +kernel
theorem dX6_partOf_60 : decode cX6_partOf 60 = .ok (.iload 5, 2) := by decide +kernel
theorem dX6_partOf_62 : decode cX6_partOf 62 = .ok (.iload 6, 2) := by decide +kernel
theorem dX6_partOf_64 : decode cX6_partOf 64 = .ok (.invokevirtual 203, 3) := by decide +kernel
theorem dX6_partOf_67 : decode cX6_partOf 67 = .ok (.iconst (-1), 1) := by decide +kernel
theorem dX6_partOf_68 : decode cX6_partOf 68 = .ok (.if_icmp .eq 10, 3) := by decide +kernel
theorem dX6_partOf_71 : decode cX6_partOf 71 = .ok (.iload_n 3, 1) := by decide +kernel
theorem dX6_partOf_72 : decode cX6_partOf 72 = .ok (.iconst 1, 1) := by decide +kernel
theorem dX6_partOf_73 : decode cX6_partOf 73 = .ok (.iload 6, 2) := by decide +kernel
theorem dX6_partOf_75 : decode cX6_partOf 75 = .ok (.ishl, 1) := by decide +kernel
theorem dX6_partOf_76 : decode cX6_partOf 76 = .ok (.ior, 1) := by decide +kernel
theorem dX6_partOf_77 : decode cX6_partOf 77 = .ok (.istore_n 3, 1) := by decide +kernel
theorem dX6_partOf_78 : decode cX6_partOf 78 = .ok (.iinc 6 1, 3) := by decide +kernel
theorem dX6_partOf_81 : decode cX6_partOf 81 = .ok (.goto (-50), 3) := by decide +kernel
theorem dX6_partOf_84 : decode cX6_partOf 84 = .ok (.iinc 5 1, 3) := by decide +kernel
theorem dX6_partOf_87 : decode cX6_partOf 87 = .ok (.goto (-68), 3) := by decide +kernel
theorem dX6_partOf_90 : decode cX6_partOf 90 = .ok (.goto (-83), 3) := by decide +kernel
theorem dX6_partOf_93 : decode cX6_partOf 93 = .ok (.iload_n 3, 1) := by decide +kernel
theorem dX6_partOf_94 : decode cX6_partOf 94 = .ok (.ireturn, 1) := by decide +kernel
theorem dX6_oddOf_0 : decode cX6_oddOf 0 = .ok (.aload_n 0, 1) := by decide +kernel
theorem dX6_oddOf_1 : decode cX6_oddOf 1 = .ok (.invokevirtual 194, 3) := by decide +kernel
theorem dX6_oddOf_4 : decode cX6_oddOf 4 = .ok (.iload_n 1, 1) := by decide +kernel
theorem dX6_oddOf_5 : decode cX6_oddOf 5 = .ok (.iconst (-1), 1) := by decide +kernel
theorem dX6_oddOf_6 : decode cX6_oddOf 6 = .ok (.ixor, 1) := by decide +kernel
theorem dX6_oddOf_7 : decode cX6_oddOf 7 = .ok (.iand, 1) := by decide +kernel
theorem dX6_oddOf_8 : decode cX6_oddOf 8 = .ok (.istore_n 2, 1) := by decide +kernel
theorem dX6_oddOf_9 : decode cX6_oddOf 9 = .ok (.iconst 0, 1) := by decide +kernel
theorem dX6_oddOf_10 : decode cX6_oddOf 10 = .ok (.istore_n 3, 1) := by decide +kernel
theorem dX6_oddOf_11 : decode cX6_oddOf 11 = .ok (.iload_n 2, 1) := by decide +kernel
theorem dX6_oddOf_12 : decode cX6_oddOf 12 = .ok (.ifCond .eq 34, 3) := by decide +kernel
theorem dX6_oddOf_15 : decode cX6_oddOf 15 = .ok (.aload_n 0, 1) := by decide +kernel
theorem dX6_oddOf_16 : decode cX6_oddOf 16 = .ok (.iload_n 2, 1) := by decide +kernel
theorem dX6_oddOf_17 : decode cX6_oddOf 17 = .ok (.invokestatic 196, 3) := by decide +kernel
theorem dX6_oddOf_20 : decode cX6_oddOf 20 = .ok (.iload_n 2, 1) := by decide +kernel
theorem dX6_oddOf_21 : decode cX6_oddOf 21 = .ok (.invokevirtual 218, 3) := by decide +kernel
theorem dX6_oddOf_24 : decode cX6_oddOf 24 = .ok (.istore 4, 2) := by decide +kernel
theorem dX6_oddOf_26 : decode cX6_oddOf 26 = .ok (.iload_n 3, 1) := by decide +kernel
theorem dX6_oddOf_27 : decode cX6_oddOf 27 = .ok (.iload 4, 2) := by decide +kernel
theorem dX6_oddOf_29 : decode cX6_oddOf 29 = .ok (.invokestatic 221, 3) := by decide +kernel
theorem dX6_oddOf_32 : decode cX6_oddOf 32 = .ok (.iconst 2, 1) := by decide +kernel
theorem dX6_oddOf_33 : decode cX6_oddOf 33 = .ok (.irem, 1) := by decide +kernel
theorem dX6_oddOf_34 : decode cX6_oddOf 34 = .ok (.iadd, 1) := by decide +kernel
theorem dX6_oddOf_35 : decode cX6_oddOf 35 = .ok (.istore_n 3, 1) := by decide +kernel
theorem dX6_oddOf_36 : decode cX6_oddOf 36 = .ok (.iload_n 2, 1) := by decide +kernel
theorem dX6_oddOf_37 : decode cX6_oddOf 37 = .ok (.iload 4, 2) := by decide +kernel
theorem dX6_oddOf_39 : decode cX6_oddOf 39 = .ok (.iconst (-1), 1) := by decide +kernel
theorem dX6_oddOf_40 : decode cX6_oddOf 40 = .ok (.ixor, 1) := by decide +kernel
theorem dX6_oddOf_41 : decode cX6_oddOf 41 = .ok (.iand, 1) := by decide +kernel
theorem dX6_oddOf_42 : decode cX6_oddOf 42 = .ok (.istore_n 2, 1) := by decide +kernel
theorem dX6_oddOf_43 : decode cX6_oddOf 43 = .ok (.goto (-32), 3) := by decide +kernel
theorem dX6_oddOf_46 : decode cX6_oddOf 46 = .ok (.iload_n 3, 1) := by decide +kernel
theorem dX6_oddOf_47 : decode cX6_oddOf 47 = .ok (.ireturn, 1) := by decide +kernel
theorem dX6_goes_0 : decode cX6_goes 0 = .ok (.aload_n 0, 1) := by decide +kernel
theorem dX6_goes_1 : decode cX6_goes 1 = .ok (.getfield 51, 3) := by decide +kernel
theorem dX6_goes_4 : decode cX6_goes 4 = .ok (.bipush 12, 2) := by decide +kernel
theorem dX6_goes_6 : decode cX6_goes 6 = .ok (.iload_n 1, 1) := by decide +kernel
theorem dX6_goes_7 : decode cX6_goes 7 = .ok (.imul, 1) := by decide +kernel
theorem dX6_goes_8 : decode cX6_goes 8 = .ok (.iload_n 2, 1) := by decide +kernel
theorem dX6_goes_9 : decode cX6_goes 9 = .ok (.iadd, 1) := by decide +kernel
theorem dX6_goes_10 : decode cX6_goes 10 = .ok (.baload, 1) := by decide +kernel
theorem dX6_goes_11 : decode cX6_goes 11 = .ok (.ifCond .eq 4, 3) := by decide +kernel
theorem dX6_goes_14 : decode cX6_goes 14 = .ok (.return_, 1) := by decide +kernel
theorem dX6_goes_15 : decode cX6_goes 15 = .ok (.aload_n 0, 1) := by decide +kernel
theorem dX6_goes_16 : decode cX6_goes 16 = .ok (.getfield 51, 3) := by decide +kernel
theorem dX6_goes_19 : decode cX6_goes 19 = .ok (.bipush 12, 2) := by decide +kernel
theorem dX6_goes_21 : decode cX6_goes 21 = .ok (.iload_n 1, 1) := by decide +kernel
theorem dX6_goes_22 : decode cX6_goes 22 = .ok (.imul, 1) := by decide +kernel
theorem dX6_goes_23 : decode cX6_goes 23 = .ok (.iload_n 2, 1) := by decide +kernel
theorem dX6_goes_24 : decode cX6_goes 24 = .ok (.iadd, 1) := by decide +kernel
theorem dX6_goes_25 : decode cX6_goes 25 = .ok (.iconst 1, 1) := by decide +kernel
theorem dX6_goes_26 : decode cX6_goes 26 = .ok (.bastore, 1) := by decide +kernel
theorem dX6_goes_27 : decode cX6_goes 27 = .ok (.iload_n 1, 1) := by decide +kernel
theorem dX6_goes_28 : decode cX6_goes 28 = .ok (.invokestatic 221, 3) := by decide +kernel
theorem dX6_goes_31 : decode cX6_goes 31 = .ok (.iconst 2, 1) := by decide +kernel
theorem dX6_goes_32 : decode cX6_goes 32 = .ok (.irem, 1) := by decide +kernel
theorem dX6_goes_33 : decode cX6_goes 33 = .ok (.iconst 1, 1) := by decide +kernel
theorem dX6_goes_34 : decode cX6_goes 34 = .ok (.if_icmp .ne 7, 3) := by decide +kernel
theorem dX6_goes_37 : decode cX6_goes 37 = .ok (.iconst 1, 1) := by decide +kernel
theorem dX6_goes_38 : decode cX6_goes 38 = .ok (.goto 4, 3) := by decide +kernel
theorem dX6_goes_41 : decode cX6_goes 41 = .ok (.iconst 0, 1) := by decide +kernel
theorem dX6_goes_42 : decode cX6_goes 42 = .ok (.istore_n 3, 1) := by decide +kernel
theorem dX6_goes_43 : decode cX6_goes 43 = .ok (.iload_n 3, 1) := by decide +kernel
theorem dX6_goes_44 : decode cX6_goes 44 = .ok (.ifCond .eq 18, 3) := by decide +kernel
theorem dX6_goes_47 : decode cX6_goes 47 = .ok (.aload_n 0, 1) := by decide +kernel
theorem dX6_goes_48 : decode cX6_goes 48 = .ok (.dup, 1) := by decide +kernel
theorem dX6_goes_49 : decode cX6_goes 49 = .ok (.getfield 224, 3) := by decide +kernel
theorem dX6_goes_52 : decode cX6_goes 52 = .ok (.iconst 1, 1) := by decide +kernel
theorem dX6_goes_53 : decode cX6_goes 53 = .ok (.iload_n 2, 1) := by decide +kernel
theorem dX6_goes_54 : decode cX6_goes 54 = .ok (.ishl, 1) := by decide +kernel
theorem dX6_goes_55 : decode cX6_goes 55 = .ok (.ior, 1) := by decide +kernel
theorem dX6_goes_56 : decode cX6_goes 56 = .ok (.putfield 224, 3) := by decide +kernel
theorem dX6_goes_59 : decode cX6_goes 59 = .ok (.goto 15, 3) := by decide +kernel
theorem dX6_goes_62 : decode cX6_goes 62 = .ok (.aload_n 0, 1) := by decide +kernel
theorem dX6_goes_63 : decode cX6_goes 63 = .ok (.dup, 1) := by decide +kernel
theorem dX6_goes_64 : decode cX6_goes 64 = .ok (.getfield 227, 3) := by decide +kernel
theorem dX6_goes_67 : decode cX6_goes 67 = .ok (.iconst 1, 1) := by decide +kernel
theorem dX6_goes_68 : decode cX6_goes 68 = .ok (.iload_n 2, 1) := by decide +kernel
theorem dX6_goes_69 : decode cX6_goes 69 = .ok (.ishl, 1) := by decide +kernel
theorem dX6_goes_70 : decode cX6_goes 70 = .ok (.ior, 1) := by decide +kernel
theorem dX6_goes_71 : decode cX6_goes 71 = .ok (.putfield 227, 3) := by decide +kernel
theorem dX6_goes_74 : decode cX6_goes 74 = .ok (.iconst 0, 1) := by decide +kernel
theorem dX6_goes_75 : decode cX6_goes 75 = .ok (.istore 4, 2) := by decide +kernel
theorem dX6_goes_77 : decode cX6_goes 77 = .ok (.iload 4, 2) := by decide +kernel
theorem dX6_goes_79 : decode cX6_goes 79 = .ok (.aload_n 0, 1) := by decide +kernel
theorem dX6_goes_80 : decode cX6_goes 80 = .ok (.invokevirtual 181, 3) := by decide +kernel
theorem dX6_goes_83 : decode cX6_goes 83 = .ok (.if_icmp .ge 63, 3) := by decide +kernel
theorem dX6_goes_86 : decode cX6_goes 86 = .ok (.iload_n 1, 1) := by decide +kernel
theorem dX6_goes_87 : decode cX6_goes 87 = .ok (.iload 4, 2) := by decide +kernel
theorem dX6_goes_89 : decode cX6_goes 89 = .ok (.invokestatic 183, 3) := by decide +kernel
theorem dX6_goes_92 : decode cX6_goes 92 = .ok (.ifCond .ne 48, 3) := by decide +kernel
theorem dX6_goes_95 : decode cX6_goes 95 = .ok (.aload_n 0, 1) := by decide +kernel
theorem dX6_goes_96 : decode cX6_goes 96 = .ok (.iload_n 2, 1) := by decide +kernel
theorem dX6_goes_97 : decode cX6_goes 97 = .ok (.iload 4, 2) := by decide +kernel
theorem dX6_goes_99 : decode cX6_goes 99 = .ok (.invokevirtual 203, 3) := by decide +kernel
theorem dX6_goes_102 : decode cX6_goes 102 = .ok (.iconst (-1), 1) := by decide +kernel
theorem dX6_goes_103 : decode cX6_goes 103 = .ok (.if_icmp .eq 37, 3) := by decide +kernel
theorem dX6_goes_106 : decode cX6_goes 106 = .ok (.aload_n 0, 1) := by decide +kernel
theorem dX6_goes_107 : decode cX6_goes 107 = .ok (.iload_n 2, 1) := by decide +kernel
theorem dX6_goes_108 : decode cX6_goes 108 = .ok (.invokevirtual 206, 3) := by decide +kernel
theorem dX6_goes_111 : decode cX6_goes 111 = .ok (.iload 4, 2) := by decide +kernel
theorem dX6_goes_113 : decode cX6_goes 113 = .ok (.if_icmp .ne 7, 3) := by decide +kernel
theorem dX6_goes_116 : decode cX6_goes 116 = .ok (.iconst 1, 1) := by decide +kernel
theorem dX6_goes_117 : decode cX6_goes 117 = .ok (.goto 4, 3) := by decide +kernel
theorem dX6_goes_120 : decode cX6_goes 120 = .ok (.iconst 0, 1) := by decide +kernel
theorem dX6_goes_121 : decode cX6_goes 121 = .ok (.iload_n 3, 1) := by decide +kernel
theorem dX6_goes_122 : decode cX6_goes 122 = .ok (.if_icmp .ne 6, 3) := by decide +kernel
theorem dX6_goes_125 : decode cX6_goes 125 = .ok (.goto 15, 3) := by decide +kernel
theorem dX6_goes_128 : decode cX6_goes 128 = .ok (.aload_n 0, 1) := by decide +kernel
theorem dX6_goes_129 : decode cX6_goes 129 = .ok (.iload_n 1, 1) := by decide +kernel
theorem dX6_goes_130 : decode cX6_goes 130 = .ok (.iconst 1, 1) := by decide +kernel
theorem dX6_goes_131 : decode cX6_goes 131 = .ok (.iload 4, 2) := by decide +kernel
theorem dX6_goes_133 : decode cX6_goes 133 = .ok (.ishl, 1) := by decide +kernel
theorem dX6_goes_134 : decode cX6_goes 134 = .ok (.ior, 1) := by decide +kernel
theorem dX6_goes_135 : decode cX6_goes 135 = .ok (.iload 4, 2) := by decide +kernel
theorem dX6_goes_137 : decode cX6_goes 137 = .ok (.invokevirtual 230, 3) := by decide +kernel
theorem dX6_goes_140 : decode cX6_goes 140 = .ok (.iinc 4 1, 3) := by decide +kernel
theorem dX6_goes_143 : decode cX6_goes 143 = .ok (.goto (-66), 3) := by decide +kernel
theorem dX6_goes_146 : decode cX6_goes 146 = .ok (.return_, 1) := by decide +kernel
theorem dX6_labels_0 : decode cX6_labels 0 = .ok (.iconst 0, 1) := by decide +kernel
theorem dX6_labels_1 : decode cX6_labels 1 = .ok (.istore_n 1, 1) := by decide +kernel
theorem dX6_labels_2 : decode cX6_labels 2 = .ok (.iload_n 1, 1) := by decide +kernel
theorem dX6_labels_3 : decode cX6_labels 3 = .ok (.aload_n 0, 1) := by decide +kernel
theorem dX6_labels_4 : decode cX6_labels 4 = .ok (.getfield 51, 3) := by decide +kernel
theorem dX6_labels_7 : decode cX6_labels 7 = .ok (.arraylength, 1) := by decide +kernel
theorem dX6_labels_8 : decode cX6_labels 8 = .ok (.if_icmp .ge 16, 3) := by decide +kernel
theorem dX6_labels_11 : decode cX6_labels 11 = .ok (.aload_n 0, 1) := by decide +kernel
theorem dX6_labels_12 : decode cX6_labels 12 = .ok (.getfield 51, 3) := by decide +kernel
theorem dX6_labels_15 : decode cX6_labels 15 = .ok (.iload_n 1, 1) := by decide +kernel
theorem dX6_labels_16 : decode cX6_labels 16 = .ok (.iconst 0, 1) := by decide +kernel
theorem dX6_labels_17 : decode cX6_labels 17 = .ok (.bastore, 1) := by decide +kernel
theorem dX6_labels_18 : decode cX6_labels 18 = .ok (.iinc 1 1, 3) := by decide +kernel
theorem dX6_labels_21 : decode cX6_labels 21 = .ok (.goto (-19), 3) := by decide +kernel
theorem dX6_labels_24 : decode cX6_labels 24 = .ok (.aload_n 0, 1) := by decide +kernel
theorem dX6_labels_25 : decode cX6_labels 25 = .ok (.iconst 0, 1) := by decide +kernel
theorem dX6_labels_26 : decode cX6_labels 26 = .ok (.putfield 224, 3) := by decide +kernel
theorem dX6_labels_29 : decode cX6_labels 29 = .ok (.aload_n 0, 1) := by decide +kernel
theorem dX6_labels_30 : decode cX6_labels 30 = .ok (.iconst 0, 1) := by decide +kernel
theorem dX6_labels_31 : decode cX6_labels 31 = .ok (.putfield 227, 3) := by decide +kernel
theorem dX6_labels_34 : decode cX6_labels 34 = .ok (.iconst 0, 1) := by decide +kernel
theorem dX6_labels_35 : decode cX6_labels 35 = .ok (.istore_n 1, 1) := by decide +kernel
theorem dX6_labels_36 : decode cX6_labels 36 = .ok (.iload_n 1, 1) := by decide +kernel
theorem dX6_labels_37 : decode cX6_labels 37 = .ok (.aload_n 0, 1) := by decide +kernel
theorem dX6_labels_38 : decode cX6_labels 38 = .ok (.invokevirtual 181, 3) := by decide +kernel
theorem dX6_labels_41 : decode cX6_labels 41 = .ok (.if_icmp .ge 26, 3) := by decide +kernel
theorem dX6_labels_44 : decode cX6_labels 44 = .ok (.aload_n 0, 1) := by decide +kernel
theorem dX6_labels_45 : decode cX6_labels 45 = .ok (.iload_n 1, 1) := by decide +kernel
theorem dX6_labels_46 : decode cX6_labels 46 = .ok (.invokevirtual 206, 3) := by decide +kernel
theorem dX6_labels_49 : decode cX6_labels 49 = .ok (.iconst (-1), 1) := by decide +kernel
theorem dX6_labels_50 : decode cX6_labels 50 = .ok (.if_icmp .ne 11, 3) := by decide +kernel
theorem dX6_labels_53 : decode cX6_labels 53 = .ok (.aload_n 0, 1) := by decide +kernel
theorem dX6_labels_54 : decode cX6_labels 54 = .ok (.iconst 1, 1) := by decide +kernel
theorem dX6_labels_55 : decode cX6_labels 55 = .ok (.iload_n 1, 1) := by decide +kernel
theorem dX6_labels_56 : decode cX6_labels 56 = .ok (.ishl, 1) := by decide +kernel
theorem dX6_labels_57 : decode cX6_labels 57 = .ok (.iload_n 1, 1) := by decide +kernel
theorem dX6_labels_58 : decode cX6_labels 58 = .ok (.invokevirtual 230, 3) := by decide +kernel
theorem dX6_labels_61 : decode cX6_labels 61 = .ok (.iinc 1 1, 3) := by decide +kernel
theorem dX6_labels_64 : decode cX6_labels 64 = .ok (.goto (-28), 3) := by decide +kernel
theorem dX6_labels_67 : decode cX6_labels 67 = .ok (.aload_n 0, 1) := by decide +kernel
theorem dX6_labels_68 : decode cX6_labels 68 = .ok (.dup, 1) := by decide +kernel
theorem dX6_labels_69 : decode cX6_labels 69 = .ok (.getfield 227, 3) := by decide +kernel
theorem dX6_labels_72 : decode cX6_labels 72 = .ok (.aload_n 0, 1) := by decide +kernel
theorem dX6_labels_73 : decode cX6_labels 73 = .ok (.getfield 224, 3) := by decide +kernel
theorem dX6_labels_76 : decode cX6_labels 76 = .ok (.iconst (-1), 1) := by decide +kernel
theorem dX6_labels_77 : decode cX6_labels 77 = .ok (.ixor, 1) := by decide +kernel
theorem dX6_labels_78 : decode cX6_labels 78 = .ok (.iand, 1) := by decide +kernel
theorem dX6_labels_79 : decode cX6_labels 79 = .ok (.putfield 227, 3) := by decide +kernel
theorem dX6_labels_82 : decode cX6_labels 82 = .ok (.return_, 1) := by decide +kernel
theorem dX6_betters_0 : decode cX6_betters 0 = .ok (.aload_n 0, 1) := by decide +kernel
theorem dX6_betters_1 : decode cX6_betters 1 = .ok (.getfield 55, 3) := by decide +kernel
theorem dX6_betters_4 : decode cX6_betters 4 = .ok (.iload_n 1, 1) := by decide +kernel
theorem dX6_betters_5 : decode cX6_betters 5 = .ok (.iconst 1, 1) := by decide +kernel
theorem dX6_betters_6 : decode cX6_betters 6 = .ok (.isub, 1) := by decide +kernel
theorem dX6_betters_7 : decode cX6_betters 7 = .ok (.iaload, 1) := by decide +kernel
theorem dX6_betters_8 : decode cX6_betters 8 = .ok (.istore 4, 2) := by decide +kernel
theorem dX6_betters_10 : decode cX6_betters 10 = .ok (.iload_n 1, 1) := by decide +kernel
theorem dX6_betters_11 : decode cX6_betters 11 = .ok (.iload_n 2, 1) := by decide +kernel
theorem dX6_betters_12 : decode cX6_betters 12 = .ok (.if_icmp .ne 19, 3) := by decide +kernel
theorem dX6_betters_15 : decode cX6_betters 15 = .ok (.aload_n 0, 1) := by decide +kernel
theorem dX6_betters_16 : decode cX6_betters 16 = .ok (.iload 4, 2) := by decide +kernel
theorem dX6_betters_18 : decode cX6_betters 18 = .ok (.invokevirtual 206, 3) := by decide +kernel
theorem dX6_betters_21 : decode cX6_betters 21 = .ok (.iconst (-1), 1) := by decide +kernel
theorem dX6_betters_22 : decode cX6_betters 22 = .ok (.if_icmp .ne 7, 3) := by decide +kernel
theorem dX6_betters_25 : decode cX6_betters 25 = .ok (.iconst 1, 1) := by decide +kernel
theorem dX6_betters_26 : decode cX6_betters 26 = .ok (.goto 4, 3) := by decide +kernel
end
section
theorem dX6_betters_29 : decode cX6_betters 29 = .ok (.iconst 0, 1) := by decide +kernel
theorem dX6_betters_30 : decode cX6_betters 30 = .ok (.ireturn, 1) := by decide +kernel
theorem dX6_betters_31 : decode cX6_betters 31 = .ok (.iconst 0, 1) := by decide +kernel
theorem dX6_betters_32 : decode cX6_betters 32 = .ok (.istore 5, 2) := by decide +kernel
theorem dX6_betters_34 : decode cX6_betters 34 = .ok (.iload 5, 2) := by decide +kernel
theorem dX6_betters_36 : decode cX6_betters 36 = .ok (.aload_n 0, 1) := by decide +kernel
theorem dX6_betters_37 : decode cX6_betters 37 = .ok (.invokevirtual 181, 3) := by decide +kernel
theorem dX6_betters_40 : decode cX6_betters 40 = .ok (.if_icmp .ge 91, 3) := by decide +kernel
theorem dX6_betters_43 : decode cX6_betters 43 = .ok (.iload_n 3, 1) := by decide +kernel
theorem dX6_betters_44 : decode cX6_betters 44 = .ok (.iload 5, 2) := by decide +kernel
theorem dX6_betters_46 : decode cX6_betters 46 = .ok (.invokestatic 183, 3) := by decide +kernel
theorem dX6_betters_49 : decode cX6_betters 49 = .ok (.ifCond .ne 76, 3) := by decide +kernel
theorem dX6_betters_52 : decode cX6_betters 52 = .ok (.aload_n 0, 1) := by decide +kernel
theorem dX6_betters_53 : decode cX6_betters 53 = .ok (.iload 4, 2) := by decide +kernel
theorem dX6_betters_55 : decode cX6_betters 55 = .ok (.iload 5, 2) := by decide +kernel
theorem dX6_betters_57 : decode cX6_betters 57 = .ok (.invokevirtual 203, 3) := by decide +kernel
theorem dX6_betters_60 : decode cX6_betters 60 = .ok (.iconst (-1), 1) := by decide +kernel
theorem dX6_betters_61 : decode cX6_betters 61 = .ok (.if_icmp .eq 64, 3) := by decide +kernel
theorem dX6_betters_64 : decode cX6_betters 64 = .ok (.aload_n 0, 1) := by decide +kernel
theorem dX6_betters_65 : decode cX6_betters 65 = .ok (.iload 4, 2) := by decide +kernel
theorem dX6_betters_67 : decode cX6_betters 67 = .ok (.invokevirtual 206, 3) := by decide +kernel
theorem dX6_betters_70 : decode cX6_betters 70 = .ok (.iload 5, 2) := by decide +kernel
theorem dX6_betters_72 : decode cX6_betters 72 = .ok (.if_icmp .ne 7, 3) := by decide +kernel
theorem dX6_betters_75 : decode cX6_betters 75 = .ok (.iconst 1, 1) := by decide +kernel
theorem dX6_betters_76 : decode cX6_betters 76 = .ok (.goto 4, 3) := by decide +kernel
theorem dX6_betters_79 : decode cX6_betters 79 = .ok (.iconst 0, 1) := by decide +kernel
theorem dX6_betters_80 : decode cX6_betters 80 = .ok (.iload_n 1, 1) := by decide +kernel
theorem dX6_betters_81 : decode cX6_betters 81 = .ok (.iconst 2, 1) := by decide +kernel
theorem dX6_betters_82 : decode cX6_betters 82 = .ok (.irem, 1) := by decide +kernel
theorem dX6_betters_83 : decode cX6_betters 83 = .ok (.iconst 1, 1) := by decide +kernel
theorem dX6_betters_84 : decode cX6_betters 84 = .ok (.if_icmp .ne 7, 3) := by decide +kernel
theorem dX6_betters_87 : decode cX6_betters 87 = .ok (.iconst 1, 1) := by decide +kernel
theorem dX6_betters_88 : decode cX6_betters 88 = .ok (.goto 4, 3) := by decide +kernel
theorem dX6_betters_91 : decode cX6_betters 91 = .ok (.iconst 0, 1) := by decide +kernel
theorem dX6_betters_92 : decode cX6_betters 92 = .ok (.if_icmp .ne 6, 3) := by decide +kernel
theorem dX6_betters_95 : decode cX6_betters 95 = .ok (.goto 30, 3) := by decide +kernel
theorem dX6_betters_98 : decode cX6_betters 98 = .ok (.aload_n 0, 1) := by decide +kernel
theorem dX6_betters_99 : decode cX6_betters 99 = .ok (.getfield 55, 3) := by decide +kernel
theorem dX6_betters_102 : decode cX6_betters 102 = .ok (.iload_n 1, 1) := by decide +kernel
theorem dX6_betters_103 : decode cX6_betters 103 = .ok (.iload 5, 2) := by decide +kernel
theorem dX6_betters_105 : decode cX6_betters 105 = .ok (.iastore, 1) := by decide +kernel
theorem dX6_betters_106 : decode cX6_betters 106 = .ok (.aload_n 0, 1) := by decide +kernel
theorem dX6_betters_107 : decode cX6_betters 107 = .ok (.iload_n 1, 1) := by decide +kernel
theorem dX6_betters_108 : decode cX6_betters 108 = .ok (.iconst 1, 1) := by decide +kernel
theorem dX6_betters_109 : decode cX6_betters 109 = .ok (.iadd, 1) := by decide +kernel
theorem dX6_betters_110 : decode cX6_betters 110 = .ok (.iload_n 2, 1) := by decide +kernel
theorem dX6_betters_111 : decode cX6_betters 111 = .ok (.iload_n 3, 1) := by decide +kernel
theorem dX6_betters_112 : decode cX6_betters 112 = .ok (.iconst 1, 1) := by decide +kernel
theorem dX6_betters_113 : decode cX6_betters 113 = .ok (.iload 5, 2) := by decide +kernel
theorem dX6_betters_115 : decode cX6_betters 115 = .ok (.ishl, 1) := by decide +kernel
theorem dX6_betters_116 : decode cX6_betters 116 = .ok (.ior, 1) := by decide +kernel
theorem dX6_betters_117 : decode cX6_betters 117 = .ok (.invokevirtual 233, 3) := by decide +kernel
theorem dX6_betters_120 : decode cX6_betters 120 = .ok (.ifCond .eq 5, 3) := by decide +kernel
theorem dX6_betters_123 : decode cX6_betters 123 = .ok (.iconst 1, 1) := by decide +kernel
theorem dX6_betters_124 : decode cX6_betters 124 = .ok (.ireturn, 1) := by decide +kernel
theorem dX6_betters_125 : decode cX6_betters 125 = .ok (.iinc 5 1, 3) := by decide +kernel
theorem dX6_betters_128 : decode cX6_betters 128 = .ok (.goto (-94), 3) := by decide +kernel
theorem dX6_betters_131 : decode cX6_betters 131 = .ok (.iconst 0, 1) := by decide +kernel
theorem dX6_betters_132 : decode cX6_betters 132 = .ok (.ireturn, 1) := by decide +kernel
theorem dX6_findsPath_0 : decode cX6_findsPath 0 = .ok (.aload_n 0, 1) := by decide +kernel
theorem dX6_findsPath_1 : decode cX6_findsPath 1 = .ok (.getfield 55, 3) := by decide +kernel
theorem dX6_findsPath_4 : decode cX6_findsPath 4 = .ok (.iconst 0, 1) := by decide +kernel
theorem dX6_findsPath_5 : decode cX6_findsPath 5 = .ok (.iload_n 1, 1) := by decide +kernel
theorem dX6_findsPath_6 : decode cX6_findsPath 6 = .ok (.iastore, 1) := by decide +kernel
theorem dX6_findsPath_7 : decode cX6_findsPath 7 = .ok (.aload_n 0, 1) := by decide +kernel
theorem dX6_findsPath_8 : decode cX6_findsPath 8 = .ok (.iload_n 1, 1) := by decide +kernel
theorem dX6_findsPath_9 : decode cX6_findsPath 9 = .ok (.invokevirtual 206, 3) := by decide +kernel
theorem dX6_findsPath_12 : decode cX6_findsPath 12 = .ok (.iconst (-1), 1) := by decide +kernel
theorem dX6_findsPath_13 : decode cX6_findsPath 13 = .ok (.if_icmp .eq 5, 3) := by decide +kernel
theorem dX6_findsPath_16 : decode cX6_findsPath 16 = .ok (.iconst 0, 1) := by decide +kernel
theorem dX6_findsPath_17 : decode cX6_findsPath 17 = .ok (.ireturn, 1) := by decide +kernel
theorem dX6_findsPath_18 : decode cX6_findsPath 18 = .ok (.aload_n 0, 1) := by decide +kernel
theorem dX6_findsPath_19 : decode cX6_findsPath 19 = .ok (.iconst 2, 1) := by decide +kernel
theorem dX6_findsPath_20 : decode cX6_findsPath 20 = .ok (.putfield 236, 3) := by decide +kernel
theorem dX6_findsPath_23 : decode cX6_findsPath 23 = .ok (.aload_n 0, 1) := by decide +kernel
theorem dX6_findsPath_24 : decode cX6_findsPath 24 = .ok (.getfield 236, 3) := by decide +kernel
theorem dX6_findsPath_27 : decode cX6_findsPath 27 = .ok (.aload_n 0, 1) := by decide +kernel
theorem dX6_findsPath_28 : decode cX6_findsPath 28 = .ok (.invokevirtual 181, 3) := by decide +kernel
theorem dX6_findsPath_31 : decode cX6_findsPath 31 = .ok (.if_icmp .gt 33, 3) := by decide +kernel
theorem dX6_findsPath_34 : decode cX6_findsPath 34 = .ok (.aload_n 0, 1) := by decide +kernel
theorem dX6_findsPath_35 : decode cX6_findsPath 35 = .ok (.iconst 1, 1) := by decide +kernel
theorem dX6_findsPath_36 : decode cX6_findsPath 36 = .ok (.aload_n 0, 1) := by decide +kernel
theorem dX6_findsPath_37 : decode cX6_findsPath 37 = .ok (.getfield 236, 3) := by decide +kernel
theorem dX6_findsPath_40 : decode cX6_findsPath 40 = .ok (.iconst 1, 1) := by decide +kernel
theorem dX6_findsPath_41 : decode cX6_findsPath 41 = .ok (.iload_n 1, 1) := by decide +kernel
theorem dX6_findsPath_42 : decode cX6_findsPath 42 = .ok (.ishl, 1) := by decide +kernel
theorem dX6_findsPath_43 : decode cX6_findsPath 43 = .ok (.invokevirtual 233, 3) := by decide +kernel
theorem dX6_findsPath_46 : decode cX6_findsPath 46 = .ok (.ifCond .eq 5, 3) := by decide +kernel
theorem dX6_findsPath_49 : decode cX6_findsPath 49 = .ok (.iconst 1, 1) := by decide +kernel
theorem dX6_findsPath_50 : decode cX6_findsPath 50 = .ok (.ireturn, 1) := by decide +kernel
theorem dX6_findsPath_51 : decode cX6_findsPath 51 = .ok (.aload_n 0, 1) := by decide +kernel
theorem dX6_findsPath_52 : decode cX6_findsPath 52 = .ok (.dup, 1) := by decide +kernel
theorem dX6_findsPath_53 : decode cX6_findsPath 53 = .ok (.getfield 236, 3) := by decide +kernel
theorem dX6_findsPath_56 : decode cX6_findsPath 56 = .ok (.iconst 2, 1) := by decide +kernel
theorem dX6_findsPath_57 : decode cX6_findsPath 57 = .ok (.iadd, 1) := by decide +kernel
theorem dX6_findsPath_58 : decode cX6_findsPath 58 = .ok (.putfield 236, 3) := by decide +kernel
theorem dX6_findsPath_61 : decode cX6_findsPath 61 = .ok (.goto (-38), 3) := by decide +kernel
theorem dX6_findsPath_64 : decode cX6_findsPath 64 = .ok (.iconst 0, 1) := by decide +kernel
theorem dX6_findsPath_65 : decode cX6_findsPath 65 = .ok (.ireturn, 1) := by decide +kernel
theorem dX6_rings_0 : decode cX6_rings 0 = .ok (.aload_n 0, 1) := by decide +kernel
theorem dX6_rings_1 : decode cX6_rings 1 = .ok (.getfield 55, 3) := by decide +kernel
theorem dX6_rings_4 : decode cX6_rings 4 = .ok (.iload_n 1, 1) := by decide +kernel
theorem dX6_rings_5 : decode cX6_rings 5 = .ok (.iconst 1, 1) := by decide +kernel
theorem dX6_rings_6 : decode cX6_rings 6 = .ok (.isub, 1) := by decide +kernel
theorem dX6_rings_7 : decode cX6_rings 7 = .ok (.iaload, 1) := by decide +kernel
theorem dX6_rings_8 : decode cX6_rings 8 = .ok (.istore 4, 2) := by decide +kernel
theorem dX6_rings_10 : decode cX6_rings 10 = .ok (.iload_n 1, 1) := by decide +kernel
theorem dX6_rings_11 : decode cX6_rings 11 = .ok (.iload_n 2, 1) := by decide +kernel
theorem dX6_rings_12 : decode cX6_rings 12 = .ok (.if_icmp .ne 25, 3) := by decide +kernel
theorem dX6_rings_15 : decode cX6_rings 15 = .ok (.aload_n 0, 1) := by decide +kernel
theorem dX6_rings_16 : decode cX6_rings 16 = .ok (.iload 4, 2) := by decide +kernel
theorem dX6_rings_18 : decode cX6_rings 18 = .ok (.aload_n 0, 1) := by decide +kernel
theorem dX6_rings_19 : decode cX6_rings 19 = .ok (.getfield 55, 3) := by decide +kernel
theorem dX6_rings_22 : decode cX6_rings 22 = .ok (.iconst 0, 1) := by decide +kernel
theorem dX6_rings_23 : decode cX6_rings 23 = .ok (.iaload, 1) := by decide +kernel
theorem dX6_rings_24 : decode cX6_rings 24 = .ok (.invokevirtual 203, 3) := by decide +kernel
theorem dX6_rings_27 : decode cX6_rings 27 = .ok (.iconst (-1), 1) := by decide +kernel
theorem dX6_rings_28 : decode cX6_rings 28 = .ok (.if_icmp .eq 7, 3) := by decide +kernel
theorem dX6_rings_31 : decode cX6_rings 31 = .ok (.iconst 1, 1) := by decide +kernel
theorem dX6_rings_32 : decode cX6_rings 32 = .ok (.goto 4, 3) := by decide +kernel
theorem dX6_rings_35 : decode cX6_rings 35 = .ok (.iconst 0, 1) := by decide +kernel
theorem dX6_rings_36 : decode cX6_rings 36 = .ok (.ireturn, 1) := by decide +kernel
theorem dX6_rings_37 : decode cX6_rings 37 = .ok (.iconst 0, 1) := by decide +kernel
theorem dX6_rings_38 : decode cX6_rings 38 = .ok (.istore 5, 2) := by decide +kernel
theorem dX6_rings_40 : decode cX6_rings 40 = .ok (.iload 5, 2) := by decide +kernel
theorem dX6_rings_42 : decode cX6_rings 42 = .ok (.aload_n 0, 1) := by decide +kernel
theorem dX6_rings_43 : decode cX6_rings 43 = .ok (.invokevirtual 181, 3) := by decide +kernel
theorem dX6_rings_46 : decode cX6_rings 46 = .ok (.if_icmp .ge 106, 3) := by decide +kernel
theorem dX6_rings_49 : decode cX6_rings 49 = .ok (.iload_n 3, 1) := by decide +kernel
theorem dX6_rings_50 : decode cX6_rings 50 = .ok (.iload 5, 2) := by decide +kernel
theorem dX6_rings_52 : decode cX6_rings 52 = .ok (.invokestatic 183, 3) := by decide +kernel
theorem dX6_rings_55 : decode cX6_rings 55 = .ok (.ifCond .ne 91, 3) := by decide +kernel
theorem dX6_rings_58 : decode cX6_rings 58 = .ok (.aload_n 0, 1) := by decide +kernel
theorem dX6_rings_59 : decode cX6_rings 59 = .ok (.iload 4, 2) := by decide +kernel
theorem dX6_rings_61 : decode cX6_rings 61 = .ok (.iload 5, 2) := by decide +kernel
theorem dX6_rings_63 : decode cX6_rings 63 = .ok (.invokevirtual 203, 3) := by decide +kernel
theorem dX6_rings_66 : decode cX6_rings 66 = .ok (.iconst (-1), 1) := by decide +kernel
theorem dX6_rings_67 : decode cX6_rings 67 = .ok (.if_icmp .eq 79, 3) := by decide +kernel
theorem dX6_rings_70 : decode cX6_rings 70 = .ok (.aload_n 0, 1) := by decide +kernel
theorem dX6_rings_71 : decode cX6_rings 71 = .ok (.iload 5, 2) := by decide +kernel
theorem dX6_rings_73 : decode cX6_rings 73 = .ok (.invokevirtual 206, 3) := by decide +kernel
theorem dX6_rings_76 : decode cX6_rings 76 = .ok (.iconst (-1), 1) := by decide +kernel
theorem dX6_rings_77 : decode cX6_rings 77 = .ok (.if_icmp .eq 69, 3) := by decide +kernel
theorem dX6_rings_80 : decode cX6_rings 80 = .ok (.iload_n 3, 1) := by decide +kernel
theorem dX6_rings_81 : decode cX6_rings 81 = .ok (.aload_n 0, 1) := by decide +kernel
theorem dX6_rings_82 : decode cX6_rings 82 = .ok (.iload 5, 2) := by decide +kernel
theorem dX6_rings_84 : decode cX6_rings 84 = .ok (.invokevirtual 206, 3) := by decide +kernel
theorem dX6_rings_87 : decode cX6_rings 87 = .ok (.invokestatic 183, 3) := by decide +kernel
theorem dX6_rings_90 : decode cX6_rings 90 = .ok (.ifCond .eq 6, 3) := by decide +kernel
theorem dX6_rings_93 : decode cX6_rings 93 = .ok (.goto 53, 3) := by decide +kernel
theorem dX6_rings_96 : decode cX6_rings 96 = .ok (.aload_n 0, 1) := by decide +kernel
theorem dX6_rings_97 : decode cX6_rings 97 = .ok (.getfield 55, 3) := by decide +kernel
theorem dX6_rings_100 : decode cX6_rings 100 = .ok (.iload_n 1, 1) := by decide +kernel
theorem dX6_rings_101 : decode cX6_rings 101 = .ok (.iload 5, 2) := by decide +kernel
theorem dX6_rings_103 : decode cX6_rings 103 = .ok (.iastore, 1) := by decide +kernel
theorem dX6_rings_104 : decode cX6_rings 104 = .ok (.aload_n 0, 1) := by decide +kernel
theorem dX6_rings_105 : decode cX6_rings 105 = .ok (.getfield 55, 3) := by decide +kernel
theorem dX6_rings_108 : decode cX6_rings 108 = .ok (.iload_n 1, 1) := by decide +kernel
theorem dX6_rings_109 : decode cX6_rings 109 = .ok (.iconst 1, 1) := by decide +kernel
theorem dX6_rings_110 : decode cX6_rings 110 = .ok (.iadd, 1) := by decide +kernel
theorem dX6_rings_111 : decode cX6_rings 111 = .ok (.aload_n 0, 1) := by decide +kernel
theorem dX6_rings_112 : decode cX6_rings 112 = .ok (.iload 5, 2) := by decide +kernel
theorem dX6_rings_114 : decode cX6_rings 114 = .ok (.invokevirtual 206, 3) := by decide +kernel
theorem dX6_rings_117 : decode cX6_rings 117 = .ok (.iastore, 1) := by decide +kernel
theorem dX6_rings_118 : decode cX6_rings 118 = .ok (.aload_n 0, 1) := by decide +kernel
theorem dX6_rings_119 : decode cX6_rings 119 = .ok (.iload_n 1, 1) := by decide +kernel
theorem dX6_rings_120 : decode cX6_rings 120 = .ok (.iconst 2, 1) := by decide +kernel
theorem dX6_rings_121 : decode cX6_rings 121 = .ok (.iadd, 1) := by decide +kernel
theorem dX6_rings_122 : decode cX6_rings 122 = .ok (.iload_n 2, 1) := by decide +kernel
theorem dX6_rings_123 : decode cX6_rings 123 = .ok (.iload_n 3, 1) := by decide +kernel
theorem dX6_rings_124 : decode cX6_rings 124 = .ok (.iconst 1, 1) := by decide +kernel
theorem dX6_rings_125 : decode cX6_rings 125 = .ok (.iload 5, 2) := by decide +kernel
theorem dX6_rings_127 : decode cX6_rings 127 = .ok (.ishl, 1) := by decide +kernel
theorem dX6_rings_128 : decode cX6_rings 128 = .ok (.ior, 1) := by decide +kernel
theorem dX6_rings_129 : decode cX6_rings 129 = .ok (.iconst 1, 1) := by decide +kernel
theorem dX6_rings_130 : decode cX6_rings 130 = .ok (.aload_n 0, 1) := by decide +kernel
theorem dX6_rings_131 : decode cX6_rings 131 = .ok (.iload 5, 2) := by decide +kernel
theorem dX6_rings_133 : decode cX6_rings 133 = .ok (.invokevirtual 206, 3) := by decide +kernel
theorem dX6_rings_136 : decode cX6_rings 136 = .ok (.ishl, 1) := by decide +kernel
theorem dX6_rings_137 : decode cX6_rings 137 = .ok (.ior, 1) := by decide +kernel
theorem dX6_rings_138 : decode cX6_rings 138 = .ok (.invokevirtual 239, 3) := by decide +kernel
theorem dX6_rings_141 : decode cX6_rings 141 = .ok (.ifCond .eq 5, 3) := by decide +kernel
theorem dX6_rings_144 : decode cX6_rings 144 = .ok (.iconst 1, 1) := by decide +kernel
theorem dX6_rings_145 : decode cX6_rings 145 = .ok (.ireturn, 1) := by decide +kernel
theorem dX6_rings_146 : decode cX6_rings 146 = .ok (.iinc 5 1, 3) := by decide +kernel
theorem dX6_rings_149 : decode cX6_rings 149 = .ok (.goto (-109), 3) := by decide +kernel
theorem dX6_rings_152 : decode cX6_rings 152 = .ok (.iconst 0, 1) := by decide +kernel
theorem dX6_rings_153 : decode cX6_rings 153 = .ok (.ireturn, 1) := by decide +kernel
theorem dX6_findsFlower_0 : decode cX6_findsFlower 0 = .ok (.aload_n 0, 1) := by decide +kernel
theorem dX6_findsFlower_1 : decode cX6_findsFlower 1 = .ok (.getfield 55, 3) := by decide +kernel
theorem dX6_findsFlower_4 : decode cX6_findsFlower 4 = .ok (.iconst 0, 1) := by decide +kernel
theorem dX6_findsFlower_5 : decode cX6_findsFlower 5 = .ok (.iload_n 1, 1) := by decide +kernel
theorem dX6_findsFlower_6 : decode cX6_findsFlower 6 = .ok (.iastore, 1) := by decide +kernel
theorem dX6_findsFlower_7 : decode cX6_findsFlower 7 = .ok (.aload_n 0, 1) := by decide +kernel
theorem dX6_findsFlower_8 : decode cX6_findsFlower 8 = .ok (.iconst 3, 1) := by decide +kernel
theorem dX6_findsFlower_9 : decode cX6_findsFlower 9 = .ok (.putfield 236, 3) := by decide +kernel
theorem dX6_findsFlower_12 : decode cX6_findsFlower 12 = .ok (.aload_n 0, 1) := by decide +kernel
theorem dX6_findsFlower_13 : decode cX6_findsFlower 13 = .ok (.getfield 236, 3) := by decide +kernel
theorem dX6_findsFlower_16 : decode cX6_findsFlower 16 = .ok (.aload_n 0, 1) := by decide +kernel
theorem dX6_findsFlower_17 : decode cX6_findsFlower 17 = .ok (.invokevirtual 181, 3) := by decide +kernel
theorem dX6_findsFlower_20 : decode cX6_findsFlower 20 = .ok (.if_icmp .gt 33, 3) := by decide +kernel
theorem dX6_findsFlower_23 : decode cX6_findsFlower 23 = .ok (.aload_n 0, 1) := by decide +kernel
theorem dX6_findsFlower_24 : decode cX6_findsFlower 24 = .ok (.iconst 1, 1) := by decide +kernel
theorem dX6_findsFlower_25 : decode cX6_findsFlower 25 = .ok (.aload_n 0, 1) := by decide +kernel
theorem dX6_findsFlower_26 : decode cX6_findsFlower 26 = .ok (.getfield 236, 3) := by decide +kernel
theorem dX6_findsFlower_29 : decode cX6_findsFlower 29 = .ok (.iconst 1, 1) := by decide +kernel
theorem dX6_findsFlower_30 : decode cX6_findsFlower 30 = .ok (.iload_n 1, 1) := by decide +kernel
theorem dX6_findsFlower_31 : decode cX6_findsFlower 31 = .ok (.ishl, 1) := by decide +kernel
theorem dX6_findsFlower_32 : decode cX6_findsFlower 32 = .ok (.invokevirtual 239, 3) := by decide +kernel
theorem dX6_findsFlower_35 : decode cX6_findsFlower 35 = .ok (.ifCond .eq 5, 3) := by decide +kernel
theorem dX6_findsFlower_38 : decode cX6_findsFlower 38 = .ok (.iconst 1, 1) := by decide +kernel
theorem dX6_findsFlower_39 : decode cX6_findsFlower 39 = .ok (.ireturn, 1) := by decide +kernel
theorem dX6_findsFlower_40 : decode cX6_findsFlower 40 = .ok (.aload_n 0, 1) := by decide +kernel
theorem dX6_findsFlower_41 : decode cX6_findsFlower 41 = .ok (.dup, 1) := by decide +kernel
theorem dX6_findsFlower_42 : decode cX6_findsFlower 42 = .ok (.getfield 236, 3) := by decide +kernel
theorem dX6_findsFlower_45 : decode cX6_findsFlower 45 = .ok (.iconst 2, 1) := by decide +kernel
theorem dX6_findsFlower_46 : decode cX6_findsFlower 46 = .ok (.iadd, 1) := by decide +kernel
theorem dX6_findsFlower_47 : decode cX6_findsFlower 47 = .ok (.putfield 236, 3) := by decide +kernel
theorem dX6_findsFlower_50 : decode cX6_findsFlower 50 = .ok (.goto (-38), 3) := by decide +kernel
theorem dX6_findsFlower_53 : decode cX6_findsFlower 53 = .ok (.iconst 0, 1) := by decide +kernel
theorem dX6_findsFlower_54 : decode cX6_findsFlower 54 = .ok (.ireturn, 1) := by decide +kernel
theorem dX6_remembers_0 : decode cX6_remembers 0 = .ok (.aload_n 0, 1) := by decide +kernel
theorem dX6_remembers_1 : decode cX6_remembers 1 = .ok (.getfield 242, 3) := by decide +kernel
theorem dX6_remembers_4 : decode cX6_remembers 4 = .ok (.bipush 8, 2) := by decide +kernel
theorem dX6_remembers_6 : decode cX6_remembers 6 = .ok (.if_icmp .ne 44, 3) := by decide +kernel
theorem dX6_remembers_9 : decode cX6_remembers 9 = .ok (.iconst 1, 1) := by decide +kernel
theorem dX6_remembers_10 : decode cX6_remembers 10 = .ok (.istore_n 1, 1) := by decide +kernel
theorem dX6_remembers_11 : decode cX6_remembers 11 = .ok (.iload_n 1, 1) := by decide +kernel
theorem dX6_remembers_12 : decode cX6_remembers 12 = .ok (.bipush 8, 2) := by decide +kernel
theorem dX6_remembers_14 : decode cX6_remembers 14 = .ok (.if_icmp .ge 26, 3) := by decide +kernel
theorem dX6_remembers_17 : decode cX6_remembers 17 = .ok (.aload_n 0, 1) := by decide +kernel
theorem dX6_remembers_18 : decode cX6_remembers 18 = .ok (.getfield 28, 3) := by decide +kernel
theorem dX6_remembers_21 : decode cX6_remembers 21 = .ok (.iload_n 1, 1) := by decide +kernel
theorem dX6_remembers_22 : decode cX6_remembers 22 = .ok (.aaload, 1) := by decide +kernel
theorem dX6_remembers_23 : decode cX6_remembers 23 = .ok (.aload_n 0, 1) := by decide +kernel
theorem dX6_remembers_24 : decode cX6_remembers 24 = .ok (.getfield 28, 3) := by decide +kernel
theorem dX6_remembers_27 : decode cX6_remembers 27 = .ok (.iload_n 1, 1) := by decide +kernel
theorem dX6_remembers_28 : decode cX6_remembers 28 = .ok (.iconst 1, 1) := by decide +kernel
theorem dX6_remembers_29 : decode cX6_remembers 29 = .ok (.isub, 1) := by decide +kernel
theorem dX6_remembers_30 : decode cX6_remembers 30 = .ok (.aaload, 1) := by decide +kernel
theorem dX6_remembers_31 : decode cX6_remembers 31 = .ok (.invokestatic 174, 3) := by decide +kernel
theorem dX6_remembers_34 : decode cX6_remembers 34 = .ok (.iinc 1 1, 3) := by decide +kernel
theorem dX6_remembers_37 : decode cX6_remembers 37 = .ok (.goto (-26), 3) := by decide +kernel
theorem dX6_remembers_40 : decode cX6_remembers 40 = .ok (.aload_n 0, 1) := by decide +kernel
theorem dX6_remembers_41 : decode cX6_remembers 41 = .ok (.dup, 1) := by decide +kernel
theorem dX6_remembers_42 : decode cX6_remembers 42 = .ok (.getfield 242, 3) := by decide +kernel
theorem dX6_remembers_45 : decode cX6_remembers 45 = .ok (.iconst 1, 1) := by decide +kernel
theorem dX6_remembers_46 : decode cX6_remembers 46 = .ok (.isub, 1) := by decide +kernel
theorem dX6_remembers_47 : decode cX6_remembers 47 = .ok (.putfield 242, 3) := by decide +kernel
theorem dX6_remembers_50 : decode cX6_remembers 50 = .ok (.aload_n 0, 1) := by decide +kernel
theorem dX6_remembers_51 : decode cX6_remembers 51 = .ok (.getfield 20, 3) := by decide +kernel
theorem dX6_remembers_54 : decode cX6_remembers 54 = .ok (.aload_n 0, 1) := by decide +kernel
theorem dX6_remembers_55 : decode cX6_remembers 55 = .ok (.getfield 28, 3) := by decide +kernel
theorem dX6_remembers_58 : decode cX6_remembers 58 = .ok (.aload_n 0, 1) := by decide +kernel
theorem dX6_remembers_59 : decode cX6_remembers 59 = .ok (.getfield 242, 3) := by decide +kernel
theorem dX6_remembers_62 : decode cX6_remembers 62 = .ok (.aaload, 1) := by decide +kernel
theorem dX6_remembers_63 : decode cX6_remembers 63 = .ok (.invokestatic 174, 3) := by decide +kernel
theorem dX6_remembers_66 : decode cX6_remembers 66 = .ok (.aload_n 0, 1) := by decide +kernel
theorem dX6_remembers_67 : decode cX6_remembers 67 = .ok (.dup, 1) := by decide +kernel
theorem dX6_remembers_68 : decode cX6_remembers 68 = .ok (.getfield 242, 3) := by decide +kernel
theorem dX6_remembers_71 : decode cX6_remembers 71 = .ok (.iconst 1, 1) := by decide +kernel
theorem dX6_remembers_72 : decode cX6_remembers 72 = .ok (.iadd, 1) := by decide +kernel
theorem dX6_remembers_73 : decode cX6_remembers 73 = .ok (.putfield 242, 3) := by decide +kernel
theorem dX6_remembers_76 : decode cX6_remembers 76 = .ok (.return_, 1) := by decide +kernel
theorem dX6_undo_0 : decode cX6_undo 0 = .ok (.aload_n 0, 1) := by decide +kernel
theorem dX6_undo_1 : decode cX6_undo 1 = .ok (.iconst 0, 1) := by decide +kernel
theorem dX6_undo_2 : decode cX6_undo 2 = .ok (.putfield 72, 3) := by decide +kernel
theorem dX6_undo_5 : decode cX6_undo 5 = .ok (.aload_n 0, 1) := by decide +kernel
theorem dX6_undo_6 : decode cX6_undo 6 = .ok (.getfield 242, 3) := by decide +kernel
theorem dX6_undo_9 : decode cX6_undo 9 = .ok (.ifCond .ne 5, 3) := by decide +kernel
theorem dX6_undo_12 : decode cX6_undo 12 = .ok (.iconst (-1), 1) := by decide +kernel
theorem dX6_undo_13 : decode cX6_undo 13 = .ok (.ireturn, 1) := by decide +kernel
theorem dX6_undo_14 : decode cX6_undo 14 = .ok (.aload_n 0, 1) := by decide +kernel
theorem dX6_undo_15 : decode cX6_undo 15 = .ok (.dup, 1) := by decide +kernel
theorem dX6_undo_16 : decode cX6_undo 16 = .ok (.getfield 242, 3) := by decide +kernel
theorem dX6_undo_19 : decode cX6_undo 19 = .ok (.iconst 1, 1) := by decide +kernel
theorem dX6_undo_20 : decode cX6_undo 20 = .ok (.isub, 1) := by decide +kernel
theorem dX6_undo_21 : decode cX6_undo 21 = .ok (.putfield 242, 3) := by decide +kernel
theorem dX6_undo_24 : decode cX6_undo 24 = .ok (.aload_n 0, 1) := by decide +kernel
theorem dX6_undo_25 : decode cX6_undo 25 = .ok (.getfield 28, 3) := by decide +kernel
theorem dX6_undo_28 : decode cX6_undo 28 = .ok (.aload_n 0, 1) := by decide +kernel
theorem dX6_undo_29 : decode cX6_undo 29 = .ok (.getfield 242, 3) := by decide +kernel
theorem dX6_undo_32 : decode cX6_undo 32 = .ok (.aaload, 1) := by decide +kernel
theorem dX6_undo_33 : decode cX6_undo 33 = .ok (.aload_n 0, 1) := by decide +kernel
theorem dX6_undo_34 : decode cX6_undo 34 = .ok (.getfield 20, 3) := by decide +kernel
theorem dX6_undo_37 : decode cX6_undo 37 = .ok (.invokestatic 174, 3) := by decide +kernel
theorem dX6_undo_40 : decode cX6_undo 40 = .ok (.aload_n 0, 1) := by decide +kernel
theorem dX6_undo_41 : decode cX6_undo 41 = .ok (.invokevirtual 69, 3) := by decide +kernel
theorem dX6_undo_44 : decode cX6_undo 44 = .ok (.aload_n 0, 1) := by decide +kernel
theorem dX6_undo_45 : decode cX6_undo 45 = .ok (.getfield 242, 3) := by decide +kernel
theorem dX6_undo_48 : decode cX6_undo 48 = .ok (.ireturn, 1) := by decide +kernel
theorem dX6_isNode_0 : decode cX6_isNode 0 = .ok (.iload_n 1, 1) := by decide +kernel
theorem dX6_isNode_1 : decode cX6_isNode 1 = .ok (.iconst 0, 1) := by decide +kernel
theorem dX6_isNode_2 : decode cX6_isNode 2 = .ok (.aload_n 0, 1) := by decide +kernel
theorem dX6_isNode_3 : decode cX6_isNode 3 = .ok (.invokevirtual 181, 3) := by decide +kernel
theorem dX6_isNode_6 : decode cX6_isNode 6 = .ok (.iconst 1, 1) := by decide +kernel
theorem dX6_isNode_7 : decode cX6_isNode 7 = .ok (.isub, 1) := by decide +kernel
theorem dX6_isNode_8 : decode cX6_isNode 8 = .ok (.invokestatic 111, 3) := by decide +kernel
theorem dX6_isNode_11 : decode cX6_isNode 11 = .ok (.ireturn, 1) := by decide +kernel
theorem dX6_join_0 : decode cX6_join 0 = .ok (.aload_n 0, 1) := by decide +kernel
theorem dX6_join_1 : decode cX6_join 1 = .ok (.iconst 0, 1) := by decide +kernel
theorem dX6_join_2 : decode cX6_join 2 = .ok (.putfield 72, 3) := by decide +kernel
theorem dX6_join_5 : decode cX6_join 5 = .ok (.aload_n 0, 1) := by decide +kernel
theorem dX6_join_6 : decode cX6_join 6 = .ok (.aload_n 0, 1) := by decide +kernel
theorem dX6_join_7 : decode cX6_join 7 = .ok (.iload_n 1, 1) := by decide +kernel
theorem dX6_join_8 : decode cX6_join 8 = .ok (.invokevirtual 245, 3) := by decide +kernel
theorem dX6_join_11 : decode cX6_join 11 = .ok (.ifCond .eq 11, 3) := by decide +kernel
theorem dX6_join_14 : decode cX6_join 14 = .ok (.aload_n 0, 1) := by decide +kernel
theorem dX6_join_15 : decode cX6_join 15 = .ok (.iload_n 2, 1) := by decide +kernel
theorem dX6_join_16 : decode cX6_join 16 = .ok (.invokevirtual 245, 3) := by decide +kernel
theorem dX6_join_19 : decode cX6_join 19 = .ok (.ifCond .ne 7, 3) := by decide +kernel
theorem dX6_join_22 : decode cX6_join 22 = .ok (.iconst 1, 1) := by decide +kernel
theorem dX6_join_23 : decode cX6_join 23 = .ok (.goto 4, 3) := by decide +kernel
theorem dX6_join_26 : decode cX6_join 26 = .ok (.iconst 0, 1) := by decide +kernel
theorem dX6_join_27 : decode cX6_join 27 = .ok (.iconst 1, 1) := by decide +kernel
theorem dX6_join_28 : decode cX6_join 28 = .ok (.iconst 0, 1) := by decide +kernel
theorem dX6_join_29 : decode cX6_join 29 = .ok (.invokevirtual 159, 3) := by decide +kernel
theorem dX6_join_32 : decode cX6_join 32 = .ok (.ifCond .ne 33, 3) := by decide +kernel
theorem dX6_join_35 : decode cX6_join 35 = .ok (.aload_n 0, 1) := by decide +kernel
theorem dX6_join_36 : decode cX6_join 36 = .ok (.iload_n 1, 1) := by decide +kernel
theorem dX6_join_37 : decode cX6_join 37 = .ok (.iload_n 2, 1) := by decide +kernel
theorem dX6_join_38 : decode cX6_join 38 = .ok (.if_icmp .eq 14, 3) := by decide +kernel
theorem dX6_join_41 : decode cX6_join 41 = .ok (.iload_n 3, 1) := by decide +kernel
theorem dX6_join_42 : decode cX6_join 42 = .ok (.iconst 0, 1) := by decide +kernel
theorem dX6_join_43 : decode cX6_join 43 = .ok (.sipush 999, 3) := by decide +kernel
theorem dX6_join_46 : decode cX6_join 46 = .ok (.invokestatic 111, 3) := by decide +kernel
theorem dX6_join_49 : decode cX6_join 49 = .ok (.ifCond .ne 7, 3) := by decide +kernel
theorem dX6_join_52 : decode cX6_join 52 = .ok (.iconst 1, 1) := by decide +kernel
theorem dX6_join_53 : decode cX6_join 53 = .ok (.goto 4, 3) := by decide +kernel
theorem dX6_join_56 : decode cX6_join 56 = .ok (.iconst 0, 1) := by decide +kernel
theorem dX6_join_57 : decode cX6_join 57 = .ok (.iconst 2, 1) := by decide +kernel
theorem dX6_join_58 : decode cX6_join 58 = .ok (.iconst 1, 1) := by decide +kernel
theorem dX6_join_59 : decode cX6_join 59 = .ok (.invokevirtual 159, 3) := by decide +kernel
theorem dX6_join_62 : decode cX6_join 62 = .ok (.ifCond .eq 5, 3) := by decide +kernel
theorem dX6_join_65 : decode cX6_join 65 = .ok (.iconst 0, 1) := by decide +kernel
theorem dX6_join_66 : decode cX6_join 66 = .ok (.ireturn, 1) := by decide +kernel
theorem dX6_join_67 : decode cX6_join 67 = .ok (.aload_n 0, 1) := by decide +kernel
theorem dX6_join_68 : decode cX6_join 68 = .ok (.invokevirtual 171, 3) := by decide +kernel
theorem dX6_join_71 : decode cX6_join 71 = .ok (.aload_n 0, 1) := by decide +kernel
theorem dX6_join_72 : decode cX6_join 72 = .ok (.getfield 20, 3) := by decide +kernel
theorem dX6_join_75 : decode cX6_join 75 = .ok (.iload_n 1, 1) := by decide +kernel
theorem dX6_join_76 : decode cX6_join 76 = .ok (.iload_n 2, 1) := by decide +kernel
theorem dX6_join_77 : decode cX6_join 77 = .ok (.iload_n 3, 1) := by decide +kernel
theorem dX6_join_78 : decode cX6_join 78 = .ok (.invokestatic 65, 3) := by decide +kernel
theorem dX6_join_81 : decode cX6_join 81 = .ok (.aload_n 0, 1) := by decide +kernel
theorem dX6_join_82 : decode cX6_join 82 = .ok (.invokevirtual 69, 3) := by decide +kernel
theorem dX6_join_85 : decode cX6_join 85 = .ok (.aload_n 0, 1) := by decide +kernel
theorem dX6_join_86 : decode cX6_join 86 = .ok (.invokevirtual 178, 3) := by decide +kernel
theorem dX6_join_89 : decode cX6_join 89 = .ok (.ireturn, 1) := by decide +kernel
theorem dX6_parts_0 : decode cX6_parts 0 = .ok (.aload_n 0, 1) := by decide +kernel
theorem dX6_parts_1 : decode cX6_parts 1 = .ok (.iload_n 1, 1) := by decide +kernel
theorem dX6_parts_2 : decode cX6_parts 2 = .ok (.invokevirtual 206, 3) := by decide +kernel
theorem dX6_parts_5 : decode cX6_parts 5 = .ok (.istore_n 2, 1) := by decide +kernel
theorem dX6_parts_6 : decode cX6_parts 6 = .ok (.aload_n 0, 1) := by decide +kernel
theorem dX6_parts_7 : decode cX6_parts 7 = .ok (.getfield 20, 3) := by decide +kernel
theorem dX6_parts_10 : decode cX6_parts 10 = .ok (.iconst 1, 1) := by decide +kernel
theorem dX6_parts_11 : decode cX6_parts 11 = .ok (.iload_n 1, 1) := by decide +kernel
theorem dX6_parts_12 : decode cX6_parts 12 = .ok (.iadd, 1) := by decide +kernel
theorem dX6_parts_13 : decode cX6_parts 13 = .ok (.iconst (-1), 1) := by decide +kernel
theorem dX6_parts_14 : decode cX6_parts 14 = .ok (.iastore, 1) := by decide +kernel
theorem dX6_parts_15 : decode cX6_parts 15 = .ok (.aload_n 0, 1) := by decide +kernel
theorem dX6_parts_16 : decode cX6_parts 16 = .ok (.getfield 20, 3) := by decide +kernel
theorem dX6_parts_19 : decode cX6_parts 19 = .ok (.iconst 1, 1) := by decide +kernel
theorem dX6_parts_20 : decode cX6_parts 20 = .ok (.iload_n 2, 1) := by decide +kernel
theorem dX6_parts_21 : decode cX6_parts 21 = .ok (.iadd, 1) := by decide +kernel
theorem dX6_parts_22 : decode cX6_parts 22 = .ok (.iconst (-1), 1) := by decide +kernel
theorem dX6_parts_23 : decode cX6_parts 23 = .ok (.iastore, 1) := by decide +kernel
theorem dX6_parts_24 : decode cX6_parts 24 = .ok (.return_, 1) := by decide +kernel
theorem dX6_cut_0 : decode cX6_cut 0 = .ok (.aload_n 0, 1) := by decide +kernel
theorem dX6_cut_1 : decode cX6_cut 1 = .ok (.iconst 0, 1) := by decide +kernel
theorem dX6_cut_2 : decode cX6_cut 2 = .ok (.putfield 72, 3) := by decide +kernel
theorem dX6_cut_5 : decode cX6_cut 5 = .ok (.aload_n 0, 1) := by decide +kernel
theorem dX6_cut_6 : decode cX6_cut 6 = .ok (.aload_n 0, 1) := by decide +kernel
theorem dX6_cut_7 : decode cX6_cut 7 = .ok (.iload_n 1, 1) := by decide +kernel
theorem dX6_cut_8 : decode cX6_cut 8 = .ok (.invokevirtual 245, 3) := by decide +kernel
theorem dX6_cut_11 : decode cX6_cut 11 = .ok (.ifCond .eq 11, 3) := by decide +kernel
theorem dX6_cut_14 : decode cX6_cut 14 = .ok (.aload_n 0, 1) := by decide +kernel
theorem dX6_cut_15 : decode cX6_cut 15 = .ok (.iload_n 2, 1) := by decide +kernel
theorem dX6_cut_16 : decode cX6_cut 16 = .ok (.invokevirtual 245, 3) := by decide +kernel
theorem dX6_cut_19 : decode cX6_cut 19 = .ok (.ifCond .ne 7, 3) := by decide +kernel
theorem dX6_cut_22 : decode cX6_cut 22 = .ok (.iconst 1, 1) := by decide +kernel
theorem dX6_cut_23 : decode cX6_cut 23 = .ok (.goto 4, 3) := by decide +kernel
theorem dX6_cut_26 : decode cX6_cut 26 = .ok (.iconst 0, 1) := by decide +kernel
theorem dX6_cut_27 : decode cX6_cut 27 = .ok (.iconst 1, 1) := by decide +kernel
theorem dX6_cut_28 : decode cX6_cut 28 = .ok (.iconst 0, 1) := by decide +kernel
theorem dX6_cut_29 : decode cX6_cut 29 = .ok (.invokevirtual 159, 3) := by decide +kernel
theorem dX6_cut_32 : decode cX6_cut 32 = .ok (.ifCond .ne 46, 3) := by decide +kernel
theorem dX6_cut_35 : decode cX6_cut 35 = .ok (.aload_n 0, 1) := by decide +kernel
theorem dX6_cut_36 : decode cX6_cut 36 = .ok (.iload_n 1, 1) := by decide +kernel
theorem dX6_cut_37 : decode cX6_cut 37 = .ok (.iload_n 2, 1) := by decide +kernel
theorem dX6_cut_38 : decode cX6_cut 38 = .ok (.if_icmp .ne 7, 3) := by decide +kernel
theorem dX6_cut_41 : decode cX6_cut 41 = .ok (.iconst 1, 1) := by decide +kernel
theorem dX6_cut_42 : decode cX6_cut 42 = .ok (.goto 4, 3) := by decide +kernel
theorem dX6_cut_45 : decode cX6_cut 45 = .ok (.iconst 0, 1) := by decide +kernel
theorem dX6_cut_46 : decode cX6_cut 46 = .ok (.iconst 2, 1) := by decide +kernel
theorem dX6_cut_47 : decode cX6_cut 47 = .ok (.iconst 1, 1) := by decide +kernel
theorem dX6_cut_48 : decode cX6_cut 48 = .ok (.invokevirtual 159, 3) := by decide +kernel
theorem dX6_cut_51 : decode cX6_cut 51 = .ok (.ifCond .ne 27, 3) := by decide +kernel
theorem dX6_cut_54 : decode cX6_cut 54 = .ok (.aload_n 0, 1) := by decide +kernel
theorem dX6_cut_55 : decode cX6_cut 55 = .ok (.aload_n 0, 1) := by decide +kernel
theorem dX6_cut_56 : decode cX6_cut 56 = .ok (.iload_n 1, 1) := by decide +kernel
theorem dX6_cut_57 : decode cX6_cut 57 = .ok (.iload_n 2, 1) := by decide +kernel
theorem dX6_cut_58 : decode cX6_cut 58 = .ok (.invokevirtual 203, 3) := by decide +kernel
theorem dX6_cut_61 : decode cX6_cut 61 = .ok (.iconst (-1), 1) := by decide +kernel
theorem dX6_cut_62 : decode cX6_cut 62 = .ok (.if_icmp .ne 7, 3) := by decide +kernel
theorem dX6_cut_65 : decode cX6_cut 65 = .ok (.iconst 1, 1) := by decide +kernel
theorem dX6_cut_66 : decode cX6_cut 66 = .ok (.goto 4, 3) := by decide +kernel
theorem dX6_cut_69 : decode cX6_cut 69 = .ok (.iconst 0, 1) := by decide +kernel
theorem dX6_cut_70 : decode cX6_cut 70 = .ok (.iconst 3, 1) := by decide +kernel
theorem dX6_cut_71 : decode cX6_cut 71 = .ok (.iconst 2, 1) := by decide +kernel
theorem dX6_cut_72 : decode cX6_cut 72 = .ok (.invokevirtual 159, 3) := by decide +kernel
theorem dX6_cut_75 : decode cX6_cut 75 = .ok (.ifCond .eq 5, 3) := by decide +kernel
theorem dX6_cut_78 : decode cX6_cut 78 = .ok (.iconst 0, 1) := by decide +kernel
theorem dX6_cut_79 : decode cX6_cut 79 = .ok (.ireturn, 1) := by decide +kernel
theorem dX6_cut_80 : decode cX6_cut 80 = .ok (.aload_n 0, 1) := by decide +kernel
theorem dX6_cut_81 : decode cX6_cut 81 = .ok (.invokevirtual 171, 3) := by decide +kernel
theorem dX6_cut_84 : decode cX6_cut 84 = .ok (.aload_n 0, 1) := by decide +kernel
theorem dX6_cut_85 : decode cX6_cut 85 = .ok (.iload_n 1, 1) := by decide +kernel
theorem dX6_cut_86 : decode cX6_cut 86 = .ok (.invokevirtual 206, 3) := by decide +kernel
theorem dX6_cut_89 : decode cX6_cut 89 = .ok (.iload_n 2, 1) := by decide +kernel
theorem dX6_cut_90 : decode cX6_cut 90 = .ok (.if_icmp .ne 8, 3) := by decide +kernel
theorem dX6_cut_93 : decode cX6_cut 93 = .ok (.aload_n 0, 1) := by decide +kernel
theorem dX6_cut_94 : decode cX6_cut 94 = .ok (.iload_n 1, 1) := by decide +kernel
theorem dX6_cut_95 : decode cX6_cut 95 = .ok (.invokevirtual 248, 3) := by decide +kernel
theorem dX6_cut_98 : decode cX6_cut 98 = .ok (.aload_n 0, 1) := by decide +kernel
theorem dX6_cut_99 : decode cX6_cut 99 = .ok (.getfield 20, 3) := by decide +kernel
theorem dX6_cut_102 : decode cX6_cut 102 = .ok (.iload_n 1, 1) := by decide +kernel
theorem dX6_cut_103 : decode cX6_cut 103 = .ok (.iload_n 2, 1) := by decide +kernel
theorem dX6_cut_104 : decode cX6_cut 104 = .ok (.iconst (-1), 1) := by decide +kernel
theorem dX6_cut_105 : decode cX6_cut 105 = .ok (.invokestatic 65, 3) := by decide +kernel
theorem dX6_cut_108 : decode cX6_cut 108 = .ok (.aload_n 0, 1) := by decide +kernel
theorem dX6_cut_109 : decode cX6_cut 109 = .ok (.invokevirtual 69, 3) := by decide +kernel
theorem dX6_cut_112 : decode cX6_cut 112 = .ok (.aload_n 0, 1) := by decide +kernel
theorem dX6_cut_113 : decode cX6_cut 113 = .ok (.invokevirtual 178, 3) := by decide +kernel
theorem dX6_cut_116 : decode cX6_cut 116 = .ok (.ireturn, 1) := by decide +kernel
theorem dX6_mates_0 : decode cX6_mates 0 = .ok (.aload_n 0, 1) := by decide +kernel
theorem dX6_mates_1 : decode cX6_mates 1 = .ok (.getfield 20, 3) := by decide +kernel
theorem dX6_mates_4 : decode cX6_mates 4 = .ok (.iconst 1, 1) := by decide +kernel
theorem dX6_mates_5 : decode cX6_mates 5 = .ok (.iload_n 1, 1) := by decide +kernel
theorem dX6_mates_6 : decode cX6_mates 6 = .ok (.iadd, 1) := by decide +kernel
theorem dX6_mates_7 : decode cX6_mates 7 = .ok (.iload_n 2, 1) := by decide +kernel
theorem dX6_mates_8 : decode cX6_mates 8 = .ok (.iastore, 1) := by decide +kernel
theorem dX6_mates_9 : decode cX6_mates 9 = .ok (.aload_n 0, 1) := by decide +kernel
theorem dX6_mates_10 : decode cX6_mates 10 = .ok (.getfield 20, 3) := by decide +kernel
theorem dX6_mates_13 : decode cX6_mates 13 = .ok (.iconst 1, 1) := by decide +kernel
theorem dX6_mates_14 : decode cX6_mates 14 = .ok (.iload_n 2, 1) := by decide +kernel
theorem dX6_mates_15 : decode cX6_mates 15 = .ok (.iadd, 1) := by decide +kernel
theorem dX6_mates_16 : decode cX6_mates 16 = .ok (.iload_n 1, 1) := by decide +kernel
theorem dX6_mates_17 : decode cX6_mates 17 = .ok (.iastore, 1) := by decide +kernel
theorem dX6_mates_18 : decode cX6_mates 18 = .ok (.return_, 1) := by decide +kernel
theorem dX6_pair_0 : decode cX6_pair 0 = .ok (.aload_n 0, 1) := by decide +kernel
theorem dX6_pair_1 : decode cX6_pair 1 = .ok (.iconst 0, 1) := by decide +kernel
theorem dX6_pair_2 : decode cX6_pair 2 = .ok (.putfield 72, 3) := by decide +kernel
theorem dX6_pair_5 : decode cX6_pair 5 = .ok (.aload_n 0, 1) := by decide +kernel
theorem dX6_pair_6 : decode cX6_pair 6 = .ok (.aload_n 0, 1) := by decide +kernel
theorem dX6_pair_7 : decode cX6_pair 7 = .ok (.iload_n 1, 1) := by decide +kernel
theorem dX6_pair_8 : decode cX6_pair 8 = .ok (.invokevirtual 245, 3) := by decide +kernel
theorem dX6_pair_11 : decode cX6_pair 11 = .ok (.ifCond .eq 11, 3) := by decide +kernel
theorem dX6_pair_14 : decode cX6_pair 14 = .ok (.aload_n 0, 1) := by decide +kernel
theorem dX6_pair_15 : decode cX6_pair 15 = .ok (.iload_n 2, 1) := by decide +kernel
theorem dX6_pair_16 : decode cX6_pair 16 = .ok (.invokevirtual 245, 3) := by decide +kernel
theorem dX6_pair_19 : decode cX6_pair 19 = .ok (.ifCond .ne 7, 3) := by decide +kernel
theorem dX6_pair_22 : decode cX6_pair 22 = .ok (.iconst 1, 1) := by decide +kernel
theorem dX6_pair_23 : decode cX6_pair 23 = .ok (.goto 4, 3) := by decide +kernel
theorem dX6_pair_26 : decode cX6_pair 26 = .ok (.iconst 0, 1) := by decide +kernel
theorem dX6_pair_27 : decode cX6_pair 27 = .ok (.iconst 1, 1) := by decide +kernel
theorem dX6_pair_28 : decode cX6_pair 28 = .ok (.iconst 0, 1) := by decide +kernel
theorem dX6_pair_29 : decode cX6_pair 29 = .ok (.invokevirtual 159, 3) := by decide +kernel
theorem dX6_pair_32 : decode cX6_pair 32 = .ok (.ifCond .ne 64, 3) := by decide +kernel
theorem dX6_pair_35 : decode cX6_pair 35 = .ok (.aload_n 0, 1) := by decide +kernel
theorem dX6_pair_36 : decode cX6_pair 36 = .ok (.iload_n 1, 1) := by decide +kernel
theorem dX6_pair_37 : decode cX6_pair 37 = .ok (.iload_n 2, 1) := by decide +kernel
theorem dX6_pair_38 : decode cX6_pair 38 = .ok (.if_icmp .ne 7, 3) := by decide +kernel
theorem dX6_pair_41 : decode cX6_pair 41 = .ok (.iconst 1, 1) := by decide +kernel
theorem dX6_pair_42 : decode cX6_pair 42 = .ok (.goto 4, 3) := by decide +kernel
theorem dX6_pair_45 : decode cX6_pair 45 = .ok (.iconst 0, 1) := by decide +kernel
theorem dX6_pair_46 : decode cX6_pair 46 = .ok (.iconst 2, 1) := by decide +kernel
theorem dX6_pair_47 : decode cX6_pair 47 = .ok (.iconst 1, 1) := by decide +kernel
theorem dX6_pair_48 : decode cX6_pair 48 = .ok (.invokevirtual 159, 3) := by decide +kernel
theorem dX6_pair_51 : decode cX6_pair 51 = .ok (.ifCond .ne 45, 3) := by decide +kernel
theorem dX6_pair_54 : decode cX6_pair 54 = .ok (.aload_n 0, 1) := by decide +kernel
theorem dX6_pair_55 : decode cX6_pair 55 = .ok (.aload_n 0, 1) := by decide +kernel
theorem dX6_pair_56 : decode cX6_pair 56 = .ok (.iload_n 1, 1) := by decide +kernel
theorem dX6_pair_57 : decode cX6_pair 57 = .ok (.iload_n 2, 1) := by decide +kernel
theorem dX6_pair_58 : decode cX6_pair 58 = .ok (.invokevirtual 203, 3) := by decide +kernel
theorem dX6_pair_61 : decode cX6_pair 61 = .ok (.iconst (-1), 1) := by decide +kernel
theorem dX6_pair_62 : decode cX6_pair 62 = .ok (.if_icmp .eq 21, 3) := by decide +kernel
theorem dX6_pair_65 : decode cX6_pair 65 = .ok (.aload_n 0, 1) := by decide +kernel
theorem dX6_pair_66 : decode cX6_pair 66 = .ok (.iload_n 1, 1) := by decide +kernel
theorem dX6_pair_67 : decode cX6_pair 67 = .ok (.invokevirtual 206, 3) := by decide +kernel
theorem dX6_pair_70 : decode cX6_pair 70 = .ok (.iconst (-1), 1) := by decide +kernel
theorem dX6_pair_71 : decode cX6_pair 71 = .ok (.if_icmp .ne 12, 3) := by decide +kernel
theorem dX6_pair_74 : decode cX6_pair 74 = .ok (.aload_n 0, 1) := by decide +kernel
theorem dX6_pair_75 : decode cX6_pair 75 = .ok (.iload_n 2, 1) := by decide +kernel
theorem dX6_pair_76 : decode cX6_pair 76 = .ok (.invokevirtual 206, 3) := by decide +kernel
theorem dX6_pair_79 : decode cX6_pair 79 = .ok (.iconst (-1), 1) := by decide +kernel
theorem dX6_pair_80 : decode cX6_pair 80 = .ok (.if_icmp .eq 7, 3) := by decide +kernel
theorem dX6_pair_83 : decode cX6_pair 83 = .ok (.iconst 1, 1) := by decide +kernel
theorem dX6_pair_84 : decode cX6_pair 84 = .ok (.goto 4, 3) := by decide +kernel
theorem dX6_pair_87 : decode cX6_pair 87 = .ok (.iconst 0, 1) := by decide +kernel
theorem dX6_pair_88 : decode cX6_pair 88 = .ok (.iconst 3, 1) := by decide +kernel
theorem dX6_pair_89 : decode cX6_pair 89 = .ok (.iconst 2, 1) := by decide +kernel
theorem dX6_pair_90 : decode cX6_pair 90 = .ok (.invokevirtual 159, 3) := by decide +kernel
theorem dX6_pair_93 : decode cX6_pair 93 = .ok (.ifCond .eq 5, 3) := by decide +kernel
theorem dX6_pair_96 : decode cX6_pair 96 = .ok (.iconst 0, 1) := by decide +kernel
theorem dX6_pair_97 : decode cX6_pair 97 = .ok (.ireturn, 1) := by decide +kernel
theorem dX6_pair_98 : decode cX6_pair 98 = .ok (.aload_n 0, 1) := by decide +kernel
theorem dX6_pair_99 : decode cX6_pair 99 = .ok (.invokevirtual 171, 3) := by decide +kernel
theorem dX6_pair_102 : decode cX6_pair 102 = .ok (.aload_n 0, 1) := by decide +kernel
theorem dX6_pair_103 : decode cX6_pair 103 = .ok (.iload_n 1, 1) := by decide +kernel
theorem dX6_pair_104 : decode cX6_pair 104 = .ok (.iload_n 2, 1) := by decide +kernel
theorem dX6_pair_105 : decode cX6_pair 105 = .ok (.invokevirtual 251, 3) := by decide +kernel
theorem dX6_pair_108 : decode cX6_pair 108 = .ok (.aload_n 0, 1) := by decide +kernel
theorem dX6_pair_109 : decode cX6_pair 109 = .ok (.invokevirtual 254, 3) := by decide +kernel
theorem dX6_pair_112 : decode cX6_pair 112 = .ok (.ireturn, 1) := by decide +kernel
theorem dX6_part_0 : decode cX6_part 0 = .ok (.aload_n 0, 1) := by decide +kernel
theorem dX6_part_1 : decode cX6_part 1 = .ok (.iconst 0, 1) := by decide +kernel
theorem dX6_part_2 : decode cX6_part 2 = .ok (.putfield 72, 3) := by decide +kernel
theorem dX6_part_5 : decode cX6_part 5 = .ok (.aload_n 0, 1) := by decide +kernel
theorem dX6_part_6 : decode cX6_part 6 = .ok (.aload_n 0, 1) := by decide +kernel
theorem dX6_part_7 : decode cX6_part 7 = .ok (.iload_n 1, 1) := by decide +kernel
theorem dX6_part_8 : decode cX6_part 8 = .ok (.invokevirtual 245, 3) := by decide +kernel
theorem dX6_part_11 : decode cX6_part 11 = .ok (.ifCond .ne 7, 3) := by decide +kernel
theorem dX6_part_14 : decode cX6_part 14 = .ok (.iconst 1, 1) := by decide +kernel
theorem dX6_part_15 : decode cX6_part 15 = .ok (.goto 4, 3) := by decide +kernel
theorem dX6_part_18 : decode cX6_part 18 = .ok (.iconst 0, 1) := by decide +kernel
theorem dX6_part_19 : decode cX6_part 19 = .ok (.iconst 1, 1) := by decide +kernel
theorem dX6_part_20 : decode cX6_part 20 = .ok (.iconst 0, 1) := by decide +kernel
theorem dX6_part_21 : decode cX6_part 21 = .ok (.invokevirtual 159, 3) := by decide +kernel
theorem dX6_part_24 : decode cX6_part 24 = .ok (.ifCond .ne 26, 3) := by decide +kernel
theorem dX6_part_27 : decode cX6_part 27 = .ok (.aload_n 0, 1) := by decide +kernel
theorem dX6_part_28 : decode cX6_part 28 = .ok (.aload_n 0, 1) := by decide +kernel
theorem dX6_part_29 : decode cX6_part 29 = .ok (.iload_n 1, 1) := by decide +kernel
theorem dX6_part_30 : decode cX6_part 30 = .ok (.invokevirtual 206, 3) := by decide +kernel
theorem dX6_part_33 : decode cX6_part 33 = .ok (.iconst (-1), 1) := by decide +kernel
theorem dX6_part_34 : decode cX6_part 34 = .ok (.if_icmp .ne 7, 3) := by decide +kernel
theorem dX6_part_37 : decode cX6_part 37 = .ok (.iconst 1, 1) := by decide +kernel
theorem dX6_part_38 : decode cX6_part 38 = .ok (.goto 4, 3) := by decide +kernel
theorem dX6_part_41 : decode cX6_part 41 = .ok (.iconst 0, 1) := by decide +kernel
theorem dX6_part_42 : decode cX6_part 42 = .ok (.iconst 2, 1) := by decide +kernel
theorem dX6_part_43 : decode cX6_part 43 = .ok (.iconst 2, 1) := by decide +kernel
theorem dX6_part_44 : decode cX6_part 44 = .ok (.invokevirtual 159, 3) := by decide +kernel
theorem dX6_part_47 : decode cX6_part 47 = .ok (.ifCond .eq 5, 3) := by decide +kernel
theorem dX6_part_50 : decode cX6_part 50 = .ok (.iconst 0, 1) := by decide +kernel
theorem dX6_part_51 : decode cX6_part 51 = .ok (.ireturn, 1) := by decide +kernel
theorem dX6_part_52 : decode cX6_part 52 = .ok (.aload_n 0, 1) := by decide +kernel
theorem dX6_part_53 : decode cX6_part 53 = .ok (.invokevirtual 171, 3) := by decide +kernel
theorem dX6_part_56 : decode cX6_part 56 = .ok (.aload_n 0, 1) := by decide +kernel
theorem dX6_part_57 : decode cX6_part 57 = .ok (.iload_n 1, 1) := by decide +kernel
theorem dX6_part_58 : decode cX6_part 58 = .ok (.invokevirtual 206, 3) := by decide +kernel
theorem dX6_part_61 : decode cX6_part 61 = .ok (.istore_n 2, 1) := by decide +kernel
theorem dX6_part_62 : decode cX6_part 62 = .ok (.aload_n 0, 1) := by decide +kernel
theorem dX6_part_63 : decode cX6_part 63 = .ok (.iload_n 1, 1) := by decide +kernel
theorem dX6_part_64 : decode cX6_part 64 = .ok (.invokevirtual 248, 3) := by decide +kernel
theorem dX6_part_67 : decode cX6_part 67 = .ok (.iload_n 2, 1) := by decide +kernel
theorem dX6_part_68 : decode cX6_part 68 = .ok (.ireturn, 1) := by decide +kernel
theorem dX6_better_0 : decode cX6_better 0 = .ok (.aload_n 0, 1) := by decide +kernel
theorem dX6_better_1 : decode cX6_better 1 = .ok (.iconst 0, 1) := by decide +kernel
theorem dX6_better_2 : decode cX6_better 2 = .ok (.putfield 72, 3) := by decide +kernel
theorem dX6_better_5 : decode cX6_better 5 = .ok (.aload_n 0, 1) := by decide +kernel
theorem dX6_better_6 : decode cX6_better 6 = .ok (.aload_n 0, 1) := by decide +kernel
theorem dX6_better_7 : decode cX6_better 7 = .ok (.iload_n 1, 1) := by decide +kernel
theorem dX6_better_8 : decode cX6_better 8 = .ok (.invokevirtual 245, 3) := by decide +kernel
theorem dX6_better_11 : decode cX6_better 11 = .ok (.ifCond .ne 7, 3) := by decide +kernel
theorem dX6_better_14 : decode cX6_better 14 = .ok (.iconst 1, 1) := by decide +kernel
theorem dX6_better_15 : decode cX6_better 15 = .ok (.goto 4, 3) := by decide +kernel
theorem dX6_better_18 : decode cX6_better 18 = .ok (.iconst 0, 1) := by decide +kernel
theorem dX6_better_19 : decode cX6_better 19 = .ok (.iconst 1, 1) := by decide +kernel
theorem dX6_better_20 : decode cX6_better 20 = .ok (.iconst 0, 1) := by decide +kernel
theorem dX6_better_21 : decode cX6_better 21 = .ok (.invokevirtual 159, 3) := by decide +kernel
theorem dX6_better_24 : decode cX6_better 24 = .ok (.ifCond .ne 25, 3) := by decide +kernel
theorem dX6_better_27 : decode cX6_better 27 = .ok (.aload_n 0, 1) := by decide +kernel
theorem dX6_better_28 : decode cX6_better 28 = .ok (.aload_n 0, 1) := by decide +kernel
theorem dX6_better_29 : decode cX6_better 29 = .ok (.iload_n 1, 1) := by decide +kernel
theorem dX6_better_30 : decode cX6_better 30 = .ok (.invokevirtual 257, 3) := by decide +kernel
theorem dX6_better_33 : decode cX6_better 33 = .ok (.ifCond .ne 7, 3) := by decide +kernel
theorem dX6_better_36 : decode cX6_better 36 = .ok (.iconst 1, 1) := by decide +kernel
theorem dX6_better_37 : decode cX6_better 37 = .ok (.goto 4, 3) := by decide +kernel
theorem dX6_better_40 : decode cX6_better 40 = .ok (.iconst 0, 1) := by decide +kernel
theorem dX6_better_41 : decode cX6_better 41 = .ok (.iconst 2, 1) := by decide +kernel
theorem dX6_better_42 : decode cX6_better 42 = .ok (.iconst 2, 1) := by decide +kernel
theorem dX6_better_43 : decode cX6_better 43 = .ok (.invokevirtual 159, 3) := by decide +kernel
theorem dX6_better_46 : decode cX6_better 46 = .ok (.ifCond .eq 5, 3) := by decide +kernel
theorem dX6_better_49 : decode cX6_better 49 = .ok (.iconst 0, 1) := by decide +kernel
theorem dX6_better_50 : decode cX6_better 50 = .ok (.ireturn, 1) := by decide +kernel
theorem dX6_better_51 : decode cX6_better 51 = .ok (.aload_n 0, 1) := by decide +kernel
theorem dX6_better_52 : decode cX6_better 52 = .ok (.invokevirtual 171, 3) := by decide +kernel
theorem dX6_better_55 : decode cX6_better 55 = .ok (.iconst 0, 1) := by decide +kernel
theorem dX6_better_56 : decode cX6_better 56 = .ok (.istore_n 2, 1) := by decide +kernel
theorem dX6_better_57 : decode cX6_better 57 = .ok (.iload_n 2, 1) := by decide +kernel
theorem dX6_better_58 : decode cX6_better 58 = .ok (.aload_n 0, 1) := by decide +kernel
theorem dX6_better_59 : decode cX6_better 59 = .ok (.getfield 236, 3) := by decide +kernel
theorem dX6_better_62 : decode cX6_better 62 = .ok (.if_icmp .ge 27, 3) := by decide +kernel
theorem dX6_better_65 : decode cX6_better 65 = .ok (.aload_n 0, 1) := by decide +kernel
theorem dX6_better_66 : decode cX6_better 66 = .ok (.aload_n 0, 1) := by decide +kernel
theorem dX6_better_67 : decode cX6_better 67 = .ok (.getfield 55, 3) := by decide +kernel
theorem dX6_better_70 : decode cX6_better 70 = .ok (.iload_n 2, 1) := by decide +kernel
theorem dX6_better_71 : decode cX6_better 71 = .ok (.iaload, 1) := by decide +kernel
theorem dX6_better_72 : decode cX6_better 72 = .ok (.aload_n 0, 1) := by decide +kernel
theorem dX6_better_73 : decode cX6_better 73 = .ok (.getfield 55, 3) := by decide +kernel
theorem dX6_better_76 : decode cX6_better 76 = .ok (.iload_n 2, 1) := by decide +kernel
theorem dX6_better_77 : decode cX6_better 77 = .ok (.iconst 1, 1) := by decide +kernel
theorem dX6_better_78 : decode cX6_better 78 = .ok (.iadd, 1) := by decide +kernel
theorem dX6_better_79 : decode cX6_better 79 = .ok (.iaload, 1) := by decide +kernel
theorem dX6_better_80 : decode cX6_better 80 = .ok (.invokevirtual 251, 3) := by decide +kernel
theorem dX6_better_83 : decode cX6_better 83 = .ok (.iinc 2 2, 3) := by decide +kernel
theorem dX6_better_86 : decode cX6_better 86 = .ok (.goto (-29), 3) := by decide +kernel
theorem dX6_better_89 : decode cX6_better 89 = .ok (.aload_n 0, 1) := by decide +kernel
theorem dX6_better_90 : decode cX6_better 90 = .ok (.invokevirtual 254, 3) := by decide +kernel
theorem dX6_better_93 : decode cX6_better 93 = .ok (.ireturn, 1) := by decide +kernel
theorem dX6_finish_0 : decode cX6_finish 0 = .ok (.aload_n 0, 1) := by decide +kernel
theorem dX6_finish_1 : decode cX6_finish 1 = .ok (.iconst 0, 1) := by decide +kernel
theorem dX6_finish_2 : decode cX6_finish 2 = .ok (.putfield 72, 3) := by decide +kernel
theorem dX6_finish_5 : decode cX6_finish 5 = .ok (.aload_n 0, 1) := by decide +kernel
theorem dX6_finish_6 : decode cX6_finish 6 = .ok (.invokevirtual 171, 3) := by decide +kernel
theorem dX6_finish_9 : decode cX6_finish 9 = .ok (.aload_n 0, 1) := by decide +kernel
theorem dX6_finish_10 : decode cX6_finish 10 = .ok (.invokevirtual 260, 3) := by decide +kernel
theorem dX6_finish_13 : decode cX6_finish 13 = .ok (.aload_n 0, 1) := by decide +kernel
theorem dX6_finish_14 : decode cX6_finish 14 = .ok (.invokevirtual 254, 3) := by decide +kernel
theorem dX6_finish_17 : decode cX6_finish 17 = .ok (.istore_n 1, 1) := by decide +kernel
theorem dX6_finish_18 : decode cX6_finish 18 = .ok (.iconst 0, 1) := by decide +kernel
theorem dX6_finish_19 : decode cX6_finish 19 = .ok (.istore_n 2, 1) := by decide +kernel
theorem dX6_finish_20 : decode cX6_finish 20 = .ok (.iload_n 2, 1) := by decide +kernel
theorem dX6_finish_21 : decode cX6_finish 21 = .ok (.aload_n 0, 1) := by decide +kernel
theorem dX6_finish_22 : decode cX6_finish 22 = .ok (.invokevirtual 181, 3) := by decide +kernel
theorem dX6_finish_25 : decode cX6_finish 25 = .ok (.if_icmp .ge 23, 3) := by decide +kernel
theorem dX6_finish_28 : decode cX6_finish 28 = .ok (.aload_n 0, 1) := by decide +kernel
theorem dX6_finish_29 : decode cX6_finish 29 = .ok (.getfield 20, 3) := by decide +kernel
theorem dX6_finish_32 : decode cX6_finish 32 = .ok (.iconst 1, 1) := by decide +kernel
theorem dX6_finish_33 : decode cX6_finish 33 = .ok (.iload_n 2, 1) := by decide +kernel
theorem dX6_finish_34 : decode cX6_finish 34 = .ok (.iadd, 1) := by decide +kernel
theorem dX6_finish_35 : decode cX6_finish 35 = .ok (.aload_n 0, 1) := by decide +kernel
theorem dX6_finish_36 : decode cX6_finish 36 = .ok (.getfield 47, 3) := by decide +kernel
theorem dX6_finish_39 : decode cX6_finish 39 = .ok (.iload_n 2, 1) := by decide +kernel
theorem dX6_finish_40 : decode cX6_finish 40 = .ok (.iaload, 1) := by decide +kernel
theorem dX6_finish_41 : decode cX6_finish 41 = .ok (.iastore, 1) := by decide +kernel
theorem dX6_finish_42 : decode cX6_finish 42 = .ok (.iinc 2 1, 3) := by decide +kernel
theorem dX6_finish_45 : decode cX6_finish 45 = .ok (.goto (-25), 3) := by decide +kernel
theorem dX6_finish_48 : decode cX6_finish 48 = .ok (.aload_n 0, 1) := by decide +kernel
theorem dX6_finish_49 : decode cX6_finish 49 = .ok (.invokevirtual 254, 3) := by decide +kernel
theorem dX6_finish_52 : decode cX6_finish 52 = .ok (.iload_n 1, 1) := by decide +kernel
theorem dX6_finish_53 : decode cX6_finish 53 = .ok (.isub, 1) := by decide +kernel
theorem dX6_finish_54 : decode cX6_finish 54 = .ok (.ireturn, 1) := by decide +kernel
theorem dX6_shrink_0 : decode cX6_shrink 0 = .ok (.aload_n 0, 1) := by decide +kernel
theorem dX6_shrink_1 : decode cX6_shrink 1 = .ok (.iconst 0, 1) := by decide +kernel
theorem dX6_shrink_2 : decode cX6_shrink 2 = .ok (.putfield 72, 3) := by decide +kernel
theorem dX6_shrink_5 : decode cX6_shrink 5 = .ok (.aload_n 0, 1) := by decide +kernel
theorem dX6_shrink_6 : decode cX6_shrink 6 = .ok (.aload_n 0, 1) := by decide +kernel
theorem dX6_shrink_7 : decode cX6_shrink 7 = .ok (.iload_n 1, 1) := by decide +kernel
theorem dX6_shrink_8 : decode cX6_shrink 8 = .ok (.invokevirtual 245, 3) := by decide +kernel
theorem dX6_shrink_11 : decode cX6_shrink 11 = .ok (.ifCond .ne 7, 3) := by decide +kernel
theorem dX6_shrink_14 : decode cX6_shrink 14 = .ok (.iconst 1, 1) := by decide +kernel
theorem dX6_shrink_15 : decode cX6_shrink 15 = .ok (.goto 4, 3) := by decide +kernel
theorem dX6_shrink_18 : decode cX6_shrink 18 = .ok (.iconst 0, 1) := by decide +kernel
theorem dX6_shrink_19 : decode cX6_shrink 19 = .ok (.iconst 1, 1) := by decide +kernel
theorem dX6_shrink_20 : decode cX6_shrink 20 = .ok (.iconst 0, 1) := by decide +kernel
theorem dX6_shrink_21 : decode cX6_shrink 21 = .ok (.invokevirtual 159, 3) := by decide +kernel
theorem dX6_shrink_24 : decode cX6_shrink 24 = .ok (.ifCond .ne 25, 3) := by decide +kernel
theorem dX6_shrink_27 : decode cX6_shrink 27 = .ok (.aload_n 0, 1) := by decide +kernel
theorem dX6_shrink_28 : decode cX6_shrink 28 = .ok (.aload_n 0, 1) := by decide +kernel
theorem dX6_shrink_29 : decode cX6_shrink 29 = .ok (.iload_n 1, 1) := by decide +kernel
theorem dX6_shrink_30 : decode cX6_shrink 30 = .ok (.invokevirtual 263, 3) := by decide +kernel
theorem dX6_shrink_33 : decode cX6_shrink 33 = .ok (.ifCond .ne 7, 3) := by decide +kernel
theorem dX6_shrink_36 : decode cX6_shrink 36 = .ok (.iconst 1, 1) := by decide +kernel
theorem dX6_shrink_37 : decode cX6_shrink 37 = .ok (.goto 4, 3) := by decide +kernel
theorem dX6_shrink_40 : decode cX6_shrink 40 = .ok (.iconst 0, 1) := by decide +kernel
theorem dX6_shrink_41 : decode cX6_shrink 41 = .ok (.iconst 2, 1) := by decide +kernel
theorem dX6_shrink_42 : decode cX6_shrink 42 = .ok (.iconst 2, 1) := by decide +kernel
theorem dX6_shrink_43 : decode cX6_shrink 43 = .ok (.invokevirtual 159, 3) := by decide +kernel
theorem dX6_shrink_46 : decode cX6_shrink 46 = .ok (.ifCond .eq 5, 3) := by decide +kernel
theorem dX6_shrink_49 : decode cX6_shrink 49 = .ok (.iconst 0, 1) := by decide +kernel
theorem dX6_shrink_50 : decode cX6_shrink 50 = .ok (.ireturn, 1) := by decide +kernel
theorem dX6_shrink_51 : decode cX6_shrink 51 = .ok (.aload_n 0, 1) := by decide +kernel
theorem dX6_shrink_52 : decode cX6_shrink 52 = .ok (.invokevirtual 171, 3) := by decide +kernel
theorem dX6_shrink_55 : decode cX6_shrink 55 = .ok (.iconst 0, 1) := by decide +kernel
theorem dX6_shrink_56 : decode cX6_shrink 56 = .ok (.istore_n 2, 1) := by decide +kernel
theorem dX6_shrink_57 : decode cX6_shrink 57 = .ok (.iconst 0, 1) := by decide +kernel
theorem dX6_shrink_58 : decode cX6_shrink 58 = .ok (.istore_n 3, 1) := by decide +kernel
theorem dX6_shrink_59 : decode cX6_shrink 59 = .ok (.iconst 1, 1) := by decide +kernel
theorem dX6_shrink_60 : decode cX6_shrink 60 = .ok (.istore 4, 2) := by decide +kernel
theorem dX6_shrink_62 : decode cX6_shrink 62 = .ok (.iload 4, 2) := by decide +kernel
theorem dX6_shrink_64 : decode cX6_shrink 64 = .ok (.aload_n 0, 1) := by decide +kernel
theorem dX6_shrink_65 : decode cX6_shrink 65 = .ok (.getfield 236, 3) := by decide +kernel
theorem dX6_shrink_68 : decode cX6_shrink 68 = .ok (.if_icmp .ge 21, 3) := by decide +kernel
theorem dX6_shrink_71 : decode cX6_shrink 71 = .ok (.iload_n 2, 1) := by decide +kernel
theorem dX6_shrink_72 : decode cX6_shrink 72 = .ok (.iconst 1, 1) := by decide +kernel
theorem dX6_shrink_73 : decode cX6_shrink 73 = .ok (.aload_n 0, 1) := by decide +kernel
theorem dX6_shrink_74 : decode cX6_shrink 74 = .ok (.getfield 55, 3) := by decide +kernel
theorem dX6_shrink_77 : decode cX6_shrink 77 = .ok (.iload 4, 2) := by decide +kernel
theorem dX6_shrink_79 : decode cX6_shrink 79 = .ok (.iaload, 1) := by decide +kernel
theorem dX6_shrink_80 : decode cX6_shrink 80 = .ok (.ishl, 1) := by decide +kernel
theorem dX6_shrink_81 : decode cX6_shrink 81 = .ok (.ior, 1) := by decide +kernel
theorem dX6_shrink_82 : decode cX6_shrink 82 = .ok (.istore_n 2, 1) := by decide +kernel
theorem dX6_shrink_83 : decode cX6_shrink 83 = .ok (.iinc 4 1, 3) := by decide +kernel
theorem dX6_shrink_86 : decode cX6_shrink 86 = .ok (.goto (-24), 3) := by decide +kernel
theorem dX6_shrink_89 : decode cX6_shrink 89 = .ok (.iconst 0, 1) := by decide +kernel
theorem dX6_shrink_90 : decode cX6_shrink 90 = .ok (.istore 4, 2) := by decide +kernel
theorem dX6_shrink_92 : decode cX6_shrink 92 = .ok (.iload 4, 2) := by decide +kernel
theorem dX6_shrink_94 : decode cX6_shrink 94 = .ok (.aload_n 0, 1) := by decide +kernel
theorem dX6_shrink_95 : decode cX6_shrink 95 = .ok (.invokevirtual 181, 3) := by decide +kernel
theorem dX6_shrink_98 : decode cX6_shrink 98 = .ok (.if_icmp .ge 91, 3) := by decide +kernel
theorem dX6_shrink_101 : decode cX6_shrink 101 = .ok (.iload 4, 2) := by decide +kernel
theorem dX6_shrink_103 : decode cX6_shrink 103 = .ok (.iload_n 1, 1) := by decide +kernel
theorem dX6_shrink_104 : decode cX6_shrink 104 = .ok (.if_icmp .eq 79, 3) := by decide +kernel
theorem dX6_shrink_107 : decode cX6_shrink 107 = .ok (.iload_n 2, 1) := by decide +kernel
theorem dX6_shrink_108 : decode cX6_shrink 108 = .ok (.iload 4, 2) := by decide +kernel
theorem dX6_shrink_110 : decode cX6_shrink 110 = .ok (.invokestatic 183, 3) := by decide +kernel
theorem dX6_shrink_113 : decode cX6_shrink 113 = .ok (.ifCond .eq 6, 3) := by decide +kernel
theorem dX6_shrink_116 : decode cX6_shrink 116 = .ok (.goto 67, 3) := by decide +kernel
theorem dX6_shrink_119 : decode cX6_shrink 119 = .ok (.iconst 1, 1) := by decide +kernel
theorem dX6_shrink_120 : decode cX6_shrink 120 = .ok (.istore 5, 2) := by decide +kernel
theorem dX6_shrink_122 : decode cX6_shrink 122 = .ok (.iload 5, 2) := by decide +kernel
theorem dX6_shrink_124 : decode cX6_shrink 124 = .ok (.aload_n 0, 1) := by decide +kernel
theorem dX6_shrink_125 : decode cX6_shrink 125 = .ok (.getfield 236, 3) := by decide +kernel
theorem dX6_shrink_128 : decode cX6_shrink 128 = .ok (.if_icmp .ge 55, 3) := by decide +kernel
theorem dX6_shrink_131 : decode cX6_shrink 131 = .ok (.aload_n 0, 1) := by decide +kernel
theorem dX6_shrink_132 : decode cX6_shrink 132 = .ok (.aload_n 0, 1) := by decide +kernel
theorem dX6_shrink_133 : decode cX6_shrink 133 = .ok (.getfield 55, 3) := by decide +kernel
theorem dX6_shrink_136 : decode cX6_shrink 136 = .ok (.iload 5, 2) := by decide +kernel
theorem dX6_shrink_138 : decode cX6_shrink 138 = .ok (.iaload, 1) := by decide +kernel
theorem dX6_shrink_139 : decode cX6_shrink 139 = .ok (.iload 4, 2) := by decide +kernel
theorem dX6_shrink_141 : decode cX6_shrink 141 = .ok (.invokevirtual 203, 3) := by decide +kernel
theorem dX6_shrink_144 : decode cX6_shrink 144 = .ok (.aload_n 0, 1) := by decide +kernel
theorem dX6_shrink_145 : decode cX6_shrink 145 = .ok (.iload_n 1, 1) := by decide +kernel
theorem dX6_shrink_146 : decode cX6_shrink 146 = .ok (.iload 4, 2) := by decide +kernel
theorem dX6_shrink_148 : decode cX6_shrink 148 = .ok (.invokevirtual 203, 3) := by decide +kernel
theorem dX6_shrink_151 : decode cX6_shrink 151 = .ok (.if_icmp .le 26, 3) := by decide +kernel
theorem dX6_shrink_154 : decode cX6_shrink 154 = .ok (.aload_n 0, 1) := by decide +kernel
theorem dX6_shrink_155 : decode cX6_shrink 155 = .ok (.getfield 20, 3) := by decide +kernel
theorem dX6_shrink_158 : decode cX6_shrink 158 = .ok (.iload_n 1, 1) := by decide +kernel
theorem dX6_shrink_159 : decode cX6_shrink 159 = .ok (.iload 4, 2) := by decide +kernel
theorem dX6_shrink_161 : decode cX6_shrink 161 = .ok (.aload_n 0, 1) := by decide +kernel
theorem dX6_shrink_162 : decode cX6_shrink 162 = .ok (.aload_n 0, 1) := by decide +kernel
theorem dX6_shrink_163 : decode cX6_shrink 163 = .ok (.getfield 55, 3) := by decide +kernel
theorem dX6_shrink_166 : decode cX6_shrink 166 = .ok (.iload 5, 2) := by decide +kernel
theorem dX6_shrink_168 : decode cX6_shrink 168 = .ok (.iaload, 1) := by decide +kernel
theorem dX6_shrink_169 : decode cX6_shrink 169 = .ok (.iload 4, 2) := by decide +kernel
theorem dX6_shrink_171 : decode cX6_shrink 171 = .ok (.invokevirtual 203, 3) := by decide +kernel
theorem dX6_shrink_174 : decode cX6_shrink 174 = .ok (.invokestatic 65, 3) := by decide +kernel
theorem dX6_shrink_177 : decode cX6_shrink 177 = .ok (.iinc 5 1, 3) := by decide +kernel
theorem dX6_shrink_180 : decode cX6_shrink 180 = .ok (.goto (-58), 3) := by decide +kernel
theorem dX6_shrink_183 : decode cX6_shrink 183 = .ok (.iinc 4 1, 3) := by decide +kernel
theorem dX6_shrink_186 : decode cX6_shrink 186 = .ok (.goto (-94), 3) := by decide +kernel
theorem dX6_shrink_189 : decode cX6_shrink 189 = .ok (.iconst 0, 1) := by decide +kernel
theorem dX6_shrink_190 : decode cX6_shrink 190 = .ok (.istore 4, 2) := by decide +kernel
theorem dX6_shrink_192 : decode cX6_shrink 192 = .ok (.iload 4, 2) := by decide +kernel
theorem dX6_shrink_194 : decode cX6_shrink 194 = .ok (.aload_n 0, 1) := by decide +kernel
theorem dX6_shrink_195 : decode cX6_shrink 195 = .ok (.invokevirtual 181, 3) := by decide +kernel
theorem dX6_shrink_198 : decode cX6_shrink 198 = .ok (.if_icmp .ge 34, 3) := by decide +kernel
theorem dX6_shrink_201 : decode cX6_shrink 201 = .ok (.aload_n 0, 1) := by decide +kernel
theorem dX6_shrink_202 : decode cX6_shrink 202 = .ok (.getfield 58, 3) := by decide +kernel
theorem dX6_shrink_205 : decode cX6_shrink 205 = .ok (.iload 4, 2) := by decide +kernel
theorem dX6_shrink_207 : decode cX6_shrink 207 = .ok (.iload_n 3, 1) := by decide +kernel
theorem dX6_shrink_208 : decode cX6_shrink 208 = .ok (.iastore, 1) := by decide +kernel
theorem dX6_shrink_209 : decode cX6_shrink 209 = .ok (.iload_n 3, 1) := by decide +kernel
theorem dX6_shrink_210 : decode cX6_shrink 210 = .ok (.iload_n 2, 1) := by decide +kernel
theorem dX6_shrink_211 : decode cX6_shrink 211 = .ok (.iload 4, 2) := by decide +kernel
theorem dX6_shrink_213 : decode cX6_shrink 213 = .ok (.invokestatic 183, 3) := by decide +kernel
theorem dX6_shrink_216 : decode cX6_shrink 216 = .ok (.ifCond .eq 7, 3) := by decide +kernel
theorem dX6_shrink_219 : decode cX6_shrink 219 = .ok (.iconst 0, 1) := by decide +kernel
theorem dX6_shrink_220 : decode cX6_shrink 220 = .ok (.goto 4, 3) := by decide +kernel
theorem dX6_shrink_223 : decode cX6_shrink 223 = .ok (.iconst 1, 1) := by decide +kernel
theorem dX6_shrink_224 : decode cX6_shrink 224 = .ok (.iadd, 1) := by decide +kernel
theorem dX6_shrink_225 : decode cX6_shrink 225 = .ok (.istore_n 3, 1) := by decide +kernel
theorem dX6_shrink_226 : decode cX6_shrink 226 = .ok (.iinc 4 1, 3) := by decide +kernel
theorem dX6_shrink_229 : decode cX6_shrink 229 = .ok (.goto (-37), 3) := by decide +kernel
theorem dX6_shrink_232 : decode cX6_shrink 232 = .ok (.aload_n 0, 1) := by decide +kernel
theorem dX6_shrink_233 : decode cX6_shrink 233 = .ok (.getfield 20, 3) := by decide +kernel
theorem dX6_shrink_236 : decode cX6_shrink 236 = .ok (.aload_n 0, 1) := by decide +kernel
theorem dX6_shrink_237 : decode cX6_shrink 237 = .ok (.getfield 23, 3) := by decide +kernel
theorem dX6_shrink_240 : decode cX6_shrink 240 = .ok (.invokestatic 174, 3) := by decide +kernel
theorem dX6_shrink_243 : decode cX6_shrink 243 = .ok (.aload_n 0, 1) := by decide +kernel
theorem dX6_shrink_244 : decode cX6_shrink 244 = .ok (.getfield 20, 3) := by decide +kernel
theorem dX6_shrink_247 : decode cX6_shrink 247 = .ok (.invokestatic 61, 3) := by decide +kernel
theorem dX6_shrink_250 : decode cX6_shrink 250 = .ok (.aload_n 0, 1) := by decide +kernel
theorem dX6_shrink_251 : decode cX6_shrink 251 = .ok (.getfield 20, 3) := by decide +kernel
theorem dX6_shrink_254 : decode cX6_shrink 254 = .ok (.iconst 0, 1) := by decide +kernel
theorem dX6_shrink_255 : decode cX6_shrink 255 = .ok (.iload_n 3, 1) := by decide +kernel
theorem dX6_shrink_256 : decode cX6_shrink 256 = .ok (.iastore, 1) := by decide +kernel
theorem dX6_shrink_257 : decode cX6_shrink 257 = .ok (.iconst 0, 1) := by decide +kernel
theorem dX6_shrink_258 : decode cX6_shrink 258 = .ok (.istore 4, 2) := by decide +kernel
theorem dX6_shrink_260 : decode cX6_shrink 260 = .ok (.iload 4, 2) := by decide +kernel
theorem dX6_shrink_262 : decode cX6_shrink 262 = .ok (.aload_n 0, 1) := by decide +kernel
theorem dX6_shrink_263 : decode cX6_shrink 263 = .ok (.getfield 23, 3) := by decide +kernel
theorem dX6_shrink_266 : decode cX6_shrink 266 = .ok (.iconst 0, 1) := by decide +kernel
theorem dX6_shrink_267 : decode cX6_shrink 267 = .ok (.iaload, 1) := by decide +kernel
theorem dX6_shrink_268 : decode cX6_shrink 268 = .ok (.if_icmp .ge 128, 3) := by decide +kernel
theorem dX6_shrink_271 : decode cX6_shrink 271 = .ok (.iload_n 2, 1) := by decide +kernel
theorem dX6_shrink_272 : decode cX6_shrink 272 = .ok (.iload 4, 2) := by decide +kernel
theorem dX6_shrink_274 : decode cX6_shrink 274 = .ok (.invokestatic 183, 3) := by decide +kernel
theorem dX6_shrink_277 : decode cX6_shrink 277 = .ok (.ifCond .eq 6, 3) := by decide +kernel
theorem dX6_shrink_280 : decode cX6_shrink 280 = .ok (.goto 110, 3) := by decide +kernel
theorem dX6_shrink_283 : decode cX6_shrink 283 = .ok (.aload_n 0, 1) := by decide +kernel
theorem dX6_shrink_284 : decode cX6_shrink 284 = .ok (.getfield 20, 3) := by decide +kernel
theorem dX6_shrink_287 : decode cX6_shrink 287 = .ok (.iconst 1, 1) := by decide +kernel
theorem dX6_shrink_288 : decode cX6_shrink 288 = .ok (.aload_n 0, 1) := by decide +kernel
theorem dX6_shrink_289 : decode cX6_shrink 289 = .ok (.getfield 58, 3) := by decide +kernel
theorem dX6_shrink_292 : decode cX6_shrink 292 = .ok (.iload 4, 2) := by decide +kernel
theorem dX6_shrink_294 : decode cX6_shrink 294 = .ok (.iaload, 1) := by decide +kernel
theorem dX6_shrink_295 : decode cX6_shrink 295 = .ok (.iadd, 1) := by decide +kernel
theorem dX6_shrink_296 : decode cX6_shrink 296 = .ok (.aload_n 0, 1) := by decide +kernel
theorem dX6_shrink_297 : decode cX6_shrink 297 = .ok (.getfield 23, 3) := by decide +kernel
theorem dX6_shrink_300 : decode cX6_shrink 300 = .ok (.iconst 1, 1) := by decide +kernel
theorem dX6_shrink_301 : decode cX6_shrink 301 = .ok (.iload 4, 2) := by decide +kernel
theorem dX6_shrink_303 : decode cX6_shrink 303 = .ok (.iadd, 1) := by decide +kernel
theorem dX6_shrink_304 : decode cX6_shrink 304 = .ok (.iaload, 1) := by decide +kernel
theorem dX6_shrink_305 : decode cX6_shrink 305 = .ok (.iconst (-1), 1) := by decide +kernel
theorem dX6_shrink_306 : decode cX6_shrink 306 = .ok (.if_icmp .ne 7, 3) := by decide +kernel
theorem dX6_shrink_309 : decode cX6_shrink 309 = .ok (.iconst (-1), 1) := by decide +kernel
theorem dX6_shrink_310 : decode cX6_shrink 310 = .ok (.goto 17, 3) := by decide +kernel
theorem dX6_shrink_313 : decode cX6_shrink 313 = .ok (.aload_n 0, 1) := by decide +kernel
theorem dX6_shrink_314 : decode cX6_shrink 314 = .ok (.getfield 58, 3) := by decide +kernel
theorem dX6_shrink_317 : decode cX6_shrink 317 = .ok (.aload_n 0, 1) := by decide +kernel
theorem dX6_shrink_318 : decode cX6_shrink 318 = .ok (.getfield 23, 3) := by decide +kernel
theorem dX6_shrink_321 : decode cX6_shrink 321 = .ok (.iconst 1, 1) := by decide +kernel
theorem dX6_shrink_322 : decode cX6_shrink 322 = .ok (.iload 4, 2) := by decide +kernel
theorem dX6_shrink_324 : decode cX6_shrink 324 = .ok (.iadd, 1) := by decide +kernel
theorem dX6_shrink_325 : decode cX6_shrink 325 = .ok (.iaload, 1) := by decide +kernel
theorem dX6_shrink_326 : decode cX6_shrink 326 = .ok (.iaload, 1) := by decide +kernel
theorem dX6_shrink_327 : decode cX6_shrink 327 = .ok (.iastore, 1) := by decide +kernel
theorem dX6_shrink_328 : decode cX6_shrink 328 = .ok (.iconst 0, 1) := by decide +kernel
theorem dX6_shrink_329 : decode cX6_shrink 329 = .ok (.istore 5, 2) := by decide +kernel
theorem dX6_shrink_331 : decode cX6_shrink 331 = .ok (.iload 5, 2) := by decide +kernel
theorem dX6_shrink_333 : decode cX6_shrink 333 = .ok (.iload 4, 2) := by decide +kernel
theorem dX6_shrink_335 : decode cX6_shrink 335 = .ok (.if_icmp .ge 55, 3) := by decide +kernel
theorem dX6_shrink_338 : decode cX6_shrink 338 = .ok (.iload_n 2, 1) := by decide +kernel
theorem dX6_shrink_339 : decode cX6_shrink 339 = .ok (.iload 5, 2) := by decide +kernel
theorem dX6_shrink_341 : decode cX6_shrink 341 = .ok (.invokestatic 183, 3) := by decide +kernel
theorem dX6_shrink_344 : decode cX6_shrink 344 = .ok (.ifCond .ne 40, 3) := by decide +kernel
theorem dX6_shrink_347 : decode cX6_shrink 347 = .ok (.aload_n 0, 1) := by decide +kernel
theorem dX6_shrink_348 : decode cX6_shrink 348 = .ok (.getfield 20, 3) := by decide +kernel
theorem dX6_shrink_351 : decode cX6_shrink 351 = .ok (.aload_n 0, 1) := by decide +kernel
theorem dX6_shrink_352 : decode cX6_shrink 352 = .ok (.getfield 58, 3) := by decide +kernel
theorem dX6_shrink_355 : decode cX6_shrink 355 = .ok (.iload 4, 2) := by decide +kernel
theorem dX6_shrink_357 : decode cX6_shrink 357 = .ok (.iaload, 1) := by decide +kernel
theorem dX6_shrink_358 : decode cX6_shrink 358 = .ok (.aload_n 0, 1) := by decide +kernel
theorem dX6_shrink_359 : decode cX6_shrink 359 = .ok (.getfield 58, 3) := by decide +kernel
theorem dX6_shrink_362 : decode cX6_shrink 362 = .ok (.iload 5, 2) := by decide +kernel
theorem dX6_shrink_364 : decode cX6_shrink 364 = .ok (.iaload, 1) := by decide +kernel
theorem dX6_shrink_365 : decode cX6_shrink 365 = .ok (.aload_n 0, 1) := by decide +kernel
theorem dX6_shrink_366 : decode cX6_shrink 366 = .ok (.getfield 23, 3) := by decide +kernel
theorem dX6_shrink_369 : decode cX6_shrink 369 = .ok (.bipush 13, 2) := by decide +kernel
theorem dX6_shrink_371 : decode cX6_shrink 371 = .ok (.bipush 12, 2) := by decide +kernel
theorem dX6_shrink_373 : decode cX6_shrink 373 = .ok (.iload 4, 2) := by decide +kernel
theorem dX6_shrink_375 : decode cX6_shrink 375 = .ok (.imul, 1) := by decide +kernel
theorem dX6_shrink_376 : decode cX6_shrink 376 = .ok (.iadd, 1) := by decide +kernel
theorem dX6_shrink_377 : decode cX6_shrink 377 = .ok (.iload 5, 2) := by decide +kernel
theorem dX6_shrink_379 : decode cX6_shrink 379 = .ok (.iadd, 1) := by decide +kernel
theorem dX6_shrink_380 : decode cX6_shrink 380 = .ok (.iaload, 1) := by decide +kernel
theorem dX6_shrink_381 : decode cX6_shrink 381 = .ok (.invokestatic 65, 3) := by decide +kernel
theorem dX6_shrink_384 : decode cX6_shrink 384 = .ok (.iinc 5 1, 3) := by decide +kernel
theorem dX6_shrink_387 : decode cX6_shrink 387 = .ok (.goto (-56), 3) := by decide +kernel
theorem dX6_shrink_390 : decode cX6_shrink 390 = .ok (.iinc 4 1, 3) := by decide +kernel
theorem dX6_shrink_393 : decode cX6_shrink 393 = .ok (.goto (-133), 3) := by decide +kernel
theorem dX6_shrink_396 : decode cX6_shrink 396 = .ok (.aload_n 0, 1) := by decide +kernel
theorem dX6_shrink_397 : decode cX6_shrink 397 = .ok (.invokevirtual 69, 3) := by decide +kernel
theorem dX6_shrink_400 : decode cX6_shrink 400 = .ok (.iload_n 3, 1) := by decide +kernel
theorem dX6_shrink_401 : decode cX6_shrink 401 = .ok (.ireturn, 1) := by decide +kernel
theorem dX6_told_0 : decode cX6_told 0 = .ok (.aload_n 0, 1) := by decide +kernel
theorem dX6_told_1 : decode cX6_told 1 = .ok (.iconst 0, 1) := by decide +kernel
theorem dX6_told_2 : decode cX6_told 2 = .ok (.putfield 72, 3) := by decide +kernel
theorem dX6_told_5 : decode cX6_told 5 = .ok (.aload_n 0, 1) := by decide +kernel
theorem dX6_told_6 : decode cX6_told 6 = .ok (.iload_n 1, 1) := by decide +kernel
theorem dX6_told_7 : decode cX6_told 7 = .ok (.iconst 0, 1) := by decide +kernel
theorem dX6_told_8 : decode cX6_told 8 = .ok (.bipush 7, 2) := by decide +kernel
theorem dX6_told_10 : decode cX6_told 10 = .ok (.invokestatic 111, 3) := by decide +kernel
theorem dX6_told_13 : decode cX6_told 13 = .ok (.ifCond .ne 7, 3) := by decide +kernel
theorem dX6_told_16 : decode cX6_told 16 = .ok (.iconst 1, 1) := by decide +kernel
theorem dX6_told_17 : decode cX6_told 17 = .ok (.goto 4, 3) := by decide +kernel
theorem dX6_told_20 : decode cX6_told 20 = .ok (.iconst 0, 1) := by decide +kernel
theorem dX6_told_21 : decode cX6_told 21 = .ok (.iconst 1, 1) := by decide +kernel
theorem dX6_told_22 : decode cX6_told 22 = .ok (.iconst 1, 1) := by decide +kernel
theorem dX6_told_23 : decode cX6_told 23 = .ok (.invokevirtual 159, 3) := by decide +kernel
theorem dX6_told_26 : decode cX6_told 26 = .ok (.ifCond .eq 5, 3) := by decide +kernel
theorem dX6_told_29 : decode cX6_told 29 = .ok (.iconst 0, 1) := by decide +kernel
theorem dX6_told_30 : decode cX6_told 30 = .ok (.ireturn, 1) := by decide +kernel
theorem dX6_told_31 : decode cX6_told 31 = .ok (.aload_n 0, 1) := by decide +kernel
theorem dX6_told_32 : decode cX6_told 32 = .ok (.invokevirtual 209, 3) := by decide +kernel
theorem dX6_told_35 : decode cX6_told 35 = .ok (.iconst 0, 1) := by decide +kernel
theorem dX6_told_36 : decode cX6_told 36 = .ok (.istore_n 2, 1) := by decide +kernel
theorem dX6_told_37 : decode cX6_told 37 = .ok (.iconst 0, 1) := by decide +kernel
theorem dX6_told_38 : decode cX6_told 38 = .ok (.istore_n 3, 1) := by decide +kernel
theorem dX6_told_39 : decode cX6_told 39 = .ok (.iload_n 3, 1) := by decide +kernel
theorem dX6_told_40 : decode cX6_told 40 = .ok (.aload_n 0, 1) := by decide +kernel
theorem dX6_told_41 : decode cX6_told 41 = .ok (.invokevirtual 181, 3) := by decide +kernel
theorem dX6_told_44 : decode cX6_told 44 = .ok (.if_icmp .ge 35, 3) := by decide +kernel
theorem dX6_told_47 : decode cX6_told 47 = .ok (.iload_n 2, 1) := by decide +kernel
theorem dX6_told_48 : decode cX6_told 48 = .ok (.aload_n 0, 1) := by decide +kernel
theorem dX6_told_49 : decode cX6_told 49 = .ok (.iload_n 3, 1) := by decide +kernel
theorem dX6_told_50 : decode cX6_told 50 = .ok (.invokevirtual 206, 3) := by decide +kernel
theorem dX6_told_53 : decode cX6_told 53 = .ok (.iload_n 3, 1) := by decide +kernel
theorem dX6_told_54 : decode cX6_told 54 = .ok (.if_icmp .le 16, 3) := by decide +kernel
theorem dX6_told_57 : decode cX6_told 57 = .ok (.aload_n 0, 1) := by decide +kernel
theorem dX6_told_58 : decode cX6_told 58 = .ok (.iload_n 3, 1) := by decide +kernel
theorem dX6_told_59 : decode cX6_told 59 = .ok (.aload_n 0, 1) := by decide +kernel
theorem dX6_told_60 : decode cX6_told 60 = .ok (.iload_n 3, 1) := by decide +kernel
theorem dX6_told_61 : decode cX6_told 61 = .ok (.invokevirtual 206, 3) := by decide +kernel
theorem dX6_told_64 : decode cX6_told 64 = .ok (.invokevirtual 203, 3) := by decide +kernel
theorem dX6_told_67 : decode cX6_told 67 = .ok (.goto 4, 3) := by decide +kernel
theorem dX6_told_70 : decode cX6_told 70 = .ok (.iconst 0, 1) := by decide +kernel
theorem dX6_told_71 : decode cX6_told 71 = .ok (.iadd, 1) := by decide +kernel
theorem dX6_told_72 : decode cX6_told 72 = .ok (.istore_n 2, 1) := by decide +kernel
theorem dX6_told_73 : decode cX6_told 73 = .ok (.iinc 3 1, 3) := by decide +kernel
theorem dX6_told_76 : decode cX6_told 76 = .ok (.goto (-37), 3) := by decide +kernel
theorem dX6_told_79 : decode cX6_told 79 = .ok (.iload_n 1, 1) := by decide +kernel
theorem dX6_told_80 : decode cX6_told 80 = .ok (.tableswitch 81 0 6 #[44, 49, 54, 59, 69, 74, 76], 44) := by decide +kernel
theorem dX6_told_124 : decode cX6_told 124 = .ok (.aload_n 0, 1) := by decide +kernel
theorem dX6_told_125 : decode cX6_told 125 = .ok (.invokevirtual 181, 3) := by decide +kernel
theorem dX6_told_128 : decode cX6_told 128 = .ok (.ireturn, 1) := by decide +kernel
theorem dX6_told_129 : decode cX6_told 129 = .ok (.aload_n 0, 1) := by decide +kernel
theorem dX6_told_130 : decode cX6_told 130 = .ok (.invokevirtual 178, 3) := by decide +kernel
theorem dX6_told_133 : decode cX6_told 133 = .ok (.ireturn, 1) := by decide +kernel
theorem dX6_told_134 : decode cX6_told 134 = .ok (.aload_n 0, 1) := by decide +kernel
theorem dX6_told_135 : decode cX6_told 135 = .ok (.invokevirtual 254, 3) := by decide +kernel
theorem dX6_told_138 : decode cX6_told 138 = .ok (.ireturn, 1) := by decide +kernel
theorem dX6_told_139 : decode cX6_told 139 = .ok (.aload_n 0, 1) := by decide +kernel
theorem dX6_told_140 : decode cX6_told 140 = .ok (.getfield 34, 3) := by decide +kernel
theorem dX6_told_143 : decode cX6_told 143 = .ok (.aload_n 0, 1) := by decide +kernel
theorem dX6_told_144 : decode cX6_told 144 = .ok (.invokevirtual 194, 3) := by decide +kernel
theorem dX6_told_147 : decode cX6_told 147 = .ok (.iaload, 1) := by decide +kernel
theorem dX6_told_148 : decode cX6_told 148 = .ok (.ireturn, 1) := by decide +kernel
theorem dX6_told_149 : decode cX6_told 149 = .ok (.aload_n 0, 1) := by decide +kernel
theorem dX6_told_150 : decode cX6_told 150 = .ok (.invokevirtual 266, 3) := by decide +kernel
theorem dX6_told_153 : decode cX6_told 153 = .ok (.ireturn, 1) := by decide +kernel
theorem dX6_told_154 : decode cX6_told 154 = .ok (.iload_n 2, 1) := by decide +kernel
theorem dX6_told_155 : decode cX6_told 155 = .ok (.ireturn, 1) := by decide +kernel
theorem dX6_told_156 : decode cX6_told 156 = .ok (.aload_n 0, 1) := by decide +kernel
theorem dX6_told_157 : decode cX6_told 157 = .ok (.getfield 75, 3) := by decide +kernel
theorem dX6_told_160 : decode cX6_told 160 = .ok (.ireturn, 1) := by decide +kernel
theorem dX6_told_161 : decode cX6_told 161 = .ok (.aload_n 0, 1) := by decide +kernel
theorem dX6_told_162 : decode cX6_told 162 = .ok (.getfield 242, 3) := by decide +kernel
theorem dX6_told_165 : decode cX6_told 165 = .ok (.ireturn, 1) := by decide +kernel
theorem dX6_line_0 : decode cX6_line 0 = .ok (.aload_n 0, 1) := by decide +kernel
theorem dX6_line_1 : decode cX6_line 1 = .ok (.iconst 0, 1) := by decide +kernel
theorem dX6_line_2 : decode cX6_line 2 = .ok (.putfield 72, 3) := by decide +kernel
theorem dX6_line_5 : decode cX6_line 5 = .ok (.aload_n 0, 1) := by decide +kernel
theorem dX6_line_6 : decode cX6_line 6 = .ok (.aload_n 0, 1) := by decide +kernel
theorem dX6_line_7 : decode cX6_line 7 = .ok (.iload_n 1, 1) := by decide +kernel
theorem dX6_line_8 : decode cX6_line 8 = .ok (.invokevirtual 245, 3) := by decide +kernel
theorem dX6_line_11 : decode cX6_line 11 = .ok (.ifCond .eq 11, 3) := by decide +kernel
theorem dX6_line_14 : decode cX6_line 14 = .ok (.aload_n 0, 1) := by decide +kernel
theorem dX6_line_15 : decode cX6_line 15 = .ok (.iload_n 2, 1) := by decide +kernel
theorem dX6_line_16 : decode cX6_line 16 = .ok (.invokevirtual 245, 3) := by decide +kernel
theorem dX6_line_19 : decode cX6_line 19 = .ok (.ifCond .ne 7, 3) := by decide +kernel
theorem dX6_line_22 : decode cX6_line 22 = .ok (.iconst 1, 1) := by decide +kernel
theorem dX6_line_23 : decode cX6_line 23 = .ok (.goto 4, 3) := by decide +kernel
theorem dX6_line_26 : decode cX6_line 26 = .ok (.iconst 0, 1) := by decide +kernel
theorem dX6_line_27 : decode cX6_line 27 = .ok (.iconst 1, 1) := by decide +kernel
theorem dX6_line_28 : decode cX6_line 28 = .ok (.iconst 0, 1) := by decide +kernel
theorem dX6_line_29 : decode cX6_line 29 = .ok (.invokevirtual 159, 3) := by decide +kernel
theorem dX6_line_32 : decode cX6_line 32 = .ok (.ifCond .ne 31, 3) := by decide +kernel
theorem dX6_line_35 : decode cX6_line 35 = .ok (.aload_n 0, 1) := by decide +kernel
theorem dX6_line_36 : decode cX6_line 36 = .ok (.iload_n 1, 1) := by decide +kernel
theorem dX6_line_37 : decode cX6_line 37 = .ok (.iload_n 2, 1) := by decide +kernel
theorem dX6_line_38 : decode cX6_line 38 = .ok (.if_icmp .eq 12, 3) := by decide +kernel
theorem dX6_line_41 : decode cX6_line 41 = .ok (.iload_n 3, 1) := by decide +kernel
theorem dX6_line_42 : decode cX6_line 42 = .ok (.iconst 0, 1) := by decide +kernel
theorem dX6_line_43 : decode cX6_line 43 = .ok (.iconst 4, 1) := by decide +kernel
theorem dX6_line_44 : decode cX6_line 44 = .ok (.invokestatic 111, 3) := by decide +kernel
theorem dX6_line_47 : decode cX6_line 47 = .ok (.ifCond .ne 7, 3) := by decide +kernel
theorem dX6_line_50 : decode cX6_line 50 = .ok (.iconst 1, 1) := by decide +kernel
theorem dX6_line_51 : decode cX6_line 51 = .ok (.goto 4, 3) := by decide +kernel
theorem dX6_line_54 : decode cX6_line 54 = .ok (.iconst 0, 1) := by decide +kernel
theorem dX6_line_55 : decode cX6_line 55 = .ok (.iconst 2, 1) := by decide +kernel
theorem dX6_line_56 : decode cX6_line 56 = .ok (.iconst 1, 1) := by decide +kernel
theorem dX6_line_57 : decode cX6_line 57 = .ok (.invokevirtual 159, 3) := by decide +kernel
theorem dX6_line_60 : decode cX6_line 60 = .ok (.ifCond .eq 5, 3) := by decide +kernel
theorem dX6_line_63 : decode cX6_line 63 = .ok (.iconst 0, 1) := by decide +kernel
theorem dX6_line_64 : decode cX6_line 64 = .ok (.ireturn, 1) := by decide +kernel
theorem dX6_line_65 : decode cX6_line 65 = .ok (.aload_n 0, 1) := by decide +kernel
theorem dX6_line_66 : decode cX6_line 66 = .ok (.invokevirtual 209, 3) := by decide +kernel
theorem dX6_line_69 : decode cX6_line 69 = .ok (.aload_n 0, 1) := by decide +kernel
theorem dX6_line_70 : decode cX6_line 70 = .ok (.iload_n 1, 1) := by decide +kernel
theorem dX6_line_71 : decode cX6_line 71 = .ok (.iload_n 2, 1) := by decide +kernel
theorem dX6_line_72 : decode cX6_line 72 = .ok (.invokevirtual 203, 3) := by decide +kernel
theorem dX6_line_75 : decode cX6_line 75 = .ok (.iconst (-1), 1) := by decide +kernel
theorem dX6_line_76 : decode cX6_line 76 = .ok (.if_icmp .eq 7, 3) := by decide +kernel
theorem dX6_line_79 : decode cX6_line 79 = .ok (.iconst 1, 1) := by decide +kernel
theorem dX6_line_80 : decode cX6_line 80 = .ok (.goto 4, 3) := by decide +kernel
theorem dX6_line_83 : decode cX6_line 83 = .ok (.iconst 0, 1) := by decide +kernel
theorem dX6_line_84 : decode cX6_line 84 = .ok (.istore 4, 2) := by decide +kernel
theorem dX6_line_86 : decode cX6_line 86 = .ok (.aload_n 0, 1) := by decide +kernel
theorem dX6_line_87 : decode cX6_line 87 = .ok (.invokevirtual 194, 3) := by decide +kernel
theorem dX6_line_90 : decode cX6_line 90 = .ok (.iconst 1, 1) := by decide +kernel
theorem dX6_line_91 : decode cX6_line 91 = .ok (.iload_n 1, 1) := by decide +kernel
theorem dX6_line_92 : decode cX6_line 92 = .ok (.ishl, 1) := by decide +kernel
theorem dX6_line_93 : decode cX6_line 93 = .ok (.iconst (-1), 1) := by decide +kernel
theorem dX6_line_94 : decode cX6_line 94 = .ok (.ixor, 1) := by decide +kernel
theorem dX6_line_95 : decode cX6_line 95 = .ok (.iand, 1) := by decide +kernel
theorem dX6_line_96 : decode cX6_line 96 = .ok (.iconst 1, 1) := by decide +kernel
theorem dX6_line_97 : decode cX6_line 97 = .ok (.iload_n 2, 1) := by decide +kernel
theorem dX6_line_98 : decode cX6_line 98 = .ok (.ishl, 1) := by decide +kernel
theorem dX6_line_99 : decode cX6_line 99 = .ok (.iconst (-1), 1) := by decide +kernel
theorem dX6_line_100 : decode cX6_line 100 = .ok (.ixor, 1) := by decide +kernel
theorem dX6_line_101 : decode cX6_line 101 = .ok (.iand, 1) := by decide +kernel
theorem dX6_line_102 : decode cX6_line 102 = .ok (.istore 5, 2) := by decide +kernel
theorem dX6_line_104 : decode cX6_line 104 = .ok (.iload 4, 2) := by decide +kernel
theorem dX6_line_106 : decode cX6_line 106 = .ok (.ifCond .eq 28, 3) := by decide +kernel
theorem dX6_line_109 : decode cX6_line 109 = .ok (.aload_n 0, 1) := by decide +kernel
theorem dX6_line_110 : decode cX6_line 110 = .ok (.getfield 34, 3) := by decide +kernel
theorem dX6_line_113 : decode cX6_line 113 = .ok (.iload 5, 2) := by decide +kernel
theorem dX6_line_115 : decode cX6_line 115 = .ok (.iaload, 1) := by decide +kernel
theorem dX6_line_116 : decode cX6_line 116 = .ok (.iconst 1, 1) := by decide +kernel
theorem dX6_line_117 : decode cX6_line 117 = .ok (.iadd, 1) := by decide +kernel
theorem dX6_line_118 : decode cX6_line 118 = .ok (.aload_n 0, 1) := by decide +kernel
theorem dX6_line_119 : decode cX6_line 119 = .ok (.getfield 34, 3) := by decide +kernel
theorem dX6_line_122 : decode cX6_line 122 = .ok (.aload_n 0, 1) := by decide +kernel
theorem dX6_line_123 : decode cX6_line 123 = .ok (.invokevirtual 194, 3) := by decide +kernel
theorem dX6_line_126 : decode cX6_line 126 = .ok (.iaload, 1) := by decide +kernel
theorem dX6_line_127 : decode cX6_line 127 = .ok (.if_icmp .ne 7, 3) := by decide +kernel
theorem dX6_line_130 : decode cX6_line 130 = .ok (.iconst 1, 1) := by decide +kernel
theorem dX6_line_131 : decode cX6_line 131 = .ok (.goto 4, 3) := by decide +kernel
theorem dX6_line_134 : decode cX6_line 134 = .ok (.iconst 0, 1) := by decide +kernel
theorem dX6_line_135 : decode cX6_line 135 = .ok (.istore 6, 2) := by decide +kernel
theorem dX6_line_137 : decode cX6_line 137 = .ok (.iload_n 3, 1) := by decide +kernel
theorem dX6_line_138 : decode cX6_line 138 = .ok (.tableswitch 74 0 3 #[30, 41, 48, 63], 30) := by decide +kernel
theorem dX6_line_168 : decode cX6_line 168 = .ok (.iload 4, 2) := by decide +kernel
theorem dX6_line_170 : decode cX6_line 170 = .ok (.ifCond .eq 7, 3) := by decide +kernel
theorem dX6_line_173 : decode cX6_line 173 = .ok (.iconst 1, 1) := by decide +kernel
theorem dX6_line_174 : decode cX6_line 174 = .ok (.goto 4, 3) := by decide +kernel
theorem dX6_line_177 : decode cX6_line 177 = .ok (.iconst 0, 1) := by decide +kernel
theorem dX6_line_178 : decode cX6_line 178 = .ok (.ireturn, 1) := by decide +kernel
theorem dX6_line_179 : decode cX6_line 179 = .ok (.aload_n 0, 1) := by decide +kernel
theorem dX6_line_180 : decode cX6_line 180 = .ok (.iload_n 1, 1) := by decide +kernel
theorem dX6_line_181 : decode cX6_line 181 = .ok (.iload_n 2, 1) := by decide +kernel
theorem dX6_line_182 : decode cX6_line 182 = .ok (.invokevirtual 203, 3) := by decide +kernel
theorem dX6_line_185 : decode cX6_line 185 = .ok (.ireturn, 1) := by decide +kernel
theorem dX6_line_186 : decode cX6_line 186 = .ok (.aload_n 0, 1) := by decide +kernel
theorem dX6_line_187 : decode cX6_line 187 = .ok (.iload_n 1, 1) := by decide +kernel
theorem dX6_line_188 : decode cX6_line 188 = .ok (.invokevirtual 206, 3) := by decide +kernel
theorem dX6_line_191 : decode cX6_line 191 = .ok (.iload_n 2, 1) := by decide +kernel
theorem dX6_line_192 : decode cX6_line 192 = .ok (.if_icmp .ne 7, 3) := by decide +kernel
theorem dX6_line_195 : decode cX6_line 195 = .ok (.iconst 1, 1) := by decide +kernel
theorem dX6_line_196 : decode cX6_line 196 = .ok (.goto 4, 3) := by decide +kernel
theorem dX6_line_199 : decode cX6_line 199 = .ok (.iconst 0, 1) := by decide +kernel
theorem dX6_line_200 : decode cX6_line 200 = .ok (.ireturn, 1) := by decide +kernel
theorem dX6_line_201 : decode cX6_line 201 = .ok (.iload 6, 2) := by decide +kernel
theorem dX6_line_203 : decode cX6_line 203 = .ok (.ifCond .eq 7, 3) := by decide +kernel
theorem dX6_line_206 : decode cX6_line 206 = .ok (.iconst 1, 1) := by decide +kernel
theorem dX6_line_207 : decode cX6_line 207 = .ok (.goto 4, 3) := by decide +kernel
theorem dX6_line_210 : decode cX6_line 210 = .ok (.iconst 0, 1) := by decide +kernel
theorem dX6_line_211 : decode cX6_line 211 = .ok (.ireturn, 1) := by decide +kernel
theorem dX6_line_212 : decode cX6_line 212 = .ok (.iload 6, 2) := by decide +kernel
theorem dX6_line_214 : decode cX6_line 214 = .ok (.ifCond .eq 27, 3) := by decide +kernel
theorem dX6_line_217 : decode cX6_line 217 = .ok (.aload_n 0, 1) := by decide +kernel
theorem dX6_line_218 : decode cX6_line 218 = .ok (.getfield 43, 3) := by decide +kernel
theorem dX6_line_221 : decode cX6_line 221 = .ok (.iload 5, 2) := by decide +kernel
theorem dX6_line_223 : decode cX6_line 223 = .ok (.laload, 1) := by decide +kernel
theorem dX6_line_224 : decode cX6_line 224 = .ok (.aload_n 0, 1) := by decide +kernel
theorem dX6_line_225 : decode cX6_line 225 = .ok (.getfield 43, 3) := by decide +kernel
theorem dX6_line_228 : decode cX6_line 228 = .ok (.aload_n 0, 1) := by decide +kernel
theorem dX6_line_229 : decode cX6_line 229 = .ok (.invokevirtual 194, 3) := by decide +kernel
theorem dX6_line_232 : decode cX6_line 232 = .ok (.laload, 1) := by decide +kernel
theorem dX6_line_233 : decode cX6_line 233 = .ok (.lcmp, 1) := by decide +kernel
theorem dX6_line_234 : decode cX6_line 234 = .ok (.ifCond .ne 7, 3) := by decide +kernel
theorem dX6_line_237 : decode cX6_line 237 = .ok (.iconst 1, 1) := by decide +kernel
theorem dX6_line_238 : decode cX6_line 238 = .ok (.goto 4, 3) := by decide +kernel
theorem dX6_line_241 : decode cX6_line 241 = .ok (.iconst 0, 1) := by decide +kernel
theorem dX6_line_242 : decode cX6_line 242 = .ok (.ireturn, 1) := by decide +kernel
theorem dX6_node_0 : decode cX6_node 0 = .ok (.aload_n 0, 1) := by decide +kernel
theorem dX6_node_1 : decode cX6_node 1 = .ok (.iconst 0, 1) := by decide +kernel
theorem dX6_node_2 : decode cX6_node 2 = .ok (.putfield 72, 3) := by decide +kernel
theorem dX6_node_5 : decode cX6_node 5 = .ok (.aload_n 0, 1) := by decide +kernel
theorem dX6_node_6 : decode cX6_node 6 = .ok (.aload_n 0, 1) := by decide +kernel
theorem dX6_node_7 : decode cX6_node 7 = .ok (.iload_n 1, 1) := by decide +kernel
theorem dX6_node_8 : decode cX6_node 8 = .ok (.invokevirtual 245, 3) := by decide +kernel
theorem dX6_node_11 : decode cX6_node 11 = .ok (.ifCond .ne 7, 3) := by decide +kernel
theorem dX6_node_14 : decode cX6_node 14 = .ok (.iconst 1, 1) := by decide +kernel
theorem dX6_node_15 : decode cX6_node 15 = .ok (.goto 4, 3) := by decide +kernel
theorem dX6_node_18 : decode cX6_node 18 = .ok (.iconst 0, 1) := by decide +kernel
theorem dX6_node_19 : decode cX6_node 19 = .ok (.iconst 1, 1) := by decide +kernel
theorem dX6_node_20 : decode cX6_node 20 = .ok (.iconst 0, 1) := by decide +kernel
theorem dX6_node_21 : decode cX6_node 21 = .ok (.invokevirtual 159, 3) := by decide +kernel
theorem dX6_node_24 : decode cX6_node 24 = .ok (.ifCond .ne 26, 3) := by decide +kernel
theorem dX6_node_27 : decode cX6_node 27 = .ok (.aload_n 0, 1) := by decide +kernel
theorem dX6_node_28 : decode cX6_node 28 = .ok (.iload_n 2, 1) := by decide +kernel
theorem dX6_node_29 : decode cX6_node 29 = .ok (.iconst 0, 1) := by decide +kernel
theorem dX6_node_30 : decode cX6_node 30 = .ok (.iconst 4, 1) := by decide +kernel
theorem dX6_node_31 : decode cX6_node 31 = .ok (.invokestatic 111, 3) := by decide +kernel
theorem dX6_node_34 : decode cX6_node 34 = .ok (.ifCond .ne 7, 3) := by decide +kernel
theorem dX6_node_37 : decode cX6_node 37 = .ok (.iconst 1, 1) := by decide +kernel
theorem dX6_node_38 : decode cX6_node 38 = .ok (.goto 4, 3) := by decide +kernel
theorem dX6_node_41 : decode cX6_node 41 = .ok (.iconst 0, 1) := by decide +kernel
theorem dX6_node_42 : decode cX6_node 42 = .ok (.iconst 2, 1) := by decide +kernel
theorem dX6_node_43 : decode cX6_node 43 = .ok (.iconst 1, 1) := by decide +kernel
theorem dX6_node_44 : decode cX6_node 44 = .ok (.invokevirtual 159, 3) := by decide +kernel
theorem dX6_node_47 : decode cX6_node 47 = .ok (.ifCond .eq 5, 3) := by decide +kernel
theorem dX6_node_50 : decode cX6_node 50 = .ok (.iconst 0, 1) := by decide +kernel
theorem dX6_node_51 : decode cX6_node 51 = .ok (.ireturn, 1) := by decide +kernel
theorem dX6_node_52 : decode cX6_node 52 = .ok (.iconst 0, 1) := by decide +kernel
theorem dX6_node_53 : decode cX6_node 53 = .ok (.istore_n 3, 1) := by decide +kernel
theorem dX6_node_54 : decode cX6_node 54 = .ok (.iconst 0, 1) := by decide +kernel
theorem dX6_node_55 : decode cX6_node 55 = .ok (.istore 4, 2) := by decide +kernel
theorem dX6_node_57 : decode cX6_node 57 = .ok (.iload 4, 2) := by decide +kernel
theorem dX6_node_59 : decode cX6_node 59 = .ok (.aload_n 0, 1) := by decide +kernel
theorem dX6_node_60 : decode cX6_node 60 = .ok (.invokevirtual 181, 3) := by decide +kernel
theorem dX6_node_63 : decode cX6_node 63 = .ok (.if_icmp .ge 34, 3) := by decide +kernel
theorem dX6_node_66 : decode cX6_node 66 = .ok (.iload_n 3, 1) := by decide +kernel
theorem dX6_node_67 : decode cX6_node 67 = .ok (.iload 4, 2) := by decide +kernel
theorem dX6_node_69 : decode cX6_node 69 = .ok (.iload_n 1, 1) := by decide +kernel
theorem dX6_node_70 : decode cX6_node 70 = .ok (.if_icmp .eq 18, 3) := by decide +kernel
theorem dX6_node_73 : decode cX6_node 73 = .ok (.aload_n 0, 1) := by decide +kernel
theorem dX6_node_74 : decode cX6_node 74 = .ok (.iload_n 1, 1) := by decide +kernel
theorem dX6_node_75 : decode cX6_node 75 = .ok (.iload 4, 2) := by decide +kernel
theorem dX6_node_77 : decode cX6_node 77 = .ok (.invokevirtual 203, 3) := by decide +kernel
theorem dX6_node_80 : decode cX6_node 80 = .ok (.iconst (-1), 1) := by decide +kernel
theorem dX6_node_81 : decode cX6_node 81 = .ok (.if_icmp .eq 7, 3) := by decide +kernel
theorem dX6_node_84 : decode cX6_node 84 = .ok (.iconst 1, 1) := by decide +kernel
theorem dX6_node_85 : decode cX6_node 85 = .ok (.goto 4, 3) := by decide +kernel
theorem dX6_node_88 : decode cX6_node 88 = .ok (.iconst 0, 1) := by decide +kernel
theorem dX6_node_89 : decode cX6_node 89 = .ok (.iadd, 1) := by decide +kernel
theorem dX6_node_90 : decode cX6_node 90 = .ok (.istore_n 3, 1) := by decide +kernel
theorem dX6_node_91 : decode cX6_node 91 = .ok (.iinc 4 1, 3) := by decide +kernel
theorem dX6_node_94 : decode cX6_node 94 = .ok (.goto (-37), 3) := by decide +kernel
theorem dX6_node_97 : decode cX6_node 97 = .ok (.iload_n 2, 1) := by decide +kernel
theorem dX6_node_98 : decode cX6_node 98 = .ok (.tableswitch 108 0 3 #[30, 32, 38, 74], 30) := by decide +kernel
theorem dX6_node_128 : decode cX6_node 128 = .ok (.iload_n 3, 1) := by decide +kernel
theorem dX6_node_129 : decode cX6_node 129 = .ok (.ireturn, 1) := by decide +kernel
theorem dX6_node_130 : decode cX6_node 130 = .ok (.aload_n 0, 1) := by decide +kernel
theorem dX6_node_131 : decode cX6_node 131 = .ok (.iload_n 1, 1) := by decide +kernel
theorem dX6_node_132 : decode cX6_node 132 = .ok (.invokevirtual 206, 3) := by decide +kernel
theorem dX6_node_135 : decode cX6_node 135 = .ok (.ireturn, 1) := by decide +kernel
theorem dX6_node_136 : decode cX6_node 136 = .ok (.aload_n 0, 1) := by decide +kernel
theorem dX6_node_137 : decode cX6_node 137 = .ok (.invokevirtual 269, 3) := by decide +kernel
theorem dX6_node_140 : decode cX6_node 140 = .ok (.aload_n 0, 1) := by decide +kernel
theorem dX6_node_141 : decode cX6_node 141 = .ok (.getfield 224, 3) := by decide +kernel
theorem dX6_node_144 : decode cX6_node 144 = .ok (.iload_n 1, 1) := by decide +kernel
theorem dX6_node_145 : decode cX6_node 145 = .ok (.invokestatic 183, 3) := by decide +kernel
theorem dX6_node_148 : decode cX6_node 148 = .ok (.ifCond .eq 7, 3) := by decide +kernel
theorem dX6_node_151 : decode cX6_node 151 = .ok (.iconst 0, 1) := by decide +kernel
theorem dX6_node_152 : decode cX6_node 152 = .ok (.goto 19, 3) := by decide +kernel
theorem dX6_node_155 : decode cX6_node 155 = .ok (.aload_n 0, 1) := by decide +kernel
theorem dX6_node_156 : decode cX6_node 156 = .ok (.getfield 227, 3) := by decide +kernel
theorem dX6_node_159 : decode cX6_node 159 = .ok (.iload_n 1, 1) := by decide +kernel
theorem dX6_node_160 : decode cX6_node 160 = .ok (.invokestatic 183, 3) := by decide +kernel
theorem dX6_node_163 : decode cX6_node 163 = .ok (.ifCond .eq 7, 3) := by decide +kernel
theorem dX6_node_166 : decode cX6_node 166 = .ok (.iconst 1, 1) := by decide +kernel
theorem dX6_node_167 : decode cX6_node 167 = .ok (.goto 4, 3) := by decide +kernel
theorem dX6_node_170 : decode cX6_node 170 = .ok (.iconst 2, 1) := by decide +kernel
theorem dX6_node_171 : decode cX6_node 171 = .ok (.ireturn, 1) := by decide +kernel
theorem dX6_node_172 : decode cX6_node 172 = .ok (.aload_n 0, 1) := by decide +kernel
theorem dX6_node_173 : decode cX6_node 173 = .ok (.iconst 0, 1) := by decide +kernel
theorem dX6_node_174 : decode cX6_node 174 = .ok (.invokevirtual 272, 3) := by decide +kernel
theorem dX6_node_177 : decode cX6_node 177 = .ok (.iload_n 1, 1) := by decide +kernel
theorem dX6_node_178 : decode cX6_node 178 = .ok (.invokestatic 183, 3) := by decide +kernel
theorem dX6_node_181 : decode cX6_node 181 = .ok (.ifCond .eq 7, 3) := by decide +kernel
theorem dX6_node_184 : decode cX6_node 184 = .ok (.iconst 0, 1) := by decide +kernel
theorem dX6_node_185 : decode cX6_node 185 = .ok (.goto 20, 3) := by decide +kernel
theorem dX6_node_188 : decode cX6_node 188 = .ok (.aload_n 0, 1) := by decide +kernel
theorem dX6_node_189 : decode cX6_node 189 = .ok (.iconst 1, 1) := by decide +kernel
theorem dX6_node_190 : decode cX6_node 190 = .ok (.invokevirtual 272, 3) := by decide +kernel
theorem dX6_node_193 : decode cX6_node 193 = .ok (.iload_n 1, 1) := by decide +kernel
theorem dX6_node_194 : decode cX6_node 194 = .ok (.invokestatic 183, 3) := by decide +kernel
theorem dX6_node_197 : decode cX6_node 197 = .ok (.ifCond .eq 7, 3) := by decide +kernel
theorem dX6_node_200 : decode cX6_node 200 = .ok (.iconst 1, 1) := by decide +kernel
theorem dX6_node_201 : decode cX6_node 201 = .ok (.goto 4, 3) := by decide +kernel
theorem dX6_node_204 : decode cX6_node 204 = .ok (.iconst 2, 1) := by decide +kernel
theorem dX6_node_205 : decode cX6_node 205 = .ok (.ireturn, 1) := by decide +kernel
theorem dX6_node_206 : decode cX6_node 206 = .ok (.aload_n 0, 1) := by decide +kernel
theorem dX6_node_207 : decode cX6_node 207 = .ok (.invokevirtual 260, 3) := by decide +kernel
theorem dX6_node_210 : decode cX6_node 210 = .ok (.aload_n 0, 1) := by decide +kernel
theorem dX6_node_211 : decode cX6_node 211 = .ok (.getfield 47, 3) := by decide +kernel
theorem dX6_node_214 : decode cX6_node 214 = .ok (.iload_n 1, 1) := by decide +kernel
theorem dX6_node_215 : decode cX6_node 215 = .ok (.iaload, 1) := by decide +kernel
theorem dX6_node_216 : decode cX6_node 216 = .ok (.ireturn, 1) := by decide +kernel
theorem dX6_sets_0 : decode cX6_sets 0 = .ok (.aload_n 0, 1) := by decide +kernel
theorem dX6_sets_1 : decode cX6_sets 1 = .ok (.iconst 0, 1) := by decide +kernel
theorem dX6_sets_2 : decode cX6_sets 2 = .ok (.putfield 72, 3) := by decide +kernel
theorem dX6_sets_5 : decode cX6_sets 5 = .ok (.aload_n 0, 1) := by decide +kernel
theorem dX6_sets_6 : decode cX6_sets 6 = .ok (.iload_n 1, 1) := by decide +kernel
theorem dX6_sets_7 : decode cX6_sets 7 = .ok (.iconst 0, 1) := by decide +kernel
theorem dX6_sets_8 : decode cX6_sets 8 = .ok (.iconst 5, 1) := by decide +kernel
theorem dX6_sets_9 : decode cX6_sets 9 = .ok (.invokestatic 111, 3) := by decide +kernel
theorem dX6_sets_12 : decode cX6_sets 12 = .ok (.ifCond .ne 7, 3) := by decide +kernel
theorem dX6_sets_15 : decode cX6_sets 15 = .ok (.iconst 1, 1) := by decide +kernel
theorem dX6_sets_16 : decode cX6_sets 16 = .ok (.goto 4, 3) := by decide +kernel
theorem dX6_sets_19 : decode cX6_sets 19 = .ok (.iconst 0, 1) := by decide +kernel
theorem dX6_sets_20 : decode cX6_sets 20 = .ok (.iconst 1, 1) := by decide +kernel
theorem dX6_sets_21 : decode cX6_sets 21 = .ok (.iconst 1, 1) := by decide +kernel
theorem dX6_sets_22 : decode cX6_sets 22 = .ok (.invokevirtual 159, 3) := by decide +kernel
theorem dX6_sets_25 : decode cX6_sets 25 = .ok (.ifCond .eq 5, 3) := by decide +kernel
theorem dX6_sets_28 : decode cX6_sets 28 = .ok (.iconst 0, 1) := by decide +kernel
theorem dX6_sets_29 : decode cX6_sets 29 = .ok (.ireturn, 1) := by decide +kernel
theorem dX6_sets_30 : decode cX6_sets 30 = .ok (.iload_n 1, 1) := by decide +kernel
theorem dX6_sets_31 : decode cX6_sets 31 = .ok (.iconst 3, 1) := by decide +kernel
theorem dX6_sets_32 : decode cX6_sets 32 = .ok (.if_icmp .ge 9, 3) := by decide +kernel
theorem dX6_sets_35 : decode cX6_sets 35 = .ok (.aload_n 0, 1) := by decide +kernel
theorem dX6_sets_36 : decode cX6_sets 36 = .ok (.iload_n 1, 1) := by decide +kernel
theorem dX6_sets_37 : decode cX6_sets 37 = .ok (.invokevirtual 272, 3) := by decide +kernel
theorem dX6_sets_40 : decode cX6_sets 40 = .ok (.ireturn, 1) := by decide +kernel
theorem dX6_sets_41 : decode cX6_sets 41 = .ok (.aload_n 0, 1) := by decide +kernel
theorem dX6_sets_42 : decode cX6_sets 42 = .ok (.invokevirtual 269, 3) := by decide +kernel
theorem dX6_sets_45 : decode cX6_sets 45 = .ok (.iload_n 1, 1) := by decide +kernel
theorem dX6_sets_46 : decode cX6_sets 46 = .ok (.iconst 3, 1) := by decide +kernel
theorem dX6_sets_47 : decode cX6_sets 47 = .ok (.if_icmp .ne 10, 3) := by decide +kernel
theorem dX6_sets_50 : decode cX6_sets 50 = .ok (.aload_n 0, 1) := by decide +kernel
theorem dX6_sets_51 : decode cX6_sets 51 = .ok (.getfield 224, 3) := by decide +kernel
theorem dX6_sets_54 : decode cX6_sets 54 = .ok (.goto 33, 3) := by decide +kernel
theorem dX6_sets_57 : decode cX6_sets 57 = .ok (.iload_n 1, 1) := by decide +kernel
theorem dX6_sets_58 : decode cX6_sets 58 = .ok (.iconst 4, 1) := by decide +kernel
theorem dX6_sets_59 : decode cX6_sets 59 = .ok (.if_icmp .ne 10, 3) := by decide +kernel
theorem dX6_sets_62 : decode cX6_sets 62 = .ok (.aload_n 0, 1) := by decide +kernel
theorem dX6_sets_63 : decode cX6_sets 63 = .ok (.getfield 227, 3) := by decide +kernel
theorem dX6_sets_66 : decode cX6_sets 66 = .ok (.goto 21, 3) := by decide +kernel
theorem dX6_sets_69 : decode cX6_sets 69 = .ok (.aload_n 0, 1) := by decide +kernel
theorem dX6_sets_70 : decode cX6_sets 70 = .ok (.invokevirtual 194, 3) := by decide +kernel
theorem dX6_sets_73 : decode cX6_sets 73 = .ok (.aload_n 0, 1) := by decide +kernel
theorem dX6_sets_74 : decode cX6_sets 74 = .ok (.getfield 224, 3) := by decide +kernel
theorem dX6_sets_77 : decode cX6_sets 77 = .ok (.iconst (-1), 1) := by decide +kernel
theorem dX6_sets_78 : decode cX6_sets 78 = .ok (.ixor, 1) := by decide +kernel
theorem dX6_sets_79 : decode cX6_sets 79 = .ok (.iand, 1) := by decide +kernel
theorem dX6_sets_80 : decode cX6_sets 80 = .ok (.aload_n 0, 1) := by decide +kernel
theorem dX6_sets_81 : decode cX6_sets 81 = .ok (.getfield 227, 3) := by decide +kernel
theorem dX6_sets_84 : decode cX6_sets 84 = .ok (.iconst (-1), 1) := by decide +kernel
theorem dX6_sets_85 : decode cX6_sets 85 = .ok (.ixor, 1) := by decide +kernel
theorem dX6_sets_86 : decode cX6_sets 86 = .ok (.iand, 1) := by decide +kernel
theorem dX6_sets_87 : decode cX6_sets 87 = .ok (.ireturn, 1) := by decide +kernel
theorem dX6_odd_0 : decode cX6_odd 0 = .ok (.aload_n 0, 1) := by decide +kernel
theorem dX6_odd_1 : decode cX6_odd 1 = .ok (.iconst 0, 1) := by decide +kernel
theorem dX6_odd_2 : decode cX6_odd 2 = .ok (.putfield 72, 3) := by decide +kernel
theorem dX6_odd_5 : decode cX6_odd 5 = .ok (.aload_n 0, 1) := by decide +kernel
theorem dX6_odd_6 : decode cX6_odd 6 = .ok (.iload_n 1, 1) := by decide +kernel
theorem dX6_odd_7 : decode cX6_odd 7 = .ok (.iconst 0, 1) := by decide +kernel
theorem dX6_odd_8 : decode cX6_odd 8 = .ok (.aload_n 0, 1) := by decide +kernel
theorem dX6_odd_9 : decode cX6_odd 9 = .ok (.invokevirtual 194, 3) := by decide +kernel
theorem dX6_odd_12 : decode cX6_odd 12 = .ok (.invokestatic 111, 3) := by decide +kernel
theorem dX6_odd_15 : decode cX6_odd 15 = .ok (.ifCond .ne 7, 3) := by decide +kernel
theorem dX6_odd_18 : decode cX6_odd 18 = .ok (.iconst 1, 1) := by decide +kernel
theorem dX6_odd_19 : decode cX6_odd 19 = .ok (.goto 4, 3) := by decide +kernel
theorem dX6_odd_22 : decode cX6_odd 22 = .ok (.iconst 0, 1) := by decide +kernel
theorem dX6_odd_23 : decode cX6_odd 23 = .ok (.iconst 1, 1) := by decide +kernel
theorem dX6_odd_24 : decode cX6_odd 24 = .ok (.iconst 1, 1) := by decide +kernel
theorem dX6_odd_25 : decode cX6_odd 25 = .ok (.invokevirtual 159, 3) := by decide +kernel
theorem dX6_odd_28 : decode cX6_odd 28 = .ok (.ifCond .eq 7, 3) := by decide +kernel
theorem dX6_odd_31 : decode cX6_odd 31 = .ok (.iconst 0, 1) := by decide +kernel
theorem dX6_odd_32 : decode cX6_odd 32 = .ok (.goto 8, 3) := by decide +kernel
theorem dX6_odd_35 : decode cX6_odd 35 = .ok (.aload_n 0, 1) := by decide +kernel
theorem dX6_odd_36 : decode cX6_odd 36 = .ok (.iload_n 1, 1) := by decide +kernel
theorem dX6_odd_37 : decode cX6_odd 37 = .ok (.invokevirtual 275, 3) := by decide +kernel
theorem dX6_odd_40 : decode cX6_odd 40 = .ok (.ireturn, 1) := by decide +kernel
theorem dX6_barrier_0 : decode cX6_barrier 0 = .ok (.aload_n 0, 1) := by decide +kernel
theorem dX6_barrier_1 : decode cX6_barrier 1 = .ok (.iconst 0, 1) := by decide +kernel
theorem dX6_barrier_2 : decode cX6_barrier 2 = .ok (.putfield 72, 3) := by decide +kernel
theorem dX6_barrier_5 : decode cX6_barrier 5 = .ok (.aload_n 0, 1) := by decide +kernel
theorem dX6_barrier_6 : decode cX6_barrier 6 = .ok (.iload_n 1, 1) := by decide +kernel
theorem dX6_barrier_7 : decode cX6_barrier 7 = .ok (.iconst 0, 1) := by decide +kernel
theorem dX6_barrier_8 : decode cX6_barrier 8 = .ok (.iconst 1, 1) := by decide +kernel
theorem dX6_barrier_9 : decode cX6_barrier 9 = .ok (.invokestatic 111, 3) := by decide +kernel
theorem dX6_barrier_12 : decode cX6_barrier 12 = .ok (.ifCond .ne 7, 3) := by decide +kernel
theorem dX6_barrier_15 : decode cX6_barrier 15 = .ok (.iconst 1, 1) := by decide +kernel
theorem dX6_barrier_16 : decode cX6_barrier 16 = .ok (.goto 4, 3) := by decide +kernel
theorem dX6_barrier_19 : decode cX6_barrier 19 = .ok (.iconst 0, 1) := by decide +kernel
theorem dX6_barrier_20 : decode cX6_barrier 20 = .ok (.iconst 1, 1) := by decide +kernel
theorem dX6_barrier_21 : decode cX6_barrier 21 = .ok (.iconst 1, 1) := by decide +kernel
theorem dX6_barrier_22 : decode cX6_barrier 22 = .ok (.invokevirtual 159, 3) := by decide +kernel
theorem dX6_barrier_25 : decode cX6_barrier 25 = .ok (.ifCond .eq 5, 3) := by decide +kernel
theorem dX6_barrier_28 : decode cX6_barrier 28 = .ok (.iconst 0, 1) := by decide +kernel
theorem dX6_barrier_29 : decode cX6_barrier 29 = .ok (.ireturn, 1) := by decide +kernel
theorem dX6_barrier_30 : decode cX6_barrier 30 = .ok (.aload_n 0, 1) := by decide +kernel
theorem dX6_barrier_31 : decode cX6_barrier 31 = .ok (.invokevirtual 209, 3) := by decide +kernel
theorem dX6_barrier_34 : decode cX6_barrier 34 = .ok (.iconst (-1), 1) := by decide +kernel
theorem dX6_barrier_35 : decode cX6_barrier 35 = .ok (.istore_n 2, 1) := by decide +kernel
theorem dX6_barrier_36 : decode cX6_barrier 36 = .ok (.iconst 0, 1) := by decide +kernel
theorem dX6_barrier_37 : decode cX6_barrier 37 = .ok (.istore_n 3, 1) := by decide +kernel
theorem dX6_barrier_38 : decode cX6_barrier 38 = .ok (.iload_n 3, 1) := by decide +kernel
theorem dX6_barrier_39 : decode cX6_barrier 39 = .ok (.aload_n 0, 1) := by decide +kernel
theorem dX6_barrier_40 : decode cX6_barrier 40 = .ok (.invokevirtual 194, 3) := by decide +kernel
theorem dX6_barrier_43 : decode cX6_barrier 43 = .ok (.if_icmp .gt 65, 3) := by decide +kernel
theorem dX6_barrier_46 : decode cX6_barrier 46 = .ok (.iload_n 2, 1) := by decide +kernel
theorem dX6_barrier_47 : decode cX6_barrier 47 = .ok (.iconst (-1), 1) := by decide +kernel
theorem dX6_barrier_48 : decode cX6_barrier 48 = .ok (.if_icmp .eq 35, 3) := by decide +kernel
theorem dX6_barrier_51 : decode cX6_barrier 51 = .ok (.iload_n 1, 1) := by decide +kernel
theorem dX6_barrier_52 : decode cX6_barrier 52 = .ok (.ifCond .ne 17, 3) := by decide +kernel
theorem dX6_barrier_55 : decode cX6_barrier 55 = .ok (.iload_n 3, 1) := by decide +kernel
theorem dX6_barrier_56 : decode cX6_barrier 56 = .ok (.invokestatic 221, 3) := by decide +kernel
theorem dX6_barrier_59 : decode cX6_barrier 59 = .ok (.iload_n 2, 1) := by decide +kernel
theorem dX6_barrier_60 : decode cX6_barrier 60 = .ok (.invokestatic 221, 3) := by decide +kernel
theorem dX6_barrier_63 : decode cX6_barrier 63 = .ok (.if_icmp .lt 20, 3) := by decide +kernel
theorem dX6_barrier_66 : decode cX6_barrier 66 = .ok (.goto 36, 3) := by decide +kernel
theorem dX6_barrier_69 : decode cX6_barrier 69 = .ok (.iload_n 3, 1) := by decide +kernel
theorem dX6_barrier_70 : decode cX6_barrier 70 = .ok (.invokestatic 221, 3) := by decide +kernel
theorem dX6_barrier_73 : decode cX6_barrier 73 = .ok (.iload_n 2, 1) := by decide +kernel
theorem dX6_barrier_74 : decode cX6_barrier 74 = .ok (.invokestatic 221, 3) := by decide +kernel
theorem dX6_barrier_77 : decode cX6_barrier 77 = .ok (.if_icmp .gt 6, 3) := by decide +kernel
theorem dX6_barrier_80 : decode cX6_barrier 80 = .ok (.goto 22, 3) := by decide +kernel
theorem dX6_barrier_83 : decode cX6_barrier 83 = .ok (.aload_n 0, 1) := by decide +kernel
theorem dX6_barrier_84 : decode cX6_barrier 84 = .ok (.iload_n 3, 1) := by decide +kernel
theorem dX6_barrier_85 : decode cX6_barrier 85 = .ok (.invokevirtual 275, 3) := by decide +kernel
theorem dX6_barrier_88 : decode cX6_barrier 88 = .ok (.iload_n 3, 1) := by decide +kernel
theorem dX6_barrier_89 : decode cX6_barrier 89 = .ok (.invokestatic 221, 3) := by decide +kernel
theorem dX6_barrier_92 : decode cX6_barrier 92 = .ok (.isub, 1) := by decide +kernel
theorem dX6_barrier_93 : decode cX6_barrier 93 = .ok (.aload_n 0, 1) := by decide +kernel
theorem dX6_barrier_94 : decode cX6_barrier 94 = .ok (.invokevirtual 266, 3) := by decide +kernel
theorem dX6_barrier_97 : decode cX6_barrier 97 = .ok (.if_icmp .ne 5, 3) := by decide +kernel
theorem dX6_barrier_100 : decode cX6_barrier 100 = .ok (.iload_n 3, 1) := by decide +kernel
theorem dX6_barrier_101 : decode cX6_barrier 101 = .ok (.istore_n 2, 1) := by decide +kernel
theorem dX6_barrier_102 : decode cX6_barrier 102 = .ok (.iinc 3 1, 3) := by decide +kernel
theorem dX6_barrier_105 : decode cX6_barrier 105 = .ok (.goto (-67), 3) := by decide +kernel
theorem dX6_barrier_108 : decode cX6_barrier 108 = .ok (.iload_n 2, 1) := by decide +kernel
theorem dX6_barrier_109 : decode cX6_barrier 109 = .ok (.ireturn, 1) := by decide +kernel
theorem dX6_ways_0 : decode cX6_ways 0 = .ok (.aload_n 0, 1) := by decide +kernel
theorem dX6_ways_1 : decode cX6_ways 1 = .ok (.iconst 0, 1) := by decide +kernel
theorem dX6_ways_2 : decode cX6_ways 2 = .ok (.putfield 72, 3) := by decide +kernel
theorem dX6_ways_5 : decode cX6_ways 5 = .ok (.aload_n 0, 1) := by decide +kernel
theorem dX6_ways_6 : decode cX6_ways 6 = .ok (.invokevirtual 209, 3) := by decide +kernel
theorem dX6_ways_9 : decode cX6_ways 9 = .ok (.aload_n 0, 1) := by decide +kernel
theorem dX6_ways_10 : decode cX6_ways 10 = .ok (.getfield 43, 3) := by decide +kernel
theorem dX6_ways_13 : decode cX6_ways 13 = .ok (.aload_n 0, 1) := by decide +kernel
theorem dX6_ways_14 : decode cX6_ways 14 = .ok (.invokevirtual 194, 3) := by decide +kernel
theorem dX6_ways_17 : decode cX6_ways 17 = .ok (.laload, 1) := by decide +kernel
theorem dX6_ways_18 : decode cX6_ways 18 = .ok (.l2i, 1) := by decide +kernel
theorem dX6_ways_19 : decode cX6_ways 19 = .ok (.ireturn, 1) := by decide +kernel
theorem dX6_heavy_0 : decode cX6_heavy 0 = .ok (.aload_n 0, 1) := by decide +kernel
theorem dX6_heavy_1 : decode cX6_heavy 1 = .ok (.iconst 0, 1) := by decide +kernel
theorem dX6_heavy_2 : decode cX6_heavy 2 = .ok (.putfield 72, 3) := by decide +kernel
theorem dX6_heavy_5 : decode cX6_heavy 5 = .ok (.aload_n 0, 1) := by decide +kernel
theorem dX6_heavy_6 : decode cX6_heavy 6 = .ok (.iload_n 1, 1) := by decide +kernel
theorem dX6_heavy_7 : decode cX6_heavy 7 = .ok (.iconst 0, 1) := by decide +kernel
theorem dX6_heavy_8 : decode cX6_heavy 8 = .ok (.iconst 1, 1) := by decide +kernel
theorem dX6_heavy_9 : decode cX6_heavy 9 = .ok (.invokestatic 111, 3) := by decide +kernel
theorem dX6_heavy_12 : decode cX6_heavy 12 = .ok (.ifCond .ne 7, 3) := by decide +kernel
theorem dX6_heavy_15 : decode cX6_heavy 15 = .ok (.iconst 1, 1) := by decide +kernel
theorem dX6_heavy_16 : decode cX6_heavy 16 = .ok (.goto 4, 3) := by decide +kernel
theorem dX6_heavy_19 : decode cX6_heavy 19 = .ok (.iconst 0, 1) := by decide +kernel
theorem dX6_heavy_20 : decode cX6_heavy 20 = .ok (.iconst 1, 1) := by decide +kernel
theorem dX6_heavy_21 : decode cX6_heavy 21 = .ok (.iconst 1, 1) := by decide +kernel
theorem dX6_heavy_22 : decode cX6_heavy 22 = .ok (.invokevirtual 159, 3) := by decide +kernel
theorem dX6_heavy_25 : decode cX6_heavy 25 = .ok (.ifCond .eq 5, 3) := by decide +kernel
theorem dX6_heavy_28 : decode cX6_heavy 28 = .ok (.iconst 0, 1) := by decide +kernel
theorem dX6_heavy_29 : decode cX6_heavy 29 = .ok (.ireturn, 1) := by decide +kernel
theorem dX6_heavy_30 : decode cX6_heavy 30 = .ok (.aload_n 0, 1) := by decide +kernel
theorem dX6_heavy_31 : decode cX6_heavy 31 = .ok (.invokevirtual 209, 3) := by decide +kernel
theorem dX6_heavy_34 : decode cX6_heavy 34 = .ok (.iload_n 1, 1) := by decide +kernel
theorem dX6_heavy_35 : decode cX6_heavy 35 = .ok (.ifCond .ne 15, 3) := by decide +kernel
theorem dX6_heavy_38 : decode cX6_heavy 38 = .ok (.aload_n 0, 1) := by decide +kernel
theorem dX6_heavy_39 : decode cX6_heavy 39 = .ok (.getfield 37, 3) := by decide +kernel
theorem dX6_heavy_42 : decode cX6_heavy 42 = .ok (.aload_n 0, 1) := by decide +kernel
theorem dX6_heavy_43 : decode cX6_heavy 43 = .ok (.invokevirtual 194, 3) := by decide +kernel
theorem dX6_heavy_46 : decode cX6_heavy 46 = .ok (.iaload, 1) := by decide +kernel
theorem dX6_heavy_47 : decode cX6_heavy 47 = .ok (.goto 12, 3) := by decide +kernel
theorem dX6_heavy_50 : decode cX6_heavy 50 = .ok (.aload_n 0, 1) := by decide +kernel
theorem dX6_heavy_51 : decode cX6_heavy 51 = .ok (.getfield 40, 3) := by decide +kernel
theorem dX6_heavy_54 : decode cX6_heavy 54 = .ok (.aload_n 0, 1) := by decide +kernel
theorem dX6_heavy_55 : decode cX6_heavy 55 = .ok (.invokevirtual 194, 3) := by decide +kernel
theorem dX6_heavy_58 : decode cX6_heavy 58 = .ok (.iaload, 1) := by decide +kernel
theorem dX6_heavy_59 : decode cX6_heavy 59 = .ok (.ireturn, 1) := by decide +kernel
theorem dX6_rowAt_0 : decode cX6_rowAt 0 = .ok (.iload_n 1, 1) := by decide +kernel
theorem dX6_rowAt_1 : decode cX6_rowAt 1 = .ok (.ifCond .ne 5, 3) := by decide +kernel
theorem dX6_rowAt_4 : decode cX6_rowAt 4 = .ok (.iconst (-1), 1) := by decide +kernel
theorem dX6_rowAt_5 : decode cX6_rowAt 5 = .ok (.ireturn, 1) := by decide +kernel
theorem dX6_rowAt_6 : decode cX6_rowAt 6 = .ok (.iload_n 2, 1) := by decide +kernel
theorem dX6_rowAt_7 : decode cX6_rowAt 7 = .ok (.iconst (-1), 1) := by decide +kernel
theorem dX6_rowAt_8 : decode cX6_rowAt 8 = .ok (.if_icmp .ne 5, 3) := by decide +kernel
theorem dX6_rowAt_11 : decode cX6_rowAt 11 = .ok (.iload_n 3, 1) := by decide +kernel
theorem dX6_rowAt_12 : decode cX6_rowAt 12 = .ok (.ireturn, 1) := by decide +kernel
theorem dX6_rowAt_13 : decode cX6_rowAt 13 = .ok (.aload_n 0, 1) := by decide +kernel
theorem dX6_rowAt_14 : decode cX6_rowAt 14 = .ok (.iload_n 2, 1) := by decide +kernel
theorem dX6_rowAt_15 : decode cX6_rowAt 15 = .ok (.iconst 0, 1) := by decide +kernel
theorem dX6_rowAt_16 : decode cX6_rowAt 16 = .ok (.aload_n 0, 1) := by decide +kernel
theorem dX6_rowAt_17 : decode cX6_rowAt 17 = .ok (.getfield 236, 3) := by decide +kernel
theorem dX6_rowAt_20 : decode cX6_rowAt 20 = .ok (.iconst 1, 1) := by decide +kernel
theorem dX6_rowAt_21 : decode cX6_rowAt 21 = .ok (.isub, 1) := by decide +kernel
theorem dX6_rowAt_22 : decode cX6_rowAt 22 = .ok (.invokestatic 111, 3) := by decide +kernel
theorem dX6_rowAt_25 : decode cX6_rowAt 25 = .ok (.ifCond .ne 7, 3) := by decide +kernel
theorem dX6_rowAt_28 : decode cX6_rowAt 28 = .ok (.iconst 1, 1) := by decide +kernel
theorem dX6_rowAt_29 : decode cX6_rowAt 29 = .ok (.goto 4, 3) := by decide +kernel
theorem dX6_rowAt_32 : decode cX6_rowAt 32 = .ok (.iconst 0, 1) := by decide +kernel
theorem dX6_rowAt_33 : decode cX6_rowAt 33 = .ok (.iconst 1, 1) := by decide +kernel
theorem dX6_rowAt_34 : decode cX6_rowAt 34 = .ok (.iconst 0, 1) := by decide +kernel
theorem dX6_rowAt_35 : decode cX6_rowAt 35 = .ok (.invokevirtual 159, 3) := by decide +kernel
theorem dX6_rowAt_38 : decode cX6_rowAt 38 = .ok (.ifCond .eq 7, 3) := by decide +kernel
theorem dX6_rowAt_41 : decode cX6_rowAt 41 = .ok (.iconst 0, 1) := by decide +kernel
theorem dX6_rowAt_42 : decode cX6_rowAt 42 = .ok (.goto 9, 3) := by decide +kernel
theorem dX6_rowAt_45 : decode cX6_rowAt 45 = .ok (.aload_n 0, 1) := by decide +kernel
theorem dX6_rowAt_46 : decode cX6_rowAt 46 = .ok (.getfield 55, 3) := by decide +kernel
theorem dX6_rowAt_49 : decode cX6_rowAt 49 = .ok (.iload_n 2, 1) := by decide +kernel
theorem dX6_rowAt_50 : decode cX6_rowAt 50 = .ok (.iaload, 1) := by decide +kernel
theorem dX6_rowAt_51 : decode cX6_rowAt 51 = .ok (.ireturn, 1) := by decide +kernel
theorem dX6_path_0 : decode cX6_path 0 = .ok (.aload_n 0, 1) := by decide +kernel
theorem dX6_path_1 : decode cX6_path 1 = .ok (.iconst 0, 1) := by decide +kernel
theorem dX6_path_2 : decode cX6_path 2 = .ok (.putfield 72, 3) := by decide +kernel
theorem dX6_path_5 : decode cX6_path 5 = .ok (.aload_n 0, 1) := by decide +kernel
theorem dX6_path_6 : decode cX6_path 6 = .ok (.aload_n 0, 1) := by decide +kernel
theorem dX6_path_7 : decode cX6_path 7 = .ok (.iload_n 1, 1) := by decide +kernel
theorem dX6_path_8 : decode cX6_path 8 = .ok (.invokevirtual 245, 3) := by decide +kernel
theorem dX6_path_11 : decode cX6_path 11 = .ok (.ifCond .ne 7, 3) := by decide +kernel
theorem dX6_path_14 : decode cX6_path 14 = .ok (.iconst 1, 1) := by decide +kernel
theorem dX6_path_15 : decode cX6_path 15 = .ok (.goto 4, 3) := by decide +kernel
theorem dX6_path_18 : decode cX6_path 18 = .ok (.iconst 0, 1) := by decide +kernel
theorem dX6_path_19 : decode cX6_path 19 = .ok (.iconst 1, 1) := by decide +kernel
theorem dX6_path_20 : decode cX6_path 20 = .ok (.iconst 0, 1) := by decide +kernel
theorem dX6_path_21 : decode cX6_path 21 = .ok (.invokevirtual 159, 3) := by decide +kernel
theorem dX6_path_24 : decode cX6_path 24 = .ok (.ifCond .eq 5, 3) := by decide +kernel
theorem dX6_path_27 : decode cX6_path 27 = .ok (.iconst 0, 1) := by decide +kernel
theorem dX6_path_28 : decode cX6_path 28 = .ok (.ireturn, 1) := by decide +kernel
theorem dX6_path_29 : decode cX6_path 29 = .ok (.aload_n 0, 1) := by decide +kernel
theorem dX6_path_30 : decode cX6_path 30 = .ok (.iload_n 1, 1) := by decide +kernel
theorem dX6_path_31 : decode cX6_path 31 = .ok (.invokevirtual 257, 3) := by decide +kernel
theorem dX6_path_34 : decode cX6_path 34 = .ok (.istore_n 3, 1) := by decide +kernel
theorem dX6_path_35 : decode cX6_path 35 = .ok (.aload_n 0, 1) := by decide +kernel
theorem dX6_path_36 : decode cX6_path 36 = .ok (.iload_n 3, 1) := by decide +kernel
theorem dX6_path_37 : decode cX6_path 37 = .ok (.iload_n 2, 1) := by decide +kernel
theorem dX6_path_38 : decode cX6_path 38 = .ok (.aload_n 0, 1) := by decide +kernel
theorem dX6_path_39 : decode cX6_path 39 = .ok (.getfield 236, 3) := by decide +kernel
theorem dX6_path_42 : decode cX6_path 42 = .ok (.iconst 1, 1) := by decide +kernel
theorem dX6_path_43 : decode cX6_path 43 = .ok (.isub, 1) := by decide +kernel
theorem dX6_path_44 : decode cX6_path 44 = .ok (.invokevirtual 278, 3) := by decide +kernel
theorem dX6_path_47 : decode cX6_path 47 = .ok (.ireturn, 1) := by decide +kernel
theorem dX6_flower_0 : decode cX6_flower 0 = .ok (.aload_n 0, 1) := by decide +kernel
theorem dX6_flower_1 : decode cX6_flower 1 = .ok (.iconst 0, 1) := by decide +kernel
theorem dX6_flower_2 : decode cX6_flower 2 = .ok (.putfield 72, 3) := by decide +kernel
theorem dX6_flower_5 : decode cX6_flower 5 = .ok (.aload_n 0, 1) := by decide +kernel
theorem dX6_flower_6 : decode cX6_flower 6 = .ok (.aload_n 0, 1) := by decide +kernel
theorem dX6_flower_7 : decode cX6_flower 7 = .ok (.iload_n 1, 1) := by decide +kernel
theorem dX6_flower_8 : decode cX6_flower 8 = .ok (.invokevirtual 245, 3) := by decide +kernel
theorem dX6_flower_11 : decode cX6_flower 11 = .ok (.ifCond .ne 7, 3) := by decide +kernel
theorem dX6_flower_14 : decode cX6_flower 14 = .ok (.iconst 1, 1) := by decide +kernel
theorem dX6_flower_15 : decode cX6_flower 15 = .ok (.goto 4, 3) := by decide +kernel
theorem dX6_flower_18 : decode cX6_flower 18 = .ok (.iconst 0, 1) := by decide +kernel
theorem dX6_flower_19 : decode cX6_flower 19 = .ok (.iconst 1, 1) := by decide +kernel
theorem dX6_flower_20 : decode cX6_flower 20 = .ok (.iconst 0, 1) := by decide +kernel
theorem dX6_flower_21 : decode cX6_flower 21 = .ok (.invokevirtual 159, 3) := by decide +kernel
theorem dX6_flower_24 : decode cX6_flower 24 = .ok (.ifCond .eq 5, 3) := by decide +kernel
theorem dX6_flower_27 : decode cX6_flower 27 = .ok (.iconst 0, 1) := by decide +kernel
theorem dX6_flower_28 : decode cX6_flower 28 = .ok (.ireturn, 1) := by decide +kernel
theorem dX6_flower_29 : decode cX6_flower 29 = .ok (.aload_n 0, 1) := by decide +kernel
theorem dX6_flower_30 : decode cX6_flower 30 = .ok (.iload_n 1, 1) := by decide +kernel
theorem dX6_flower_31 : decode cX6_flower 31 = .ok (.invokevirtual 263, 3) := by decide +kernel
theorem dX6_flower_34 : decode cX6_flower 34 = .ok (.istore_n 3, 1) := by decide +kernel
theorem dX6_flower_35 : decode cX6_flower 35 = .ok (.aload_n 0, 1) := by decide +kernel
theorem dX6_flower_36 : decode cX6_flower 36 = .ok (.iload_n 3, 1) := by decide +kernel
theorem dX6_flower_37 : decode cX6_flower 37 = .ok (.iload_n 2, 1) := by decide +kernel
theorem dX6_flower_38 : decode cX6_flower 38 = .ok (.aload_n 0, 1) := by decide +kernel
theorem dX6_flower_39 : decode cX6_flower 39 = .ok (.getfield 236, 3) := by decide +kernel
theorem dX6_flower_42 : decode cX6_flower 42 = .ok (.invokevirtual 278, 3) := by decide +kernel
theorem dX6_flower_45 : decode cX6_flower 45 = .ok (.ireturn, 1) := by decide +kernel
theorem dX6_print_0 : decode cX6_print 0 = .ok (.aload_n 0, 1) := by decide +kernel
theorem dX6_print_1 : decode cX6_print 1 = .ok (.iconst 0, 1) := by decide +kernel
theorem dX6_print_2 : decode cX6_print 2 = .ok (.putfield 72, 3) := by decide +kernel
theorem dX6_print_5 : decode cX6_print 5 = .ok (.lconst 0, 1) := by decide +kernel
theorem dX6_print_6 : decode cX6_print 6 = .ok (.lstore_n 1, 1) := by decide +kernel
theorem dX6_print_7 : decode cX6_print 7 = .ok (.iconst 0, 1) := by decide +kernel
theorem dX6_print_8 : decode cX6_print 8 = .ok (.istore_n 3, 1) := by decide +kernel
theorem dX6_print_9 : decode cX6_print 9 = .ok (.iload_n 3, 1) := by decide +kernel
theorem dX6_print_10 : decode cX6_print 10 = .ok (.aload_n 0, 1) := by decide +kernel
theorem dX6_print_11 : decode cX6_print 11 = .ok (.invokevirtual 181, 3) := by decide +kernel
theorem dX6_print_14 : decode cX6_print 14 = .ok (.if_icmp .ge 22, 3) := by decide +kernel
theorem dX6_print_17 : decode cX6_print 17 = .ok (.ldc2_w 282, 3) := by decide +kernel
theorem dX6_print_20 : decode cX6_print 20 = .ok (.lload_n 1, 1) := by decide +kernel
theorem dX6_print_21 : decode cX6_print 21 = .ok (.lmul, 1) := by decide +kernel
theorem dX6_print_22 : decode cX6_print 22 = .ok (.aload_n 0, 1) := by decide +kernel
theorem dX6_print_23 : decode cX6_print 23 = .ok (.iload_n 3, 1) := by decide +kernel
theorem dX6_print_24 : decode cX6_print 24 = .ok (.invokevirtual 206, 3) := by decide +kernel
theorem dX6_print_27 : decode cX6_print 27 = .ok (.i2l, 1) := by decide +kernel
theorem dX6_print_28 : decode cX6_print 28 = .ok (.ladd, 1) := by decide +kernel
theorem dX6_print_29 : decode cX6_print 29 = .ok (.lstore_n 1, 1) := by decide +kernel
theorem dX6_print_30 : decode cX6_print 30 = .ok (.iinc 3 1, 3) := by decide +kernel
theorem dX6_print_33 : decode cX6_print 33 = .ok (.goto (-24), 3) := by decide +kernel
theorem dX6_print_36 : decode cX6_print 36 = .ok (.iconst 0, 1) := by decide +kernel
theorem dX6_print_37 : decode cX6_print 37 = .ok (.istore_n 3, 1) := by decide +kernel
theorem dX6_print_38 : decode cX6_print 38 = .ok (.iload_n 3, 1) := by decide +kernel
theorem dX6_print_39 : decode cX6_print 39 = .ok (.aload_n 0, 1) := by decide +kernel
theorem dX6_print_40 : decode cX6_print 40 = .ok (.invokevirtual 181, 3) := by decide +kernel
theorem dX6_print_43 : decode cX6_print 43 = .ok (.if_icmp .ge 55, 3) := by decide +kernel
theorem dX6_print_46 : decode cX6_print 46 = .ok (.iload_n 3, 1) := by decide +kernel
theorem dX6_print_47 : decode cX6_print 47 = .ok (.iconst 1, 1) := by decide +kernel
theorem dX6_print_48 : decode cX6_print 48 = .ok (.iadd, 1) := by decide +kernel
theorem dX6_print_49 : decode cX6_print 49 = .ok (.istore 4, 2) := by decide +kernel
theorem dX6_print_51 : decode cX6_print 51 = .ok (.iload 4, 2) := by decide +kernel
theorem dX6_print_53 : decode cX6_print 53 = .ok (.aload_n 0, 1) := by decide +kernel
theorem dX6_print_54 : decode cX6_print 54 = .ok (.invokevirtual 181, 3) := by decide +kernel
theorem dX6_print_57 : decode cX6_print 57 = .ok (.if_icmp .ge 35, 3) := by decide +kernel
theorem dX6_print_60 : decode cX6_print 60 = .ok (.aload_n 0, 1) := by decide +kernel
theorem dX6_print_61 : decode cX6_print 61 = .ok (.iload_n 3, 1) := by decide +kernel
theorem dX6_print_62 : decode cX6_print 62 = .ok (.iload 4, 2) := by decide +kernel
theorem dX6_print_64 : decode cX6_print 64 = .ok (.invokevirtual 203, 3) := by decide +kernel
theorem dX6_print_67 : decode cX6_print 67 = .ok (.iconst (-1), 1) := by decide +kernel
theorem dX6_print_68 : decode cX6_print 68 = .ok (.if_icmp .eq 18, 3) := by decide +kernel
theorem dX6_print_71 : decode cX6_print 71 = .ok (.ldc2_w 282, 3) := by decide +kernel
theorem dX6_print_74 : decode cX6_print 74 = .ok (.lload_n 1, 1) := by decide +kernel
theorem dX6_print_75 : decode cX6_print 75 = .ok (.lmul, 1) := by decide +kernel
theorem dX6_print_76 : decode cX6_print 76 = .ok (.aload_n 0, 1) := by decide +kernel
theorem dX6_print_77 : decode cX6_print 77 = .ok (.iload_n 3, 1) := by decide +kernel
theorem dX6_print_78 : decode cX6_print 78 = .ok (.iload 4, 2) := by decide +kernel
theorem dX6_print_80 : decode cX6_print 80 = .ok (.invokevirtual 203, 3) := by decide +kernel
theorem dX6_print_83 : decode cX6_print 83 = .ok (.i2l, 1) := by decide +kernel
theorem dX6_print_84 : decode cX6_print 84 = .ok (.ladd, 1) := by decide +kernel
theorem dX6_print_85 : decode cX6_print 85 = .ok (.lstore_n 1, 1) := by decide +kernel
theorem dX6_print_86 : decode cX6_print 86 = .ok (.iinc 4 1, 3) := by decide +kernel
theorem dX6_print_89 : decode cX6_print 89 = .ok (.goto (-38), 3) := by decide +kernel
theorem dX6_print_92 : decode cX6_print 92 = .ok (.iinc 3 1, 3) := by decide +kernel
theorem dX6_print_95 : decode cX6_print 95 = .ok (.goto (-57), 3) := by decide +kernel
theorem dX6_print_98 : decode cX6_print 98 = .ok (.lload_n 1, 1) := by decide +kernel
theorem dX6_print_99 : decode cX6_print 99 = .ok (.lreturn, 1) := by decide +kernel
theorem dX6_status_0 : decode cX6_status 0 = .ok (.aload_n 0, 1) := by decide +kernel
theorem dX6_status_1 : decode cX6_status 1 = .ok (.iconst 0, 1) := by decide +kernel
theorem dX6_status_2 : decode cX6_status 2 = .ok (.putfield 72, 3) := by decide +kernel
theorem dX6_status_5 : decode cX6_status 5 = .ok (.iload_n 1, 1) := by decide +kernel
theorem dX6_status_6 : decode cX6_status 6 = .ok (.iconst 0, 1) := by decide +kernel
theorem dX6_status_7 : decode cX6_status 7 = .ok (.iconst 2, 1) := by decide +kernel
theorem dX6_status_8 : decode cX6_status 8 = .ok (.invokestatic 111, 3) := by decide +kernel
theorem dX6_status_11 : decode cX6_status 11 = .ok (.ifCond .eq 12, 3) := by decide +kernel
theorem dX6_status_14 : decode cX6_status 14 = .ok (.aload_n 0, 1) := by decide +kernel
theorem dX6_status_15 : decode cX6_status 15 = .ok (.getfield 9, 3) := by decide +kernel
theorem dX6_status_18 : decode cX6_status 18 = .ok (.iload_n 1, 1) := by decide +kernel
theorem dX6_status_19 : decode cX6_status 19 = .ok (.iaload, 1) := by decide +kernel
theorem dX6_status_20 : decode cX6_status 20 = .ok (.goto 4, 3) := by decide +kernel
theorem dX6_status_23 : decode cX6_status 23 = .ok (.iconst (-1), 1) := by decide +kernel
theorem dX6_status_24 : decode cX6_status 24 = .ok (.ireturn, 1) := by decide +kernel
end
section
theorem dL_text_0 : decode cL_text 0 = .ok (.aload_n 2, 1) := by decide +kernel
theorem dL_text_1 : decode cL_text 1 = .ok (.iconst 0, 1) := by decide +kernel
theorem dL_text_2 : decode cL_text 2 = .ok (.aload_n 0, 1) := by decide +kernel
theorem dL_text_3 : decode cL_text 3 = .ok (.iload_n 1, 1) := by decide +kernel
theorem dL_text_4 : decode cL_text 4 = .ok (.invokevirtual 7, 3) := by decide +kernel
theorem dL_text_7 : decode cL_text 7 = .ok (.i2l, 1) := by decide +kernel
theorem dL_text_8 : decode cL_text 8 = .ok (.lastore, 1) := by decide +kernel
theorem dL_text_9 : decode cL_text 9 = .ok (.goto 6, 3) := by decide +kernel
theorem dL_text_12 : decode cL_text 12 = .ok (.astore_n 3, 1) := by decide +kernel
theorem dL_text_13 : decode cL_text 13 = .ok (.iconst 1, 1) := by decide +kernel
theorem dL_text_14 : decode cL_text 14 = .ok (.ireturn, 1) := by decide +kernel
theorem dL_text_15 : decode cL_text 15 = .ok (.iconst 0, 1) := by decide +kernel
theorem dL_text_16 : decode cL_text 16 = .ok (.ireturn, 1) := by decide +kernel
theorem dL_join_0 : decode cL_join 0 = .ok (.aload 4, 2) := by decide +kernel
theorem dL_join_2 : decode cL_join 2 = .ok (.iconst 0, 1) := by decide +kernel
theorem dL_join_3 : decode cL_join 3 = .ok (.aload_n 0, 1) := by decide +kernel
theorem dL_join_4 : decode cL_join 4 = .ok (.iload_n 1, 1) := by decide +kernel
theorem dL_join_5 : decode cL_join 5 = .ok (.iload_n 2, 1) := by decide +kernel
theorem dL_join_6 : decode cL_join 6 = .ok (.iload_n 3, 1) := by decide +kernel
theorem dL_join_7 : decode cL_join 7 = .ok (.invokevirtual 15, 3) := by decide +kernel
theorem dL_join_10 : decode cL_join 10 = .ok (.i2l, 1) := by decide +kernel
theorem dL_join_11 : decode cL_join 11 = .ok (.lastore, 1) := by decide +kernel
theorem dL_join_12 : decode cL_join 12 = .ok (.goto 11, 3) := by decide +kernel
theorem dL_join_15 : decode cL_join 15 = .ok (.astore 5, 2) := by decide +kernel
theorem dL_join_17 : decode cL_join 17 = .ok (.iconst 1, 1) := by decide +kernel
theorem dL_join_18 : decode cL_join 18 = .ok (.ireturn, 1) := by decide +kernel
theorem dL_join_19 : decode cL_join 19 = .ok (.astore 5, 2) := by decide +kernel
theorem dL_join_21 : decode cL_join 21 = .ok (.iconst 2, 1) := by decide +kernel
theorem dL_join_22 : decode cL_join 22 = .ok (.ireturn, 1) := by decide +kernel
theorem dL_join_23 : decode cL_join 23 = .ok (.iconst 0, 1) := by decide +kernel
theorem dL_join_24 : decode cL_join 24 = .ok (.ireturn, 1) := by decide +kernel
theorem dL_cut_0 : decode cL_cut 0 = .ok (.aload_n 3, 1) := by decide +kernel
theorem dL_cut_1 : decode cL_cut 1 = .ok (.iconst 0, 1) := by decide +kernel
theorem dL_cut_2 : decode cL_cut 2 = .ok (.aload_n 0, 1) := by decide +kernel
theorem dL_cut_3 : decode cL_cut 3 = .ok (.iload_n 1, 1) := by decide +kernel
theorem dL_cut_4 : decode cL_cut 4 = .ok (.iload_n 2, 1) := by decide +kernel
theorem dL_cut_5 : decode cL_cut 5 = .ok (.invokevirtual 21, 3) := by decide +kernel
theorem dL_cut_8 : decode cL_cut 8 = .ok (.i2l, 1) := by decide +kernel
theorem dL_cut_9 : decode cL_cut 9 = .ok (.lastore, 1) := by decide +kernel
theorem dL_cut_10 : decode cL_cut 10 = .ok (.goto 15, 3) := by decide +kernel
theorem dL_cut_13 : decode cL_cut 13 = .ok (.astore 4, 2) := by decide +kernel
theorem dL_cut_15 : decode cL_cut 15 = .ok (.iconst 1, 1) := by decide +kernel
theorem dL_cut_16 : decode cL_cut 16 = .ok (.ireturn, 1) := by decide +kernel
theorem dL_cut_17 : decode cL_cut 17 = .ok (.astore 4, 2) := by decide +kernel
theorem dL_cut_19 : decode cL_cut 19 = .ok (.iconst 2, 1) := by decide +kernel
theorem dL_cut_20 : decode cL_cut 20 = .ok (.ireturn, 1) := by decide +kernel
theorem dL_cut_21 : decode cL_cut 21 = .ok (.astore 4, 2) := by decide +kernel
theorem dL_cut_23 : decode cL_cut 23 = .ok (.iconst 3, 1) := by decide +kernel
theorem dL_cut_24 : decode cL_cut 24 = .ok (.ireturn, 1) := by decide +kernel
theorem dL_cut_25 : decode cL_cut 25 = .ok (.iconst 0, 1) := by decide +kernel
theorem dL_cut_26 : decode cL_cut 26 = .ok (.ireturn, 1) := by decide +kernel
theorem dL_pair_0 : decode cL_pair 0 = .ok (.aload_n 3, 1) := by decide +kernel
theorem dL_pair_1 : decode cL_pair 1 = .ok (.iconst 0, 1) := by decide +kernel
theorem dL_pair_2 : decode cL_pair 2 = .ok (.aload_n 0, 1) := by decide +kernel
theorem dL_pair_3 : decode cL_pair 3 = .ok (.iload_n 1, 1) := by decide +kernel
theorem dL_pair_4 : decode cL_pair 4 = .ok (.iload_n 2, 1) := by decide +kernel
theorem dL_pair_5 : decode cL_pair 5 = .ok (.invokevirtual 27, 3) := by decide +kernel
theorem dL_pair_8 : decode cL_pair 8 = .ok (.i2l, 1) := by decide +kernel
theorem dL_pair_9 : decode cL_pair 9 = .ok (.lastore, 1) := by decide +kernel
theorem dL_pair_10 : decode cL_pair 10 = .ok (.goto 15, 3) := by decide +kernel
theorem dL_pair_13 : decode cL_pair 13 = .ok (.astore 4, 2) := by decide +kernel
theorem dL_pair_15 : decode cL_pair 15 = .ok (.iconst 1, 1) := by decide +kernel
theorem dL_pair_16 : decode cL_pair 16 = .ok (.ireturn, 1) := by decide +kernel
theorem dL_pair_17 : decode cL_pair 17 = .ok (.astore 4, 2) := by decide +kernel
theorem dL_pair_19 : decode cL_pair 19 = .ok (.iconst 2, 1) := by decide +kernel
theorem dL_pair_20 : decode cL_pair 20 = .ok (.ireturn, 1) := by decide +kernel
theorem dL_pair_21 : decode cL_pair 21 = .ok (.astore 4, 2) := by decide +kernel
theorem dL_pair_23 : decode cL_pair 23 = .ok (.iconst 3, 1) := by decide +kernel
theorem dL_pair_24 : decode cL_pair 24 = .ok (.ireturn, 1) := by decide +kernel
theorem dL_pair_25 : decode cL_pair 25 = .ok (.iconst 0, 1) := by decide +kernel
theorem dL_pair_26 : decode cL_pair 26 = .ok (.ireturn, 1) := by decide +kernel
theorem dL_part_0 : decode cL_part 0 = .ok (.aload_n 2, 1) := by decide +kernel
theorem dL_part_1 : decode cL_part 1 = .ok (.iconst 0, 1) := by decide +kernel
theorem dL_part_2 : decode cL_part 2 = .ok (.aload_n 0, 1) := by decide +kernel
theorem dL_part_3 : decode cL_part 3 = .ok (.iload_n 1, 1) := by decide +kernel
theorem dL_part_4 : decode cL_part 4 = .ok (.invokevirtual 30, 3) := by decide +kernel
theorem dL_part_7 : decode cL_part 7 = .ok (.i2l, 1) := by decide +kernel
theorem dL_part_8 : decode cL_part 8 = .ok (.lastore, 1) := by decide +kernel
theorem dL_part_9 : decode cL_part 9 = .ok (.goto 9, 3) := by decide +kernel
theorem dL_part_12 : decode cL_part 12 = .ok (.astore_n 3, 1) := by decide +kernel
theorem dL_part_13 : decode cL_part 13 = .ok (.iconst 1, 1) := by decide +kernel
theorem dL_part_14 : decode cL_part 14 = .ok (.ireturn, 1) := by decide +kernel
theorem dL_part_15 : decode cL_part 15 = .ok (.astore_n 3, 1) := by decide +kernel
theorem dL_part_16 : decode cL_part 16 = .ok (.iconst 2, 1) := by decide +kernel
theorem dL_part_17 : decode cL_part 17 = .ok (.ireturn, 1) := by decide +kernel
theorem dL_part_18 : decode cL_part 18 = .ok (.iconst 0, 1) := by decide +kernel
theorem dL_part_19 : decode cL_part 19 = .ok (.ireturn, 1) := by decide +kernel
theorem dL_better_0 : decode cL_better 0 = .ok (.aload_n 2, 1) := by decide +kernel
theorem dL_better_1 : decode cL_better 1 = .ok (.iconst 0, 1) := by decide +kernel
theorem dL_better_2 : decode cL_better 2 = .ok (.aload_n 0, 1) := by decide +kernel
theorem dL_better_3 : decode cL_better 3 = .ok (.iload_n 1, 1) := by decide +kernel
theorem dL_better_4 : decode cL_better 4 = .ok (.invokevirtual 33, 3) := by decide +kernel
theorem dL_better_7 : decode cL_better 7 = .ok (.i2l, 1) := by decide +kernel
theorem dL_better_8 : decode cL_better 8 = .ok (.lastore, 1) := by decide +kernel
theorem dL_better_9 : decode cL_better 9 = .ok (.goto 9, 3) := by decide +kernel
theorem dL_better_12 : decode cL_better 12 = .ok (.astore_n 3, 1) := by decide +kernel
theorem dL_better_13 : decode cL_better 13 = .ok (.iconst 1, 1) := by decide +kernel
theorem dL_better_14 : decode cL_better 14 = .ok (.ireturn, 1) := by decide +kernel
theorem dL_better_15 : decode cL_better 15 = .ok (.astore_n 3, 1) := by decide +kernel
theorem dL_better_16 : decode cL_better 16 = .ok (.iconst 2, 1) := by decide +kernel
theorem dL_better_17 : decode cL_better 17 = .ok (.ireturn, 1) := by decide +kernel
theorem dL_better_18 : decode cL_better 18 = .ok (.iconst 0, 1) := by decide +kernel
theorem dL_better_19 : decode cL_better 19 = .ok (.ireturn, 1) := by decide +kernel
theorem dL_shrink_0 : decode cL_shrink 0 = .ok (.aload_n 2, 1) := by decide +kernel
theorem dL_shrink_1 : decode cL_shrink 1 = .ok (.iconst 0, 1) := by decide +kernel
theorem dL_shrink_2 : decode cL_shrink 2 = .ok (.aload_n 0, 1) := by decide +kernel
theorem dL_shrink_3 : decode cL_shrink 3 = .ok (.iload_n 1, 1) := by decide +kernel
theorem dL_shrink_4 : decode cL_shrink 4 = .ok (.invokevirtual 36, 3) := by decide +kernel
theorem dL_shrink_7 : decode cL_shrink 7 = .ok (.i2l, 1) := by decide +kernel
theorem dL_shrink_8 : decode cL_shrink 8 = .ok (.lastore, 1) := by decide +kernel
theorem dL_shrink_9 : decode cL_shrink 9 = .ok (.goto 9, 3) := by decide +kernel
theorem dL_shrink_12 : decode cL_shrink 12 = .ok (.astore_n 3, 1) := by decide +kernel
theorem dL_shrink_13 : decode cL_shrink 13 = .ok (.iconst 1, 1) := by decide +kernel
theorem dL_shrink_14 : decode cL_shrink 14 = .ok (.ireturn, 1) := by decide +kernel
theorem dL_shrink_15 : decode cL_shrink 15 = .ok (.astore_n 3, 1) := by decide +kernel
theorem dL_shrink_16 : decode cL_shrink 16 = .ok (.iconst 2, 1) := by decide +kernel
theorem dL_shrink_17 : decode cL_shrink 17 = .ok (.ireturn, 1) := by decide +kernel
theorem dL_shrink_18 : decode cL_shrink 18 = .ok (.iconst 0, 1) := by decide +kernel
theorem dL_shrink_19 : decode cL_shrink 19 = .ok (.ireturn, 1) := by decide +kernel
theorem dL_told_0 : decode cL_told 0 = .ok (.aload_n 2, 1) := by decide +kernel
theorem dL_told_1 : decode cL_told 1 = .ok (.iconst 0, 1) := by decide +kernel
theorem dL_told_2 : decode cL_told 2 = .ok (.aload_n 0, 1) := by decide +kernel
theorem dL_told_3 : decode cL_told 3 = .ok (.iload_n 1, 1) := by decide +kernel
theorem dL_told_4 : decode cL_told 4 = .ok (.invokevirtual 39, 3) := by decide +kernel
theorem dL_told_7 : decode cL_told 7 = .ok (.i2l, 1) := by decide +kernel
theorem dL_told_8 : decode cL_told 8 = .ok (.lastore, 1) := by decide +kernel
theorem dL_told_9 : decode cL_told 9 = .ok (.goto 6, 3) := by decide +kernel
theorem dL_told_12 : decode cL_told 12 = .ok (.astore_n 3, 1) := by decide +kernel
theorem dL_told_13 : decode cL_told 13 = .ok (.iconst 1, 1) := by decide +kernel
theorem dL_told_14 : decode cL_told 14 = .ok (.ireturn, 1) := by decide +kernel
theorem dL_told_15 : decode cL_told 15 = .ok (.iconst 0, 1) := by decide +kernel
theorem dL_told_16 : decode cL_told 16 = .ok (.ireturn, 1) := by decide +kernel
theorem dL_line_0 : decode cL_line 0 = .ok (.aload 4, 2) := by decide +kernel
theorem dL_line_2 : decode cL_line 2 = .ok (.iconst 0, 1) := by decide +kernel
theorem dL_line_3 : decode cL_line 3 = .ok (.aload_n 0, 1) := by decide +kernel
theorem dL_line_4 : decode cL_line 4 = .ok (.iload_n 1, 1) := by decide +kernel
theorem dL_line_5 : decode cL_line 5 = .ok (.iload_n 2, 1) := by decide +kernel
theorem dL_line_6 : decode cL_line 6 = .ok (.iload_n 3, 1) := by decide +kernel
theorem dL_line_7 : decode cL_line 7 = .ok (.invokevirtual 42, 3) := by decide +kernel
theorem dL_line_10 : decode cL_line 10 = .ok (.i2l, 1) := by decide +kernel
theorem dL_line_11 : decode cL_line 11 = .ok (.lastore, 1) := by decide +kernel
theorem dL_line_12 : decode cL_line 12 = .ok (.goto 11, 3) := by decide +kernel
theorem dL_line_15 : decode cL_line 15 = .ok (.astore 5, 2) := by decide +kernel
theorem dL_line_17 : decode cL_line 17 = .ok (.iconst 1, 1) := by decide +kernel
theorem dL_line_18 : decode cL_line 18 = .ok (.ireturn, 1) := by decide +kernel
theorem dL_line_19 : decode cL_line 19 = .ok (.astore 5, 2) := by decide +kernel
theorem dL_line_21 : decode cL_line 21 = .ok (.iconst 2, 1) := by decide +kernel
theorem dL_line_22 : decode cL_line 22 = .ok (.ireturn, 1) := by decide +kernel
theorem dL_line_23 : decode cL_line 23 = .ok (.iconst 0, 1) := by decide +kernel
theorem dL_line_24 : decode cL_line 24 = .ok (.ireturn, 1) := by decide +kernel
theorem dL_node_0 : decode cL_node 0 = .ok (.aload_n 3, 1) := by decide +kernel
theorem dL_node_1 : decode cL_node 1 = .ok (.iconst 0, 1) := by decide +kernel
theorem dL_node_2 : decode cL_node 2 = .ok (.aload_n 0, 1) := by decide +kernel
theorem dL_node_3 : decode cL_node 3 = .ok (.iload_n 1, 1) := by decide +kernel
theorem dL_node_4 : decode cL_node 4 = .ok (.iload_n 2, 1) := by decide +kernel
theorem dL_node_5 : decode cL_node 5 = .ok (.invokevirtual 45, 3) := by decide +kernel
theorem dL_node_8 : decode cL_node 8 = .ok (.i2l, 1) := by decide +kernel
theorem dL_node_9 : decode cL_node 9 = .ok (.lastore, 1) := by decide +kernel
theorem dL_node_10 : decode cL_node 10 = .ok (.goto 11, 3) := by decide +kernel
theorem dL_node_13 : decode cL_node 13 = .ok (.astore 4, 2) := by decide +kernel
theorem dL_node_15 : decode cL_node 15 = .ok (.iconst 1, 1) := by decide +kernel
theorem dL_node_16 : decode cL_node 16 = .ok (.ireturn, 1) := by decide +kernel
theorem dL_node_17 : decode cL_node 17 = .ok (.astore 4, 2) := by decide +kernel
theorem dL_node_19 : decode cL_node 19 = .ok (.iconst 2, 1) := by decide +kernel
theorem dL_node_20 : decode cL_node 20 = .ok (.ireturn, 1) := by decide +kernel
theorem dL_node_21 : decode cL_node 21 = .ok (.iconst 0, 1) := by decide +kernel
theorem dL_node_22 : decode cL_node 22 = .ok (.ireturn, 1) := by decide +kernel
theorem dL_sets_0 : decode cL_sets 0 = .ok (.aload_n 2, 1) := by decide +kernel
theorem dL_sets_1 : decode cL_sets 1 = .ok (.iconst 0, 1) := by decide +kernel
theorem dL_sets_2 : decode cL_sets 2 = .ok (.aload_n 0, 1) := by decide +kernel
theorem dL_sets_3 : decode cL_sets 3 = .ok (.iload_n 1, 1) := by decide +kernel
theorem dL_sets_4 : decode cL_sets 4 = .ok (.invokevirtual 48, 3) := by decide +kernel
theorem dL_sets_7 : decode cL_sets 7 = .ok (.i2l, 1) := by decide +kernel
theorem dL_sets_8 : decode cL_sets 8 = .ok (.lastore, 1) := by decide +kernel
theorem dL_sets_9 : decode cL_sets 9 = .ok (.goto 6, 3) := by decide +kernel
theorem dL_sets_12 : decode cL_sets 12 = .ok (.astore_n 3, 1) := by decide +kernel
theorem dL_sets_13 : decode cL_sets 13 = .ok (.iconst 1, 1) := by decide +kernel
theorem dL_sets_14 : decode cL_sets 14 = .ok (.ireturn, 1) := by decide +kernel
theorem dL_sets_15 : decode cL_sets 15 = .ok (.iconst 0, 1) := by decide +kernel
theorem dL_sets_16 : decode cL_sets 16 = .ok (.ireturn, 1) := by decide +kernel
theorem dL_odd_0 : decode cL_odd 0 = .ok (.aload_n 2, 1) := by decide +kernel
theorem dL_odd_1 : decode cL_odd 1 = .ok (.iconst 0, 1) := by decide +kernel
theorem dL_odd_2 : decode cL_odd 2 = .ok (.aload_n 0, 1) := by decide +kernel
theorem dL_odd_3 : decode cL_odd 3 = .ok (.iload_n 1, 1) := by decide +kernel
theorem dL_odd_4 : decode cL_odd 4 = .ok (.invokevirtual 51, 3) := by decide +kernel
theorem dL_odd_7 : decode cL_odd 7 = .ok (.i2l, 1) := by decide +kernel
theorem dL_odd_8 : decode cL_odd 8 = .ok (.lastore, 1) := by decide +kernel
theorem dL_odd_9 : decode cL_odd 9 = .ok (.goto 6, 3) := by decide +kernel
theorem dL_odd_12 : decode cL_odd 12 = .ok (.astore_n 3, 1) := by decide +kernel
theorem dL_odd_13 : decode cL_odd 13 = .ok (.iconst 1, 1) := by decide +kernel
theorem dL_odd_14 : decode cL_odd 14 = .ok (.ireturn, 1) := by decide +kernel
theorem dL_odd_15 : decode cL_odd 15 = .ok (.iconst 0, 1) := by decide +kernel
theorem dL_odd_16 : decode cL_odd 16 = .ok (.ireturn, 1) := by decide +kernel
theorem dL_barrier_0 : decode cL_barrier 0 = .ok (.aload_n 2, 1) := by decide +kernel
theorem dL_barrier_1 : decode cL_barrier 1 = .ok (.iconst 0, 1) := by decide +kernel
theorem dL_barrier_2 : decode cL_barrier 2 = .ok (.aload_n 0, 1) := by decide +kernel
theorem dL_barrier_3 : decode cL_barrier 3 = .ok (.iload_n 1, 1) := by decide +kernel
theorem dL_barrier_4 : decode cL_barrier 4 = .ok (.invokevirtual 54, 3) := by decide +kernel
theorem dL_barrier_7 : decode cL_barrier 7 = .ok (.i2l, 1) := by decide +kernel
theorem dL_barrier_8 : decode cL_barrier 8 = .ok (.lastore, 1) := by decide +kernel
theorem dL_barrier_9 : decode cL_barrier 9 = .ok (.goto 6, 3) := by decide +kernel
theorem dL_barrier_12 : decode cL_barrier 12 = .ok (.astore_n 3, 1) := by decide +kernel
theorem dL_barrier_13 : decode cL_barrier 13 = .ok (.iconst 1, 1) := by decide +kernel
theorem dL_barrier_14 : decode cL_barrier 14 = .ok (.ireturn, 1) := by decide +kernel
theorem dL_barrier_15 : decode cL_barrier 15 = .ok (.iconst 0, 1) := by decide +kernel
theorem dL_barrier_16 : decode cL_barrier 16 = .ok (.ireturn, 1) := by decide +kernel
theorem dL_heavy_0 : decode cL_heavy 0 = .ok (.aload_n 2, 1) := by decide +kernel
theorem dL_heavy_1 : decode cL_heavy 1 = .ok (.iconst 0, 1) := by decide +kernel
theorem dL_heavy_2 : decode cL_heavy 2 = .ok (.aload_n 0, 1) := by decide +kernel
theorem dL_heavy_3 : decode cL_heavy 3 = .ok (.iload_n 1, 1) := by decide +kernel
theorem dL_heavy_4 : decode cL_heavy 4 = .ok (.invokevirtual 57, 3) := by decide +kernel
theorem dL_heavy_7 : decode cL_heavy 7 = .ok (.i2l, 1) := by decide +kernel
theorem dL_heavy_8 : decode cL_heavy 8 = .ok (.lastore, 1) := by decide +kernel
theorem dL_heavy_9 : decode cL_heavy 9 = .ok (.goto 6, 3) := by decide +kernel
theorem dL_heavy_12 : decode cL_heavy 12 = .ok (.astore_n 3, 1) := by decide +kernel
theorem dL_heavy_13 : decode cL_heavy 13 = .ok (.iconst 1, 1) := by decide +kernel
theorem dL_heavy_14 : decode cL_heavy 14 = .ok (.ireturn, 1) := by decide +kernel
theorem dL_heavy_15 : decode cL_heavy 15 = .ok (.iconst 0, 1) := by decide +kernel
theorem dL_heavy_16 : decode cL_heavy 16 = .ok (.ireturn, 1) := by decide +kernel
theorem dL_path_0 : decode cL_path 0 = .ok (.aload_n 3, 1) := by decide +kernel
theorem dL_path_1 : decode cL_path 1 = .ok (.iconst 0, 1) := by decide +kernel
theorem dL_path_2 : decode cL_path 2 = .ok (.aload_n 0, 1) := by decide +kernel
theorem dL_path_3 : decode cL_path 3 = .ok (.iload_n 1, 1) := by decide +kernel
theorem dL_path_4 : decode cL_path 4 = .ok (.iload_n 2, 1) := by decide +kernel
theorem dL_path_5 : decode cL_path 5 = .ok (.invokevirtual 60, 3) := by decide +kernel
theorem dL_path_8 : decode cL_path 8 = .ok (.i2l, 1) := by decide +kernel
theorem dL_path_9 : decode cL_path 9 = .ok (.lastore, 1) := by decide +kernel
theorem dL_path_10 : decode cL_path 10 = .ok (.goto 7, 3) := by decide +kernel
theorem dL_path_13 : decode cL_path 13 = .ok (.astore 4, 2) := by decide +kernel
theorem dL_path_15 : decode cL_path 15 = .ok (.iconst 1, 1) := by decide +kernel
theorem dL_path_16 : decode cL_path 16 = .ok (.ireturn, 1) := by decide +kernel
theorem dL_path_17 : decode cL_path 17 = .ok (.iconst 0, 1) := by decide +kernel
theorem dL_path_18 : decode cL_path 18 = .ok (.ireturn, 1) := by decide +kernel
theorem dL_flower_0 : decode cL_flower 0 = .ok (.aload_n 3, 1) := by decide +kernel
theorem dL_flower_1 : decode cL_flower 1 = .ok (.iconst 0, 1) := by decide +kernel
theorem dL_flower_2 : decode cL_flower 2 = .ok (.aload_n 0, 1) := by decide +kernel
theorem dL_flower_3 : decode cL_flower 3 = .ok (.iload_n 1, 1) := by decide +kernel
theorem dL_flower_4 : decode cL_flower 4 = .ok (.iload_n 2, 1) := by decide +kernel
theorem dL_flower_5 : decode cL_flower 5 = .ok (.invokevirtual 63, 3) := by decide +kernel
theorem dL_flower_8 : decode cL_flower 8 = .ok (.i2l, 1) := by decide +kernel
theorem dL_flower_9 : decode cL_flower 9 = .ok (.lastore, 1) := by decide +kernel
theorem dL_flower_10 : decode cL_flower 10 = .ok (.goto 7, 3) := by decide +kernel
theorem dL_flower_13 : decode cL_flower 13 = .ok (.astore 4, 2) := by decide +kernel
theorem dL_flower_15 : decode cL_flower 15 = .ok (.iconst 1, 1) := by decide +kernel
theorem dL_flower_16 : decode cL_flower 16 = .ok (.ireturn, 1) := by decide +kernel
theorem dL_flower_17 : decode cL_flower 17 = .ok (.iconst 0, 1) := by decide +kernel
theorem dL_flower_18 : decode cL_flower 18 = .ok (.ireturn, 1) := by decide +kernel
theorem dL_law_0 : decode cL_law 0 = .ok (.new 8, 3) := by decide +kernel
theorem dL_law_3 : decode cL_law 3 = .ok (.dup, 1) := by decide +kernel
theorem dL_law_4 : decode cL_law 4 = .ok (.invokespecial 66, 3) := by decide +kernel
theorem dL_law_7 : decode cL_law 7 = .ok (.astore_n 1, 1) := by decide +kernel
theorem dL_law_8 : decode cL_law 8 = .ok (.new 67, 3) := by decide +kernel
theorem dL_law_11 : decode cL_law 11 = .ok (.dup, 1) := by decide +kernel
theorem dL_law_12 : decode cL_law 12 = .ok (.invokespecial 69, 3) := by decide +kernel
theorem dL_law_15 : decode cL_law 15 = .ok (.astore_n 2, 1) := by decide +kernel
theorem dL_law_16 : decode cL_law 16 = .ok (.iconst 1, 1) := by decide +kernel
theorem dL_law_17 : decode cL_law 17 = .ok (.newarray .long, 2) := by decide +kernel
theorem dL_law_19 : decode cL_law 19 = .ok (.astore_n 3, 1) := by decide +kernel
theorem dL_law_20 : decode cL_law 20 = .ok (.iconst 0, 1) := by decide +kernel
theorem dL_law_21 : decode cL_law 21 = .ok (.istore 4, 2) := by decide +kernel
theorem dL_law_23 : decode cL_law 23 = .ok (.iload 4, 2) := by decide +kernel
theorem dL_law_25 : decode cL_law 25 = .ok (.aload_n 0, 1) := by decide +kernel
theorem dL_law_26 : decode cL_law 26 = .ok (.arraylength, 1) := by decide +kernel
theorem dL_law_27 : decode cL_law 27 = .ok (.bipush 6, 2) := by decide +kernel
theorem dL_law_29 : decode cL_law 29 = .ok (.isub, 1) := by decide +kernel
theorem dL_law_30 : decode cL_law 30 = .ok (.if_icmp .gt 1292, 3) := by decide +kernel
theorem dL_law_33 : decode cL_law 33 = .ok (.aload_n 0, 1) := by decide +kernel
theorem dL_law_34 : decode cL_law 34 = .ok (.iload 4, 2) := by decide +kernel
theorem dL_law_36 : decode cL_law 36 = .ok (.iaload, 1) := by decide +kernel
theorem dL_law_37 : decode cL_law 37 = .ok (.bipush 31, 2) := by decide +kernel
theorem dL_law_39 : decode cL_law 39 = .ok (.iand, 1) := by decide +kernel
theorem dL_law_40 : decode cL_law 40 = .ok (.tableswitch 1276 0 22 #[108, 181, 237, 250, 330, 398, 466, 522, 578, 591, 647, 660, 716, 796, 864, 920, 976, 1032, 1045, 1101, 1169, 1237, 1251], 108) := by decide +kernel
theorem dL_law_148 : decode cL_law 148 = .ok (.aload_n 1, 1) := by decide +kernel
theorem dL_law_149 : decode cL_law 149 = .ok (.aload_n 0, 1) := by decide +kernel
theorem dL_law_150 : decode cL_law 150 = .ok (.iload 4, 2) := by decide +kernel
theorem dL_law_152 : decode cL_law 152 = .ok (.iconst 1, 1) := by decide +kernel
theorem dL_law_153 : decode cL_law 153 = .ok (.iadd, 1) := by decide +kernel
theorem dL_law_154 : decode cL_law 154 = .ok (.iaload, 1) := by decide +kernel
theorem dL_law_155 : decode cL_law 155 = .ok (.aload_n 0, 1) := by decide +kernel
theorem dL_law_156 : decode cL_law 156 = .ok (.iload 4, 2) := by decide +kernel
theorem dL_law_158 : decode cL_law 158 = .ok (.iconst 2, 1) := by decide +kernel
theorem dL_law_159 : decode cL_law 159 = .ok (.iadd, 1) := by decide +kernel
theorem dL_law_160 : decode cL_law 160 = .ok (.iaload, 1) := by decide +kernel
theorem dL_law_161 : decode cL_law 161 = .ok (.aload_n 0, 1) := by decide +kernel
theorem dL_law_162 : decode cL_law 162 = .ok (.iload 4, 2) := by decide +kernel
theorem dL_law_164 : decode cL_law 164 = .ok (.iconst 3, 1) := by decide +kernel
theorem dL_law_165 : decode cL_law 165 = .ok (.iadd, 1) := by decide +kernel
theorem dL_law_166 : decode cL_law 166 = .ok (.iaload, 1) := by decide +kernel
theorem dL_law_167 : decode cL_law 167 = .ok (.aload_n 0, 1) := by decide +kernel
theorem dL_law_168 : decode cL_law 168 = .ok (.iload 4, 2) := by decide +kernel
theorem dL_law_170 : decode cL_law 170 = .ok (.iconst 4, 1) := by decide +kernel
theorem dL_law_171 : decode cL_law 171 = .ok (.iadd, 1) := by decide +kernel
theorem dL_law_172 : decode cL_law 172 = .ok (.iaload, 1) := by decide +kernel
theorem dL_law_173 : decode cL_law 173 = .ok (.aload_n 0, 1) := by decide +kernel
theorem dL_law_174 : decode cL_law 174 = .ok (.iload 4, 2) := by decide +kernel
theorem dL_law_176 : decode cL_law 176 = .ok (.iconst 5, 1) := by decide +kernel
theorem dL_law_177 : decode cL_law 177 = .ok (.iadd, 1) := by decide +kernel
theorem dL_law_178 : decode cL_law 178 = .ok (.iaload, 1) := by decide +kernel
theorem dL_law_179 : decode cL_law 179 = .ok (.invokevirtual 70, 3) := by decide +kernel
theorem dL_law_182 : decode cL_law 182 = .ok (.aload_n 2, 1) := by decide +kernel
theorem dL_law_183 : decode cL_law 183 = .ok (.aload_n 0, 1) := by decide +kernel
theorem dL_law_184 : decode cL_law 184 = .ok (.iload 4, 2) := by decide +kernel
theorem dL_law_186 : decode cL_law 186 = .ok (.iconst 1, 1) := by decide +kernel
theorem dL_law_187 : decode cL_law 187 = .ok (.iadd, 1) := by decide +kernel
theorem dL_law_188 : decode cL_law 188 = .ok (.iaload, 1) := by decide +kernel
theorem dL_law_189 : decode cL_law 189 = .ok (.aload_n 0, 1) := by decide +kernel
theorem dL_law_190 : decode cL_law 190 = .ok (.iload 4, 2) := by decide +kernel
theorem dL_law_192 : decode cL_law 192 = .ok (.iconst 2, 1) := by decide +kernel
theorem dL_law_193 : decode cL_law 193 = .ok (.iadd, 1) := by decide +kernel
theorem dL_law_194 : decode cL_law 194 = .ok (.iaload, 1) := by decide +kernel
theorem dL_law_195 : decode cL_law 195 = .ok (.aload_n 0, 1) := by decide +kernel
theorem dL_law_196 : decode cL_law 196 = .ok (.iload 4, 2) := by decide +kernel
theorem dL_law_198 : decode cL_law 198 = .ok (.iconst 3, 1) := by decide +kernel
theorem dL_law_199 : decode cL_law 199 = .ok (.iadd, 1) := by decide +kernel
theorem dL_law_200 : decode cL_law 200 = .ok (.iaload, 1) := by decide +kernel
theorem dL_law_201 : decode cL_law 201 = .ok (.aload_n 0, 1) := by decide +kernel
theorem dL_law_202 : decode cL_law 202 = .ok (.iload 4, 2) := by decide +kernel
theorem dL_law_204 : decode cL_law 204 = .ok (.iconst 4, 1) := by decide +kernel
theorem dL_law_205 : decode cL_law 205 = .ok (.iadd, 1) := by decide +kernel
theorem dL_law_206 : decode cL_law 206 = .ok (.iaload, 1) := by decide +kernel
theorem dL_law_207 : decode cL_law 207 = .ok (.aload_n 0, 1) := by decide +kernel
theorem dL_law_208 : decode cL_law 208 = .ok (.iload 4, 2) := by decide +kernel
theorem dL_law_210 : decode cL_law 210 = .ok (.iconst 5, 1) := by decide +kernel
theorem dL_law_211 : decode cL_law 211 = .ok (.iadd, 1) := by decide +kernel
theorem dL_law_212 : decode cL_law 212 = .ok (.iaload, 1) := by decide +kernel
theorem dL_law_213 : decode cL_law 213 = .ok (.invokevirtual 74, 3) := by decide +kernel
theorem dL_law_216 : decode cL_law 216 = .ok (.if_icmp .eq 1100, 3) := by decide +kernel
theorem dL_law_219 : decode cL_law 219 = .ok (.iconst 0, 1) := by decide +kernel
theorem dL_law_220 : decode cL_law 220 = .ok (.ireturn, 1) := by decide +kernel
theorem dL_law_221 : decode cL_law 221 = .ok (.aload_n 1, 1) := by decide +kernel
theorem dL_law_222 : decode cL_law 222 = .ok (.aload_n 0, 1) := by decide +kernel
theorem dL_law_223 : decode cL_law 223 = .ok (.iload 4, 2) := by decide +kernel
theorem dL_law_225 : decode cL_law 225 = .ok (.iconst 1, 1) := by decide +kernel
theorem dL_law_226 : decode cL_law 226 = .ok (.iadd, 1) := by decide +kernel
theorem dL_law_227 : decode cL_law 227 = .ok (.iaload, 1) := by decide +kernel
theorem dL_law_228 : decode cL_law 228 = .ok (.aload_n 3, 1) := by decide +kernel
theorem dL_law_229 : decode cL_law 229 = .ok (.invokestatic 75, 3) := by decide +kernel
theorem dL_law_232 : decode cL_law 232 = .ok (.istore 5, 2) := by decide +kernel
theorem dL_law_234 : decode cL_law 234 = .ok (.aload_n 2, 1) := by decide +kernel
theorem dL_law_235 : decode cL_law 235 = .ok (.aload_n 0, 1) := by decide +kernel
theorem dL_law_236 : decode cL_law 236 = .ok (.iload 4, 2) := by decide +kernel
theorem dL_law_238 : decode cL_law 238 = .ok (.iconst 1, 1) := by decide +kernel
theorem dL_law_239 : decode cL_law 239 = .ok (.iadd, 1) := by decide +kernel
theorem dL_law_240 : decode cL_law 240 = .ok (.iaload, 1) := by decide +kernel
theorem dL_law_241 : decode cL_law 241 = .ok (.invokevirtual 80, 3) := by decide +kernel
theorem dL_law_244 : decode cL_law 244 = .ok (.istore 6, 2) := by decide +kernel
theorem dL_law_246 : decode cL_law 246 = .ok (.aload_n 2, 1) := by decide +kernel
theorem dL_law_247 : decode cL_law 247 = .ok (.invokevirtual 81, 3) := by decide +kernel
theorem dL_law_250 : decode cL_law 250 = .ok (.iload 5, 2) := by decide +kernel
theorem dL_law_252 : decode cL_law 252 = .ok (.if_icmp .eq 5, 3) := by decide +kernel
theorem dL_law_255 : decode cL_law 255 = .ok (.iconst 0, 1) := by decide +kernel
theorem dL_law_256 : decode cL_law 256 = .ok (.ireturn, 1) := by decide +kernel
theorem dL_law_257 : decode cL_law 257 = .ok (.iload 5, 2) := by decide +kernel
theorem dL_law_259 : decode cL_law 259 = .ok (.ifCond .ne 15, 3) := by decide +kernel
theorem dL_law_262 : decode cL_law 262 = .ok (.aload_n 3, 1) := by decide +kernel
theorem dL_law_263 : decode cL_law 263 = .ok (.iconst 0, 1) := by decide +kernel
theorem dL_law_264 : decode cL_law 264 = .ok (.laload, 1) := by decide +kernel
theorem dL_law_265 : decode cL_law 265 = .ok (.iload 6, 2) := by decide +kernel
theorem dL_law_267 : decode cL_law 267 = .ok (.i2l, 1) := by decide +kernel
theorem dL_law_268 : decode cL_law 268 = .ok (.lcmp, 1) := by decide +kernel
theorem dL_law_269 : decode cL_law 269 = .ok (.ifCond .eq 5, 3) := by decide +kernel
theorem dL_law_272 : decode cL_law 272 = .ok (.iconst 0, 1) := by decide +kernel
theorem dL_law_273 : decode cL_law 273 = .ok (.ireturn, 1) := by decide +kernel
theorem dL_law_274 : decode cL_law 274 = .ok (.goto 1042, 3) := by decide +kernel
theorem dL_law_277 : decode cL_law 277 = .ok (.aload_n 1, 1) := by decide +kernel
theorem dL_law_278 : decode cL_law 278 = .ok (.invokevirtual 85, 3) := by decide +kernel
theorem dL_law_281 : decode cL_law 281 = .ok (.aload_n 2, 1) := by decide +kernel
theorem dL_law_282 : decode cL_law 282 = .ok (.invokevirtual 88, 3) := by decide +kernel
theorem dL_law_285 : decode cL_law 285 = .ok (.if_icmp .eq 1031, 3) := by decide +kernel
theorem dL_law_288 : decode cL_law 288 = .ok (.iconst 0, 1) := by decide +kernel
theorem dL_law_289 : decode cL_law 289 = .ok (.ireturn, 1) := by decide +kernel
theorem dL_law_290 : decode cL_law 290 = .ok (.aload_n 1, 1) := by decide +kernel
theorem dL_law_291 : decode cL_law 291 = .ok (.aload_n 0, 1) := by decide +kernel
theorem dL_law_292 : decode cL_law 292 = .ok (.iload 4, 2) := by decide +kernel
theorem dL_law_294 : decode cL_law 294 = .ok (.iconst 1, 1) := by decide +kernel
theorem dL_law_295 : decode cL_law 295 = .ok (.iadd, 1) := by decide +kernel
theorem dL_law_296 : decode cL_law 296 = .ok (.iaload, 1) := by decide +kernel
theorem dL_law_297 : decode cL_law 297 = .ok (.aload_n 0, 1) := by decide +kernel
theorem dL_law_298 : decode cL_law 298 = .ok (.iload 4, 2) := by decide +kernel
theorem dL_law_300 : decode cL_law 300 = .ok (.iconst 2, 1) := by decide +kernel
theorem dL_law_301 : decode cL_law 301 = .ok (.iadd, 1) := by decide +kernel
theorem dL_law_302 : decode cL_law 302 = .ok (.iaload, 1) := by decide +kernel
theorem dL_law_303 : decode cL_law 303 = .ok (.aload_n 0, 1) := by decide +kernel
theorem dL_law_304 : decode cL_law 304 = .ok (.iload 4, 2) := by decide +kernel
theorem dL_law_306 : decode cL_law 306 = .ok (.iconst 3, 1) := by decide +kernel
theorem dL_law_307 : decode cL_law 307 = .ok (.iadd, 1) := by decide +kernel
theorem dL_law_308 : decode cL_law 308 = .ok (.iaload, 1) := by decide +kernel
theorem dL_law_309 : decode cL_law 309 = .ok (.aload_n 3, 1) := by decide +kernel
theorem dL_law_310 : decode cL_law 310 = .ok (.invokestatic 89, 3) := by decide +kernel
theorem dL_law_313 : decode cL_law 313 = .ok (.istore 5, 2) := by decide +kernel
theorem dL_law_315 : decode cL_law 315 = .ok (.aload_n 2, 1) := by decide +kernel
theorem dL_law_316 : decode cL_law 316 = .ok (.aload_n 0, 1) := by decide +kernel
theorem dL_law_317 : decode cL_law 317 = .ok (.iload 4, 2) := by decide +kernel
theorem dL_law_319 : decode cL_law 319 = .ok (.iconst 1, 1) := by decide +kernel
theorem dL_law_320 : decode cL_law 320 = .ok (.iadd, 1) := by decide +kernel
theorem dL_law_321 : decode cL_law 321 = .ok (.iaload, 1) := by decide +kernel
theorem dL_law_322 : decode cL_law 322 = .ok (.aload_n 0, 1) := by decide +kernel
theorem dL_law_323 : decode cL_law 323 = .ok (.iload 4, 2) := by decide +kernel
theorem dL_law_325 : decode cL_law 325 = .ok (.iconst 2, 1) := by decide +kernel
theorem dL_law_326 : decode cL_law 326 = .ok (.iadd, 1) := by decide +kernel
theorem dL_law_327 : decode cL_law 327 = .ok (.iaload, 1) := by decide +kernel
theorem dL_law_328 : decode cL_law 328 = .ok (.aload_n 0, 1) := by decide +kernel
theorem dL_law_329 : decode cL_law 329 = .ok (.iload 4, 2) := by decide +kernel
theorem dL_law_331 : decode cL_law 331 = .ok (.iconst 3, 1) := by decide +kernel
theorem dL_law_332 : decode cL_law 332 = .ok (.iadd, 1) := by decide +kernel
theorem dL_law_333 : decode cL_law 333 = .ok (.iaload, 1) := by decide +kernel
theorem dL_law_334 : decode cL_law 334 = .ok (.invokevirtual 92, 3) := by decide +kernel
theorem dL_law_337 : decode cL_law 337 = .ok (.istore 6, 2) := by decide +kernel
theorem dL_law_339 : decode cL_law 339 = .ok (.aload_n 2, 1) := by decide +kernel
theorem dL_law_340 : decode cL_law 340 = .ok (.invokevirtual 81, 3) := by decide +kernel
theorem dL_law_343 : decode cL_law 343 = .ok (.iload 5, 2) := by decide +kernel
theorem dL_law_345 : decode cL_law 345 = .ok (.if_icmp .eq 5, 3) := by decide +kernel
theorem dL_law_348 : decode cL_law 348 = .ok (.iconst 0, 1) := by decide +kernel
theorem dL_law_349 : decode cL_law 349 = .ok (.ireturn, 1) := by decide +kernel
theorem dL_law_350 : decode cL_law 350 = .ok (.iload 5, 2) := by decide +kernel
theorem dL_law_352 : decode cL_law 352 = .ok (.ifCond .ne 15, 3) := by decide +kernel
theorem dL_law_355 : decode cL_law 355 = .ok (.aload_n 3, 1) := by decide +kernel
theorem dL_law_356 : decode cL_law 356 = .ok (.iconst 0, 1) := by decide +kernel
theorem dL_law_357 : decode cL_law 357 = .ok (.laload, 1) := by decide +kernel
theorem dL_law_358 : decode cL_law 358 = .ok (.iload 6, 2) := by decide +kernel
theorem dL_law_360 : decode cL_law 360 = .ok (.i2l, 1) := by decide +kernel
theorem dL_law_361 : decode cL_law 361 = .ok (.lcmp, 1) := by decide +kernel
theorem dL_law_362 : decode cL_law 362 = .ok (.ifCond .eq 5, 3) := by decide +kernel
theorem dL_law_365 : decode cL_law 365 = .ok (.iconst 0, 1) := by decide +kernel
theorem dL_law_366 : decode cL_law 366 = .ok (.ireturn, 1) := by decide +kernel
theorem dL_law_367 : decode cL_law 367 = .ok (.goto 949, 3) := by decide +kernel
theorem dL_law_370 : decode cL_law 370 = .ok (.aload_n 1, 1) := by decide +kernel
theorem dL_law_371 : decode cL_law 371 = .ok (.aload_n 0, 1) := by decide +kernel
theorem dL_law_372 : decode cL_law 372 = .ok (.iload 4, 2) := by decide +kernel
theorem dL_law_374 : decode cL_law 374 = .ok (.iconst 1, 1) := by decide +kernel
theorem dL_law_375 : decode cL_law 375 = .ok (.iadd, 1) := by decide +kernel
theorem dL_law_376 : decode cL_law 376 = .ok (.iaload, 1) := by decide +kernel
theorem dL_law_377 : decode cL_law 377 = .ok (.aload_n 0, 1) := by decide +kernel
theorem dL_law_378 : decode cL_law 378 = .ok (.iload 4, 2) := by decide +kernel
theorem dL_law_380 : decode cL_law 380 = .ok (.iconst 2, 1) := by decide +kernel
theorem dL_law_381 : decode cL_law 381 = .ok (.iadd, 1) := by decide +kernel
theorem dL_law_382 : decode cL_law 382 = .ok (.iaload, 1) := by decide +kernel
theorem dL_law_383 : decode cL_law 383 = .ok (.aload_n 3, 1) := by decide +kernel
theorem dL_law_384 : decode cL_law 384 = .ok (.invokestatic 93, 3) := by decide +kernel
theorem dL_law_387 : decode cL_law 387 = .ok (.istore 5, 2) := by decide +kernel
theorem dL_law_389 : decode cL_law 389 = .ok (.aload_n 2, 1) := by decide +kernel
theorem dL_law_390 : decode cL_law 390 = .ok (.aload_n 0, 1) := by decide +kernel
theorem dL_law_391 : decode cL_law 391 = .ok (.iload 4, 2) := by decide +kernel
theorem dL_law_393 : decode cL_law 393 = .ok (.iconst 1, 1) := by decide +kernel
theorem dL_law_394 : decode cL_law 394 = .ok (.iadd, 1) := by decide +kernel
theorem dL_law_395 : decode cL_law 395 = .ok (.iaload, 1) := by decide +kernel
theorem dL_law_396 : decode cL_law 396 = .ok (.aload_n 0, 1) := by decide +kernel
theorem dL_law_397 : decode cL_law 397 = .ok (.iload 4, 2) := by decide +kernel
theorem dL_law_399 : decode cL_law 399 = .ok (.iconst 2, 1) := by decide +kernel
theorem dL_law_400 : decode cL_law 400 = .ok (.iadd, 1) := by decide +kernel
theorem dL_law_401 : decode cL_law 401 = .ok (.iaload, 1) := by decide +kernel
theorem dL_law_402 : decode cL_law 402 = .ok (.invokevirtual 96, 3) := by decide +kernel
theorem dL_law_405 : decode cL_law 405 = .ok (.istore 6, 2) := by decide +kernel
theorem dL_law_407 : decode cL_law 407 = .ok (.aload_n 2, 1) := by decide +kernel
theorem dL_law_408 : decode cL_law 408 = .ok (.invokevirtual 81, 3) := by decide +kernel
theorem dL_law_411 : decode cL_law 411 = .ok (.iload 5, 2) := by decide +kernel
theorem dL_law_413 : decode cL_law 413 = .ok (.if_icmp .eq 5, 3) := by decide +kernel
theorem dL_law_416 : decode cL_law 416 = .ok (.iconst 0, 1) := by decide +kernel
theorem dL_law_417 : decode cL_law 417 = .ok (.ireturn, 1) := by decide +kernel
theorem dL_law_418 : decode cL_law 418 = .ok (.iload 5, 2) := by decide +kernel
theorem dL_law_420 : decode cL_law 420 = .ok (.ifCond .ne 15, 3) := by decide +kernel
theorem dL_law_423 : decode cL_law 423 = .ok (.aload_n 3, 1) := by decide +kernel
theorem dL_law_424 : decode cL_law 424 = .ok (.iconst 0, 1) := by decide +kernel
theorem dL_law_425 : decode cL_law 425 = .ok (.laload, 1) := by decide +kernel
theorem dL_law_426 : decode cL_law 426 = .ok (.iload 6, 2) := by decide +kernel
theorem dL_law_428 : decode cL_law 428 = .ok (.i2l, 1) := by decide +kernel
theorem dL_law_429 : decode cL_law 429 = .ok (.lcmp, 1) := by decide +kernel
theorem dL_law_430 : decode cL_law 430 = .ok (.ifCond .eq 5, 3) := by decide +kernel
theorem dL_law_433 : decode cL_law 433 = .ok (.iconst 0, 1) := by decide +kernel
theorem dL_law_434 : decode cL_law 434 = .ok (.ireturn, 1) := by decide +kernel
theorem dL_law_435 : decode cL_law 435 = .ok (.goto 881, 3) := by decide +kernel
theorem dL_law_438 : decode cL_law 438 = .ok (.aload_n 1, 1) := by decide +kernel
theorem dL_law_439 : decode cL_law 439 = .ok (.aload_n 0, 1) := by decide +kernel
theorem dL_law_440 : decode cL_law 440 = .ok (.iload 4, 2) := by decide +kernel
theorem dL_law_442 : decode cL_law 442 = .ok (.iconst 1, 1) := by decide +kernel
theorem dL_law_443 : decode cL_law 443 = .ok (.iadd, 1) := by decide +kernel
theorem dL_law_444 : decode cL_law 444 = .ok (.iaload, 1) := by decide +kernel
theorem dL_law_445 : decode cL_law 445 = .ok (.aload_n 0, 1) := by decide +kernel
theorem dL_law_446 : decode cL_law 446 = .ok (.iload 4, 2) := by decide +kernel
theorem dL_law_448 : decode cL_law 448 = .ok (.iconst 2, 1) := by decide +kernel
theorem dL_law_449 : decode cL_law 449 = .ok (.iadd, 1) := by decide +kernel
theorem dL_law_450 : decode cL_law 450 = .ok (.iaload, 1) := by decide +kernel
theorem dL_law_451 : decode cL_law 451 = .ok (.aload_n 3, 1) := by decide +kernel
theorem dL_law_452 : decode cL_law 452 = .ok (.invokestatic 97, 3) := by decide +kernel
theorem dL_law_455 : decode cL_law 455 = .ok (.istore 5, 2) := by decide +kernel
theorem dL_law_457 : decode cL_law 457 = .ok (.aload_n 2, 1) := by decide +kernel
theorem dL_law_458 : decode cL_law 458 = .ok (.aload_n 0, 1) := by decide +kernel
theorem dL_law_459 : decode cL_law 459 = .ok (.iload 4, 2) := by decide +kernel
theorem dL_law_461 : decode cL_law 461 = .ok (.iconst 1, 1) := by decide +kernel
theorem dL_law_462 : decode cL_law 462 = .ok (.iadd, 1) := by decide +kernel
theorem dL_law_463 : decode cL_law 463 = .ok (.iaload, 1) := by decide +kernel
theorem dL_law_464 : decode cL_law 464 = .ok (.aload_n 0, 1) := by decide +kernel
theorem dL_law_465 : decode cL_law 465 = .ok (.iload 4, 2) := by decide +kernel
theorem dL_law_467 : decode cL_law 467 = .ok (.iconst 2, 1) := by decide +kernel
theorem dL_law_468 : decode cL_law 468 = .ok (.iadd, 1) := by decide +kernel
theorem dL_law_469 : decode cL_law 469 = .ok (.iaload, 1) := by decide +kernel
theorem dL_law_470 : decode cL_law 470 = .ok (.invokevirtual 99, 3) := by decide +kernel
theorem dL_law_473 : decode cL_law 473 = .ok (.istore 6, 2) := by decide +kernel
theorem dL_law_475 : decode cL_law 475 = .ok (.aload_n 2, 1) := by decide +kernel
theorem dL_law_476 : decode cL_law 476 = .ok (.invokevirtual 81, 3) := by decide +kernel
theorem dL_law_479 : decode cL_law 479 = .ok (.iload 5, 2) := by decide +kernel
theorem dL_law_481 : decode cL_law 481 = .ok (.if_icmp .eq 5, 3) := by decide +kernel
theorem dL_law_484 : decode cL_law 484 = .ok (.iconst 0, 1) := by decide +kernel
theorem dL_law_485 : decode cL_law 485 = .ok (.ireturn, 1) := by decide +kernel
theorem dL_law_486 : decode cL_law 486 = .ok (.iload 5, 2) := by decide +kernel
theorem dL_law_488 : decode cL_law 488 = .ok (.ifCond .ne 15, 3) := by decide +kernel
theorem dL_law_491 : decode cL_law 491 = .ok (.aload_n 3, 1) := by decide +kernel
theorem dL_law_492 : decode cL_law 492 = .ok (.iconst 0, 1) := by decide +kernel
theorem dL_law_493 : decode cL_law 493 = .ok (.laload, 1) := by decide +kernel
theorem dL_law_494 : decode cL_law 494 = .ok (.iload 6, 2) := by decide +kernel
theorem dL_law_496 : decode cL_law 496 = .ok (.i2l, 1) := by decide +kernel
theorem dL_law_497 : decode cL_law 497 = .ok (.lcmp, 1) := by decide +kernel
theorem dL_law_498 : decode cL_law 498 = .ok (.ifCond .eq 5, 3) := by decide +kernel
theorem dL_law_501 : decode cL_law 501 = .ok (.iconst 0, 1) := by decide +kernel
theorem dL_law_502 : decode cL_law 502 = .ok (.ireturn, 1) := by decide +kernel
theorem dL_law_503 : decode cL_law 503 = .ok (.goto 813, 3) := by decide +kernel
theorem dL_law_506 : decode cL_law 506 = .ok (.aload_n 1, 1) := by decide +kernel
theorem dL_law_507 : decode cL_law 507 = .ok (.aload_n 0, 1) := by decide +kernel
theorem dL_law_508 : decode cL_law 508 = .ok (.iload 4, 2) := by decide +kernel
theorem dL_law_510 : decode cL_law 510 = .ok (.iconst 1, 1) := by decide +kernel
theorem dL_law_511 : decode cL_law 511 = .ok (.iadd, 1) := by decide +kernel
theorem dL_law_512 : decode cL_law 512 = .ok (.iaload, 1) := by decide +kernel
theorem dL_law_513 : decode cL_law 513 = .ok (.aload_n 3, 1) := by decide +kernel
theorem dL_law_514 : decode cL_law 514 = .ok (.invokestatic 100, 3) := by decide +kernel
theorem dL_law_517 : decode cL_law 517 = .ok (.istore 5, 2) := by decide +kernel
theorem dL_law_519 : decode cL_law 519 = .ok (.aload_n 2, 1) := by decide +kernel
theorem dL_law_520 : decode cL_law 520 = .ok (.aload_n 0, 1) := by decide +kernel
theorem dL_law_521 : decode cL_law 521 = .ok (.iload 4, 2) := by decide +kernel
theorem dL_law_523 : decode cL_law 523 = .ok (.iconst 1, 1) := by decide +kernel
theorem dL_law_524 : decode cL_law 524 = .ok (.iadd, 1) := by decide +kernel
theorem dL_law_525 : decode cL_law 525 = .ok (.iaload, 1) := by decide +kernel
theorem dL_law_526 : decode cL_law 526 = .ok (.invokevirtual 102, 3) := by decide +kernel
theorem dL_law_529 : decode cL_law 529 = .ok (.istore 6, 2) := by decide +kernel
theorem dL_law_531 : decode cL_law 531 = .ok (.aload_n 2, 1) := by decide +kernel
theorem dL_law_532 : decode cL_law 532 = .ok (.invokevirtual 81, 3) := by decide +kernel
theorem dL_law_535 : decode cL_law 535 = .ok (.iload 5, 2) := by decide +kernel
theorem dL_law_537 : decode cL_law 537 = .ok (.if_icmp .eq 5, 3) := by decide +kernel
theorem dL_law_540 : decode cL_law 540 = .ok (.iconst 0, 1) := by decide +kernel
theorem dL_law_541 : decode cL_law 541 = .ok (.ireturn, 1) := by decide +kernel
theorem dL_law_542 : decode cL_law 542 = .ok (.iload 5, 2) := by decide +kernel
theorem dL_law_544 : decode cL_law 544 = .ok (.ifCond .ne 15, 3) := by decide +kernel
theorem dL_law_547 : decode cL_law 547 = .ok (.aload_n 3, 1) := by decide +kernel
theorem dL_law_548 : decode cL_law 548 = .ok (.iconst 0, 1) := by decide +kernel
theorem dL_law_549 : decode cL_law 549 = .ok (.laload, 1) := by decide +kernel
theorem dL_law_550 : decode cL_law 550 = .ok (.iload 6, 2) := by decide +kernel
theorem dL_law_552 : decode cL_law 552 = .ok (.i2l, 1) := by decide +kernel
theorem dL_law_553 : decode cL_law 553 = .ok (.lcmp, 1) := by decide +kernel
theorem dL_law_554 : decode cL_law 554 = .ok (.ifCond .eq 5, 3) := by decide +kernel
theorem dL_law_557 : decode cL_law 557 = .ok (.iconst 0, 1) := by decide +kernel
theorem dL_law_558 : decode cL_law 558 = .ok (.ireturn, 1) := by decide +kernel
theorem dL_law_559 : decode cL_law 559 = .ok (.goto 757, 3) := by decide +kernel
theorem dL_law_562 : decode cL_law 562 = .ok (.aload_n 1, 1) := by decide +kernel
theorem dL_law_563 : decode cL_law 563 = .ok (.aload_n 0, 1) := by decide +kernel
theorem dL_law_564 : decode cL_law 564 = .ok (.iload 4, 2) := by decide +kernel
theorem dL_law_566 : decode cL_law 566 = .ok (.iconst 1, 1) := by decide +kernel
theorem dL_law_567 : decode cL_law 567 = .ok (.iadd, 1) := by decide +kernel
theorem dL_law_568 : decode cL_law 568 = .ok (.iaload, 1) := by decide +kernel
theorem dL_law_569 : decode cL_law 569 = .ok (.aload_n 3, 1) := by decide +kernel
theorem dL_law_570 : decode cL_law 570 = .ok (.invokestatic 103, 3) := by decide +kernel
theorem dL_law_573 : decode cL_law 573 = .ok (.istore 5, 2) := by decide +kernel
theorem dL_law_575 : decode cL_law 575 = .ok (.aload_n 2, 1) := by decide +kernel
theorem dL_law_576 : decode cL_law 576 = .ok (.aload_n 0, 1) := by decide +kernel
theorem dL_law_577 : decode cL_law 577 = .ok (.iload 4, 2) := by decide +kernel
theorem dL_law_579 : decode cL_law 579 = .ok (.iconst 1, 1) := by decide +kernel
theorem dL_law_580 : decode cL_law 580 = .ok (.iadd, 1) := by decide +kernel
theorem dL_law_581 : decode cL_law 581 = .ok (.iaload, 1) := by decide +kernel
theorem dL_law_582 : decode cL_law 582 = .ok (.invokevirtual 105, 3) := by decide +kernel
theorem dL_law_585 : decode cL_law 585 = .ok (.istore 6, 2) := by decide +kernel
theorem dL_law_587 : decode cL_law 587 = .ok (.aload_n 2, 1) := by decide +kernel
theorem dL_law_588 : decode cL_law 588 = .ok (.invokevirtual 81, 3) := by decide +kernel
theorem dL_law_591 : decode cL_law 591 = .ok (.iload 5, 2) := by decide +kernel
theorem dL_law_593 : decode cL_law 593 = .ok (.if_icmp .eq 5, 3) := by decide +kernel
theorem dL_law_596 : decode cL_law 596 = .ok (.iconst 0, 1) := by decide +kernel
theorem dL_law_597 : decode cL_law 597 = .ok (.ireturn, 1) := by decide +kernel
theorem dL_law_598 : decode cL_law 598 = .ok (.iload 5, 2) := by decide +kernel
theorem dL_law_600 : decode cL_law 600 = .ok (.ifCond .ne 15, 3) := by decide +kernel
theorem dL_law_603 : decode cL_law 603 = .ok (.aload_n 3, 1) := by decide +kernel
theorem dL_law_604 : decode cL_law 604 = .ok (.iconst 0, 1) := by decide +kernel
theorem dL_law_605 : decode cL_law 605 = .ok (.laload, 1) := by decide +kernel
theorem dL_law_606 : decode cL_law 606 = .ok (.iload 6, 2) := by decide +kernel
theorem dL_law_608 : decode cL_law 608 = .ok (.i2l, 1) := by decide +kernel
theorem dL_law_609 : decode cL_law 609 = .ok (.lcmp, 1) := by decide +kernel
theorem dL_law_610 : decode cL_law 610 = .ok (.ifCond .eq 5, 3) := by decide +kernel
theorem dL_law_613 : decode cL_law 613 = .ok (.iconst 0, 1) := by decide +kernel
theorem dL_law_614 : decode cL_law 614 = .ok (.ireturn, 1) := by decide +kernel
theorem dL_law_615 : decode cL_law 615 = .ok (.goto 701, 3) := by decide +kernel
theorem dL_law_618 : decode cL_law 618 = .ok (.aload_n 1, 1) := by decide +kernel
theorem dL_law_619 : decode cL_law 619 = .ok (.invokevirtual 106, 3) := by decide +kernel
theorem dL_law_622 : decode cL_law 622 = .ok (.aload_n 2, 1) := by decide +kernel
theorem dL_law_623 : decode cL_law 623 = .ok (.invokevirtual 109, 3) := by decide +kernel
theorem dL_law_626 : decode cL_law 626 = .ok (.if_icmp .eq 690, 3) := by decide +kernel
theorem dL_law_629 : decode cL_law 629 = .ok (.iconst 0, 1) := by decide +kernel
theorem dL_law_630 : decode cL_law 630 = .ok (.ireturn, 1) := by decide +kernel
theorem dL_law_631 : decode cL_law 631 = .ok (.aload_n 1, 1) := by decide +kernel
theorem dL_law_632 : decode cL_law 632 = .ok (.aload_n 0, 1) := by decide +kernel
theorem dL_law_633 : decode cL_law 633 = .ok (.iload 4, 2) := by decide +kernel
theorem dL_law_635 : decode cL_law 635 = .ok (.iconst 1, 1) := by decide +kernel
theorem dL_law_636 : decode cL_law 636 = .ok (.iadd, 1) := by decide +kernel
theorem dL_law_637 : decode cL_law 637 = .ok (.iaload, 1) := by decide +kernel
theorem dL_law_638 : decode cL_law 638 = .ok (.aload_n 3, 1) := by decide +kernel
theorem dL_law_639 : decode cL_law 639 = .ok (.invokestatic 110, 3) := by decide +kernel
theorem dL_law_642 : decode cL_law 642 = .ok (.istore 5, 2) := by decide +kernel
theorem dL_law_644 : decode cL_law 644 = .ok (.aload_n 2, 1) := by decide +kernel
theorem dL_law_645 : decode cL_law 645 = .ok (.aload_n 0, 1) := by decide +kernel
theorem dL_law_646 : decode cL_law 646 = .ok (.iload 4, 2) := by decide +kernel
theorem dL_law_648 : decode cL_law 648 = .ok (.iconst 1, 1) := by decide +kernel
theorem dL_law_649 : decode cL_law 649 = .ok (.iadd, 1) := by decide +kernel
theorem dL_law_650 : decode cL_law 650 = .ok (.iaload, 1) := by decide +kernel
theorem dL_law_651 : decode cL_law 651 = .ok (.invokevirtual 112, 3) := by decide +kernel
theorem dL_law_654 : decode cL_law 654 = .ok (.istore 6, 2) := by decide +kernel
theorem dL_law_656 : decode cL_law 656 = .ok (.aload_n 2, 1) := by decide +kernel
theorem dL_law_657 : decode cL_law 657 = .ok (.invokevirtual 81, 3) := by decide +kernel
theorem dL_law_660 : decode cL_law 660 = .ok (.iload 5, 2) := by decide +kernel
theorem dL_law_662 : decode cL_law 662 = .ok (.if_icmp .eq 5, 3) := by decide +kernel
theorem dL_law_665 : decode cL_law 665 = .ok (.iconst 0, 1) := by decide +kernel
theorem dL_law_666 : decode cL_law 666 = .ok (.ireturn, 1) := by decide +kernel
theorem dL_law_667 : decode cL_law 667 = .ok (.iload 5, 2) := by decide +kernel
theorem dL_law_669 : decode cL_law 669 = .ok (.ifCond .ne 15, 3) := by decide +kernel
theorem dL_law_672 : decode cL_law 672 = .ok (.aload_n 3, 1) := by decide +kernel
theorem dL_law_673 : decode cL_law 673 = .ok (.iconst 0, 1) := by decide +kernel
theorem dL_law_674 : decode cL_law 674 = .ok (.laload, 1) := by decide +kernel
theorem dL_law_675 : decode cL_law 675 = .ok (.iload 6, 2) := by decide +kernel
theorem dL_law_677 : decode cL_law 677 = .ok (.i2l, 1) := by decide +kernel
theorem dL_law_678 : decode cL_law 678 = .ok (.lcmp, 1) := by decide +kernel
theorem dL_law_679 : decode cL_law 679 = .ok (.ifCond .eq 5, 3) := by decide +kernel
theorem dL_law_682 : decode cL_law 682 = .ok (.iconst 0, 1) := by decide +kernel
theorem dL_law_683 : decode cL_law 683 = .ok (.ireturn, 1) := by decide +kernel
theorem dL_law_684 : decode cL_law 684 = .ok (.goto 632, 3) := by decide +kernel
theorem dL_law_687 : decode cL_law 687 = .ok (.aload_n 1, 1) := by decide +kernel
theorem dL_law_688 : decode cL_law 688 = .ok (.invokevirtual 113, 3) := by decide +kernel
theorem dL_law_691 : decode cL_law 691 = .ok (.aload_n 2, 1) := by decide +kernel
theorem dL_law_692 : decode cL_law 692 = .ok (.invokevirtual 116, 3) := by decide +kernel
theorem dL_law_695 : decode cL_law 695 = .ok (.if_icmp .eq 621, 3) := by decide +kernel
theorem dL_law_698 : decode cL_law 698 = .ok (.iconst 0, 1) := by decide +kernel
theorem dL_law_699 : decode cL_law 699 = .ok (.ireturn, 1) := by decide +kernel
theorem dL_law_700 : decode cL_law 700 = .ok (.aload_n 1, 1) := by decide +kernel
theorem dL_law_701 : decode cL_law 701 = .ok (.aload_n 0, 1) := by decide +kernel
theorem dL_law_702 : decode cL_law 702 = .ok (.iload 4, 2) := by decide +kernel
theorem dL_law_704 : decode cL_law 704 = .ok (.iconst 1, 1) := by decide +kernel
theorem dL_law_705 : decode cL_law 705 = .ok (.iadd, 1) := by decide +kernel
theorem dL_law_706 : decode cL_law 706 = .ok (.iaload, 1) := by decide +kernel
theorem dL_law_707 : decode cL_law 707 = .ok (.aload_n 3, 1) := by decide +kernel
theorem dL_law_708 : decode cL_law 708 = .ok (.invokestatic 117, 3) := by decide +kernel
theorem dL_law_711 : decode cL_law 711 = .ok (.istore 5, 2) := by decide +kernel
theorem dL_law_713 : decode cL_law 713 = .ok (.aload_n 2, 1) := by decide +kernel
theorem dL_law_714 : decode cL_law 714 = .ok (.aload_n 0, 1) := by decide +kernel
theorem dL_law_715 : decode cL_law 715 = .ok (.iload 4, 2) := by decide +kernel
theorem dL_law_717 : decode cL_law 717 = .ok (.iconst 1, 1) := by decide +kernel
theorem dL_law_718 : decode cL_law 718 = .ok (.iadd, 1) := by decide +kernel
theorem dL_law_719 : decode cL_law 719 = .ok (.iaload, 1) := by decide +kernel
theorem dL_law_720 : decode cL_law 720 = .ok (.invokevirtual 119, 3) := by decide +kernel
theorem dL_law_723 : decode cL_law 723 = .ok (.istore 6, 2) := by decide +kernel
theorem dL_law_725 : decode cL_law 725 = .ok (.aload_n 2, 1) := by decide +kernel
theorem dL_law_726 : decode cL_law 726 = .ok (.invokevirtual 81, 3) := by decide +kernel
theorem dL_law_729 : decode cL_law 729 = .ok (.iload 5, 2) := by decide +kernel
theorem dL_law_731 : decode cL_law 731 = .ok (.if_icmp .eq 5, 3) := by decide +kernel
theorem dL_law_734 : decode cL_law 734 = .ok (.iconst 0, 1) := by decide +kernel
theorem dL_law_735 : decode cL_law 735 = .ok (.ireturn, 1) := by decide +kernel
theorem dL_law_736 : decode cL_law 736 = .ok (.iload 5, 2) := by decide +kernel
theorem dL_law_738 : decode cL_law 738 = .ok (.ifCond .ne 15, 3) := by decide +kernel
theorem dL_law_741 : decode cL_law 741 = .ok (.aload_n 3, 1) := by decide +kernel
theorem dL_law_742 : decode cL_law 742 = .ok (.iconst 0, 1) := by decide +kernel
theorem dL_law_743 : decode cL_law 743 = .ok (.laload, 1) := by decide +kernel
theorem dL_law_744 : decode cL_law 744 = .ok (.iload 6, 2) := by decide +kernel
theorem dL_law_746 : decode cL_law 746 = .ok (.i2l, 1) := by decide +kernel
theorem dL_law_747 : decode cL_law 747 = .ok (.lcmp, 1) := by decide +kernel
theorem dL_law_748 : decode cL_law 748 = .ok (.ifCond .eq 5, 3) := by decide +kernel
theorem dL_law_751 : decode cL_law 751 = .ok (.iconst 0, 1) := by decide +kernel
theorem dL_law_752 : decode cL_law 752 = .ok (.ireturn, 1) := by decide +kernel
theorem dL_law_753 : decode cL_law 753 = .ok (.goto 563, 3) := by decide +kernel
theorem dL_law_756 : decode cL_law 756 = .ok (.aload_n 1, 1) := by decide +kernel
theorem dL_law_757 : decode cL_law 757 = .ok (.aload_n 0, 1) := by decide +kernel
theorem dL_law_758 : decode cL_law 758 = .ok (.iload 4, 2) := by decide +kernel
theorem dL_law_760 : decode cL_law 760 = .ok (.iconst 1, 1) := by decide +kernel
theorem dL_law_761 : decode cL_law 761 = .ok (.iadd, 1) := by decide +kernel
theorem dL_law_762 : decode cL_law 762 = .ok (.iaload, 1) := by decide +kernel
theorem dL_law_763 : decode cL_law 763 = .ok (.aload_n 0, 1) := by decide +kernel
theorem dL_law_764 : decode cL_law 764 = .ok (.iload 4, 2) := by decide +kernel
theorem dL_law_766 : decode cL_law 766 = .ok (.iconst 2, 1) := by decide +kernel
theorem dL_law_767 : decode cL_law 767 = .ok (.iadd, 1) := by decide +kernel
theorem dL_law_768 : decode cL_law 768 = .ok (.iaload, 1) := by decide +kernel
theorem dL_law_769 : decode cL_law 769 = .ok (.aload_n 0, 1) := by decide +kernel
theorem dL_law_770 : decode cL_law 770 = .ok (.iload 4, 2) := by decide +kernel
theorem dL_law_772 : decode cL_law 772 = .ok (.iconst 3, 1) := by decide +kernel
theorem dL_law_773 : decode cL_law 773 = .ok (.iadd, 1) := by decide +kernel
theorem dL_law_774 : decode cL_law 774 = .ok (.iaload, 1) := by decide +kernel
theorem dL_law_775 : decode cL_law 775 = .ok (.aload_n 3, 1) := by decide +kernel
theorem dL_law_776 : decode cL_law 776 = .ok (.invokestatic 120, 3) := by decide +kernel
theorem dL_law_779 : decode cL_law 779 = .ok (.istore 5, 2) := by decide +kernel
theorem dL_law_781 : decode cL_law 781 = .ok (.aload_n 2, 1) := by decide +kernel
theorem dL_law_782 : decode cL_law 782 = .ok (.aload_n 0, 1) := by decide +kernel
theorem dL_law_783 : decode cL_law 783 = .ok (.iload 4, 2) := by decide +kernel
theorem dL_law_785 : decode cL_law 785 = .ok (.iconst 1, 1) := by decide +kernel
theorem dL_law_786 : decode cL_law 786 = .ok (.iadd, 1) := by decide +kernel
theorem dL_law_787 : decode cL_law 787 = .ok (.iaload, 1) := by decide +kernel
theorem dL_law_788 : decode cL_law 788 = .ok (.aload_n 0, 1) := by decide +kernel
theorem dL_law_789 : decode cL_law 789 = .ok (.iload 4, 2) := by decide +kernel
theorem dL_law_791 : decode cL_law 791 = .ok (.iconst 2, 1) := by decide +kernel
theorem dL_law_792 : decode cL_law 792 = .ok (.iadd, 1) := by decide +kernel
theorem dL_law_793 : decode cL_law 793 = .ok (.iaload, 1) := by decide +kernel
theorem dL_law_794 : decode cL_law 794 = .ok (.aload_n 0, 1) := by decide +kernel
theorem dL_law_795 : decode cL_law 795 = .ok (.iload 4, 2) := by decide +kernel
theorem dL_law_797 : decode cL_law 797 = .ok (.iconst 3, 1) := by decide +kernel
theorem dL_law_798 : decode cL_law 798 = .ok (.iadd, 1) := by decide +kernel
theorem dL_law_799 : decode cL_law 799 = .ok (.iaload, 1) := by decide +kernel
theorem dL_law_800 : decode cL_law 800 = .ok (.invokevirtual 122, 3) := by decide +kernel
theorem dL_law_803 : decode cL_law 803 = .ok (.istore 6, 2) := by decide +kernel
theorem dL_law_805 : decode cL_law 805 = .ok (.aload_n 2, 1) := by decide +kernel
theorem dL_law_806 : decode cL_law 806 = .ok (.invokevirtual 81, 3) := by decide +kernel
theorem dL_law_809 : decode cL_law 809 = .ok (.iload 5, 2) := by decide +kernel
theorem dL_law_811 : decode cL_law 811 = .ok (.if_icmp .eq 5, 3) := by decide +kernel
theorem dL_law_814 : decode cL_law 814 = .ok (.iconst 0, 1) := by decide +kernel
theorem dL_law_815 : decode cL_law 815 = .ok (.ireturn, 1) := by decide +kernel
theorem dL_law_816 : decode cL_law 816 = .ok (.iload 5, 2) := by decide +kernel
theorem dL_law_818 : decode cL_law 818 = .ok (.ifCond .ne 15, 3) := by decide +kernel
theorem dL_law_821 : decode cL_law 821 = .ok (.aload_n 3, 1) := by decide +kernel
theorem dL_law_822 : decode cL_law 822 = .ok (.iconst 0, 1) := by decide +kernel
theorem dL_law_823 : decode cL_law 823 = .ok (.laload, 1) := by decide +kernel
theorem dL_law_824 : decode cL_law 824 = .ok (.iload 6, 2) := by decide +kernel
theorem dL_law_826 : decode cL_law 826 = .ok (.i2l, 1) := by decide +kernel
theorem dL_law_827 : decode cL_law 827 = .ok (.lcmp, 1) := by decide +kernel
theorem dL_law_828 : decode cL_law 828 = .ok (.ifCond .eq 5, 3) := by decide +kernel
theorem dL_law_831 : decode cL_law 831 = .ok (.iconst 0, 1) := by decide +kernel
theorem dL_law_832 : decode cL_law 832 = .ok (.ireturn, 1) := by decide +kernel
theorem dL_law_833 : decode cL_law 833 = .ok (.goto 483, 3) := by decide +kernel
theorem dL_law_836 : decode cL_law 836 = .ok (.aload_n 1, 1) := by decide +kernel
theorem dL_law_837 : decode cL_law 837 = .ok (.aload_n 0, 1) := by decide +kernel
theorem dL_law_838 : decode cL_law 838 = .ok (.iload 4, 2) := by decide +kernel
theorem dL_law_840 : decode cL_law 840 = .ok (.iconst 1, 1) := by decide +kernel
theorem dL_law_841 : decode cL_law 841 = .ok (.iadd, 1) := by decide +kernel
theorem dL_law_842 : decode cL_law 842 = .ok (.iaload, 1) := by decide +kernel
theorem dL_law_843 : decode cL_law 843 = .ok (.aload_n 0, 1) := by decide +kernel
theorem dL_law_844 : decode cL_law 844 = .ok (.iload 4, 2) := by decide +kernel
theorem dL_law_846 : decode cL_law 846 = .ok (.iconst 2, 1) := by decide +kernel
theorem dL_law_847 : decode cL_law 847 = .ok (.iadd, 1) := by decide +kernel
theorem dL_law_848 : decode cL_law 848 = .ok (.iaload, 1) := by decide +kernel
theorem dL_law_849 : decode cL_law 849 = .ok (.aload_n 3, 1) := by decide +kernel
theorem dL_law_850 : decode cL_law 850 = .ok (.invokestatic 123, 3) := by decide +kernel
theorem dL_law_853 : decode cL_law 853 = .ok (.istore 5, 2) := by decide +kernel
theorem dL_law_855 : decode cL_law 855 = .ok (.aload_n 2, 1) := by decide +kernel
theorem dL_law_856 : decode cL_law 856 = .ok (.aload_n 0, 1) := by decide +kernel
theorem dL_law_857 : decode cL_law 857 = .ok (.iload 4, 2) := by decide +kernel
theorem dL_law_859 : decode cL_law 859 = .ok (.iconst 1, 1) := by decide +kernel
theorem dL_law_860 : decode cL_law 860 = .ok (.iadd, 1) := by decide +kernel
theorem dL_law_861 : decode cL_law 861 = .ok (.iaload, 1) := by decide +kernel
theorem dL_law_862 : decode cL_law 862 = .ok (.aload_n 0, 1) := by decide +kernel
theorem dL_law_863 : decode cL_law 863 = .ok (.iload 4, 2) := by decide +kernel
theorem dL_law_865 : decode cL_law 865 = .ok (.iconst 2, 1) := by decide +kernel
theorem dL_law_866 : decode cL_law 866 = .ok (.iadd, 1) := by decide +kernel
theorem dL_law_867 : decode cL_law 867 = .ok (.iaload, 1) := by decide +kernel
theorem dL_law_868 : decode cL_law 868 = .ok (.invokevirtual 125, 3) := by decide +kernel
theorem dL_law_871 : decode cL_law 871 = .ok (.istore 6, 2) := by decide +kernel
theorem dL_law_873 : decode cL_law 873 = .ok (.aload_n 2, 1) := by decide +kernel
theorem dL_law_874 : decode cL_law 874 = .ok (.invokevirtual 81, 3) := by decide +kernel
theorem dL_law_877 : decode cL_law 877 = .ok (.iload 5, 2) := by decide +kernel
theorem dL_law_879 : decode cL_law 879 = .ok (.if_icmp .eq 5, 3) := by decide +kernel
theorem dL_law_882 : decode cL_law 882 = .ok (.iconst 0, 1) := by decide +kernel
theorem dL_law_883 : decode cL_law 883 = .ok (.ireturn, 1) := by decide +kernel
theorem dL_law_884 : decode cL_law 884 = .ok (.iload 5, 2) := by decide +kernel
theorem dL_law_886 : decode cL_law 886 = .ok (.ifCond .ne 15, 3) := by decide +kernel
theorem dL_law_889 : decode cL_law 889 = .ok (.aload_n 3, 1) := by decide +kernel
theorem dL_law_890 : decode cL_law 890 = .ok (.iconst 0, 1) := by decide +kernel
theorem dL_law_891 : decode cL_law 891 = .ok (.laload, 1) := by decide +kernel
theorem dL_law_892 : decode cL_law 892 = .ok (.iload 6, 2) := by decide +kernel
theorem dL_law_894 : decode cL_law 894 = .ok (.i2l, 1) := by decide +kernel
theorem dL_law_895 : decode cL_law 895 = .ok (.lcmp, 1) := by decide +kernel
theorem dL_law_896 : decode cL_law 896 = .ok (.ifCond .eq 5, 3) := by decide +kernel
theorem dL_law_899 : decode cL_law 899 = .ok (.iconst 0, 1) := by decide +kernel
theorem dL_law_900 : decode cL_law 900 = .ok (.ireturn, 1) := by decide +kernel
theorem dL_law_901 : decode cL_law 901 = .ok (.goto 415, 3) := by decide +kernel
theorem dL_law_904 : decode cL_law 904 = .ok (.aload_n 1, 1) := by decide +kernel
theorem dL_law_905 : decode cL_law 905 = .ok (.aload_n 0, 1) := by decide +kernel
theorem dL_law_906 : decode cL_law 906 = .ok (.iload 4, 2) := by decide +kernel
theorem dL_law_908 : decode cL_law 908 = .ok (.iconst 1, 1) := by decide +kernel
theorem dL_law_909 : decode cL_law 909 = .ok (.iadd, 1) := by decide +kernel
theorem dL_law_910 : decode cL_law 910 = .ok (.iaload, 1) := by decide +kernel
theorem dL_law_911 : decode cL_law 911 = .ok (.aload_n 3, 1) := by decide +kernel
theorem dL_law_912 : decode cL_law 912 = .ok (.invokestatic 126, 3) := by decide +kernel
theorem dL_law_915 : decode cL_law 915 = .ok (.istore 5, 2) := by decide +kernel
theorem dL_law_917 : decode cL_law 917 = .ok (.aload_n 2, 1) := by decide +kernel
theorem dL_law_918 : decode cL_law 918 = .ok (.aload_n 0, 1) := by decide +kernel
theorem dL_law_919 : decode cL_law 919 = .ok (.iload 4, 2) := by decide +kernel
theorem dL_law_921 : decode cL_law 921 = .ok (.iconst 1, 1) := by decide +kernel
theorem dL_law_922 : decode cL_law 922 = .ok (.iadd, 1) := by decide +kernel
theorem dL_law_923 : decode cL_law 923 = .ok (.iaload, 1) := by decide +kernel
theorem dL_law_924 : decode cL_law 924 = .ok (.invokevirtual 128, 3) := by decide +kernel
theorem dL_law_927 : decode cL_law 927 = .ok (.istore 6, 2) := by decide +kernel
theorem dL_law_929 : decode cL_law 929 = .ok (.aload_n 2, 1) := by decide +kernel
theorem dL_law_930 : decode cL_law 930 = .ok (.invokevirtual 81, 3) := by decide +kernel
theorem dL_law_933 : decode cL_law 933 = .ok (.iload 5, 2) := by decide +kernel
theorem dL_law_935 : decode cL_law 935 = .ok (.if_icmp .eq 5, 3) := by decide +kernel
theorem dL_law_938 : decode cL_law 938 = .ok (.iconst 0, 1) := by decide +kernel
theorem dL_law_939 : decode cL_law 939 = .ok (.ireturn, 1) := by decide +kernel
theorem dL_law_940 : decode cL_law 940 = .ok (.iload 5, 2) := by decide +kernel
theorem dL_law_942 : decode cL_law 942 = .ok (.ifCond .ne 15, 3) := by decide +kernel
theorem dL_law_945 : decode cL_law 945 = .ok (.aload_n 3, 1) := by decide +kernel
theorem dL_law_946 : decode cL_law 946 = .ok (.iconst 0, 1) := by decide +kernel
theorem dL_law_947 : decode cL_law 947 = .ok (.laload, 1) := by decide +kernel
theorem dL_law_948 : decode cL_law 948 = .ok (.iload 6, 2) := by decide +kernel
theorem dL_law_950 : decode cL_law 950 = .ok (.i2l, 1) := by decide +kernel
theorem dL_law_951 : decode cL_law 951 = .ok (.lcmp, 1) := by decide +kernel
theorem dL_law_952 : decode cL_law 952 = .ok (.ifCond .eq 5, 3) := by decide +kernel
theorem dL_law_955 : decode cL_law 955 = .ok (.iconst 0, 1) := by decide +kernel
theorem dL_law_956 : decode cL_law 956 = .ok (.ireturn, 1) := by decide +kernel
theorem dL_law_957 : decode cL_law 957 = .ok (.goto 359, 3) := by decide +kernel
theorem dL_law_960 : decode cL_law 960 = .ok (.aload_n 1, 1) := by decide +kernel
theorem dL_law_961 : decode cL_law 961 = .ok (.aload_n 0, 1) := by decide +kernel
theorem dL_law_962 : decode cL_law 962 = .ok (.iload 4, 2) := by decide +kernel
theorem dL_law_964 : decode cL_law 964 = .ok (.iconst 1, 1) := by decide +kernel
theorem dL_law_965 : decode cL_law 965 = .ok (.iadd, 1) := by decide +kernel
theorem dL_law_966 : decode cL_law 966 = .ok (.iaload, 1) := by decide +kernel
theorem dL_law_967 : decode cL_law 967 = .ok (.aload_n 3, 1) := by decide +kernel
theorem dL_law_968 : decode cL_law 968 = .ok (.invokestatic 129, 3) := by decide +kernel
theorem dL_law_971 : decode cL_law 971 = .ok (.istore 5, 2) := by decide +kernel
theorem dL_law_973 : decode cL_law 973 = .ok (.aload_n 2, 1) := by decide +kernel
theorem dL_law_974 : decode cL_law 974 = .ok (.aload_n 0, 1) := by decide +kernel
theorem dL_law_975 : decode cL_law 975 = .ok (.iload 4, 2) := by decide +kernel
theorem dL_law_977 : decode cL_law 977 = .ok (.iconst 1, 1) := by decide +kernel
theorem dL_law_978 : decode cL_law 978 = .ok (.iadd, 1) := by decide +kernel
theorem dL_law_979 : decode cL_law 979 = .ok (.iaload, 1) := by decide +kernel
theorem dL_law_980 : decode cL_law 980 = .ok (.invokevirtual 131, 3) := by decide +kernel
theorem dL_law_983 : decode cL_law 983 = .ok (.istore 6, 2) := by decide +kernel
theorem dL_law_985 : decode cL_law 985 = .ok (.aload_n 2, 1) := by decide +kernel
theorem dL_law_986 : decode cL_law 986 = .ok (.invokevirtual 81, 3) := by decide +kernel
theorem dL_law_989 : decode cL_law 989 = .ok (.iload 5, 2) := by decide +kernel
theorem dL_law_991 : decode cL_law 991 = .ok (.if_icmp .eq 5, 3) := by decide +kernel
theorem dL_law_994 : decode cL_law 994 = .ok (.iconst 0, 1) := by decide +kernel
theorem dL_law_995 : decode cL_law 995 = .ok (.ireturn, 1) := by decide +kernel
theorem dL_law_996 : decode cL_law 996 = .ok (.iload 5, 2) := by decide +kernel
theorem dL_law_998 : decode cL_law 998 = .ok (.ifCond .ne 15, 3) := by decide +kernel
theorem dL_law_1001 : decode cL_law 1001 = .ok (.aload_n 3, 1) := by decide +kernel
theorem dL_law_1002 : decode cL_law 1002 = .ok (.iconst 0, 1) := by decide +kernel
theorem dL_law_1003 : decode cL_law 1003 = .ok (.laload, 1) := by decide +kernel
theorem dL_law_1004 : decode cL_law 1004 = .ok (.iload 6, 2) := by decide +kernel
theorem dL_law_1006 : decode cL_law 1006 = .ok (.i2l, 1) := by decide +kernel
theorem dL_law_1007 : decode cL_law 1007 = .ok (.lcmp, 1) := by decide +kernel
theorem dL_law_1008 : decode cL_law 1008 = .ok (.ifCond .eq 5, 3) := by decide +kernel
theorem dL_law_1011 : decode cL_law 1011 = .ok (.iconst 0, 1) := by decide +kernel
theorem dL_law_1012 : decode cL_law 1012 = .ok (.ireturn, 1) := by decide +kernel
theorem dL_law_1013 : decode cL_law 1013 = .ok (.goto 303, 3) := by decide +kernel
theorem dL_law_1016 : decode cL_law 1016 = .ok (.aload_n 1, 1) := by decide +kernel
theorem dL_law_1017 : decode cL_law 1017 = .ok (.aload_n 0, 1) := by decide +kernel
theorem dL_law_1018 : decode cL_law 1018 = .ok (.iload 4, 2) := by decide +kernel
theorem dL_law_1020 : decode cL_law 1020 = .ok (.iconst 1, 1) := by decide +kernel
theorem dL_law_1021 : decode cL_law 1021 = .ok (.iadd, 1) := by decide +kernel
theorem dL_law_1022 : decode cL_law 1022 = .ok (.iaload, 1) := by decide +kernel
theorem dL_law_1023 : decode cL_law 1023 = .ok (.aload_n 3, 1) := by decide +kernel
theorem dL_law_1024 : decode cL_law 1024 = .ok (.invokestatic 132, 3) := by decide +kernel
theorem dL_law_1027 : decode cL_law 1027 = .ok (.istore 5, 2) := by decide +kernel
theorem dL_law_1029 : decode cL_law 1029 = .ok (.aload_n 2, 1) := by decide +kernel
theorem dL_law_1030 : decode cL_law 1030 = .ok (.aload_n 0, 1) := by decide +kernel
theorem dL_law_1031 : decode cL_law 1031 = .ok (.iload 4, 2) := by decide +kernel
theorem dL_law_1033 : decode cL_law 1033 = .ok (.iconst 1, 1) := by decide +kernel
theorem dL_law_1034 : decode cL_law 1034 = .ok (.iadd, 1) := by decide +kernel
theorem dL_law_1035 : decode cL_law 1035 = .ok (.iaload, 1) := by decide +kernel
theorem dL_law_1036 : decode cL_law 1036 = .ok (.invokevirtual 134, 3) := by decide +kernel
theorem dL_law_1039 : decode cL_law 1039 = .ok (.istore 6, 2) := by decide +kernel
theorem dL_law_1041 : decode cL_law 1041 = .ok (.aload_n 2, 1) := by decide +kernel
theorem dL_law_1042 : decode cL_law 1042 = .ok (.invokevirtual 81, 3) := by decide +kernel
theorem dL_law_1045 : decode cL_law 1045 = .ok (.iload 5, 2) := by decide +kernel
theorem dL_law_1047 : decode cL_law 1047 = .ok (.if_icmp .eq 5, 3) := by decide +kernel
theorem dL_law_1050 : decode cL_law 1050 = .ok (.iconst 0, 1) := by decide +kernel
theorem dL_law_1051 : decode cL_law 1051 = .ok (.ireturn, 1) := by decide +kernel
theorem dL_law_1052 : decode cL_law 1052 = .ok (.iload 5, 2) := by decide +kernel
theorem dL_law_1054 : decode cL_law 1054 = .ok (.ifCond .ne 15, 3) := by decide +kernel
theorem dL_law_1057 : decode cL_law 1057 = .ok (.aload_n 3, 1) := by decide +kernel
theorem dL_law_1058 : decode cL_law 1058 = .ok (.iconst 0, 1) := by decide +kernel
theorem dL_law_1059 : decode cL_law 1059 = .ok (.laload, 1) := by decide +kernel
theorem dL_law_1060 : decode cL_law 1060 = .ok (.iload 6, 2) := by decide +kernel
theorem dL_law_1062 : decode cL_law 1062 = .ok (.i2l, 1) := by decide +kernel
theorem dL_law_1063 : decode cL_law 1063 = .ok (.lcmp, 1) := by decide +kernel
theorem dL_law_1064 : decode cL_law 1064 = .ok (.ifCond .eq 5, 3) := by decide +kernel
theorem dL_law_1067 : decode cL_law 1067 = .ok (.iconst 0, 1) := by decide +kernel
theorem dL_law_1068 : decode cL_law 1068 = .ok (.ireturn, 1) := by decide +kernel
theorem dL_law_1069 : decode cL_law 1069 = .ok (.goto 247, 3) := by decide +kernel
theorem dL_law_1072 : decode cL_law 1072 = .ok (.aload_n 1, 1) := by decide +kernel
theorem dL_law_1073 : decode cL_law 1073 = .ok (.invokevirtual 135, 3) := by decide +kernel
theorem dL_law_1076 : decode cL_law 1076 = .ok (.aload_n 2, 1) := by decide +kernel
theorem dL_law_1077 : decode cL_law 1077 = .ok (.invokevirtual 138, 3) := by decide +kernel
theorem dL_law_1080 : decode cL_law 1080 = .ok (.if_icmp .eq 236, 3) := by decide +kernel
theorem dL_law_1083 : decode cL_law 1083 = .ok (.iconst 0, 1) := by decide +kernel
theorem dL_law_1084 : decode cL_law 1084 = .ok (.ireturn, 1) := by decide +kernel
theorem dL_law_1085 : decode cL_law 1085 = .ok (.aload_n 1, 1) := by decide +kernel
theorem dL_law_1086 : decode cL_law 1086 = .ok (.aload_n 0, 1) := by decide +kernel
theorem dL_law_1087 : decode cL_law 1087 = .ok (.iload 4, 2) := by decide +kernel
theorem dL_law_1089 : decode cL_law 1089 = .ok (.iconst 1, 1) := by decide +kernel
theorem dL_law_1090 : decode cL_law 1090 = .ok (.iadd, 1) := by decide +kernel
theorem dL_law_1091 : decode cL_law 1091 = .ok (.iaload, 1) := by decide +kernel
theorem dL_law_1092 : decode cL_law 1092 = .ok (.aload_n 3, 1) := by decide +kernel
theorem dL_law_1093 : decode cL_law 1093 = .ok (.invokestatic 139, 3) := by decide +kernel
theorem dL_law_1096 : decode cL_law 1096 = .ok (.istore 5, 2) := by decide +kernel
theorem dL_law_1098 : decode cL_law 1098 = .ok (.aload_n 2, 1) := by decide +kernel
theorem dL_law_1099 : decode cL_law 1099 = .ok (.aload_n 0, 1) := by decide +kernel
theorem dL_law_1100 : decode cL_law 1100 = .ok (.iload 4, 2) := by decide +kernel
theorem dL_law_1102 : decode cL_law 1102 = .ok (.iconst 1, 1) := by decide +kernel
theorem dL_law_1103 : decode cL_law 1103 = .ok (.iadd, 1) := by decide +kernel
theorem dL_law_1104 : decode cL_law 1104 = .ok (.iaload, 1) := by decide +kernel
theorem dL_law_1105 : decode cL_law 1105 = .ok (.invokevirtual 141, 3) := by decide +kernel
theorem dL_law_1108 : decode cL_law 1108 = .ok (.istore 6, 2) := by decide +kernel
theorem dL_law_1110 : decode cL_law 1110 = .ok (.aload_n 2, 1) := by decide +kernel
theorem dL_law_1111 : decode cL_law 1111 = .ok (.invokevirtual 81, 3) := by decide +kernel
theorem dL_law_1114 : decode cL_law 1114 = .ok (.iload 5, 2) := by decide +kernel
theorem dL_law_1116 : decode cL_law 1116 = .ok (.if_icmp .eq 5, 3) := by decide +kernel
theorem dL_law_1119 : decode cL_law 1119 = .ok (.iconst 0, 1) := by decide +kernel
theorem dL_law_1120 : decode cL_law 1120 = .ok (.ireturn, 1) := by decide +kernel
theorem dL_law_1121 : decode cL_law 1121 = .ok (.iload 5, 2) := by decide +kernel
theorem dL_law_1123 : decode cL_law 1123 = .ok (.ifCond .ne 15, 3) := by decide +kernel
theorem dL_law_1126 : decode cL_law 1126 = .ok (.aload_n 3, 1) := by decide +kernel
theorem dL_law_1127 : decode cL_law 1127 = .ok (.iconst 0, 1) := by decide +kernel
theorem dL_law_1128 : decode cL_law 1128 = .ok (.laload, 1) := by decide +kernel
theorem dL_law_1129 : decode cL_law 1129 = .ok (.iload 6, 2) := by decide +kernel
theorem dL_law_1131 : decode cL_law 1131 = .ok (.i2l, 1) := by decide +kernel
theorem dL_law_1132 : decode cL_law 1132 = .ok (.lcmp, 1) := by decide +kernel
theorem dL_law_1133 : decode cL_law 1133 = .ok (.ifCond .eq 5, 3) := by decide +kernel
theorem dL_law_1136 : decode cL_law 1136 = .ok (.iconst 0, 1) := by decide +kernel
theorem dL_law_1137 : decode cL_law 1137 = .ok (.ireturn, 1) := by decide +kernel
theorem dL_law_1138 : decode cL_law 1138 = .ok (.goto 178, 3) := by decide +kernel
theorem dL_law_1141 : decode cL_law 1141 = .ok (.aload_n 1, 1) := by decide +kernel
theorem dL_law_1142 : decode cL_law 1142 = .ok (.aload_n 0, 1) := by decide +kernel
theorem dL_law_1143 : decode cL_law 1143 = .ok (.iload 4, 2) := by decide +kernel
theorem dL_law_1145 : decode cL_law 1145 = .ok (.iconst 1, 1) := by decide +kernel
theorem dL_law_1146 : decode cL_law 1146 = .ok (.iadd, 1) := by decide +kernel
theorem dL_law_1147 : decode cL_law 1147 = .ok (.iaload, 1) := by decide +kernel
theorem dL_law_1148 : decode cL_law 1148 = .ok (.aload_n 0, 1) := by decide +kernel
theorem dL_law_1149 : decode cL_law 1149 = .ok (.iload 4, 2) := by decide +kernel
theorem dL_law_1151 : decode cL_law 1151 = .ok (.iconst 2, 1) := by decide +kernel
theorem dL_law_1152 : decode cL_law 1152 = .ok (.iadd, 1) := by decide +kernel
theorem dL_law_1153 : decode cL_law 1153 = .ok (.iaload, 1) := by decide +kernel
theorem dL_law_1154 : decode cL_law 1154 = .ok (.aload_n 3, 1) := by decide +kernel
theorem dL_law_1155 : decode cL_law 1155 = .ok (.invokestatic 142, 3) := by decide +kernel
theorem dL_law_1158 : decode cL_law 1158 = .ok (.istore 5, 2) := by decide +kernel
theorem dL_law_1160 : decode cL_law 1160 = .ok (.aload_n 2, 1) := by decide +kernel
theorem dL_law_1161 : decode cL_law 1161 = .ok (.aload_n 0, 1) := by decide +kernel
theorem dL_law_1162 : decode cL_law 1162 = .ok (.iload 4, 2) := by decide +kernel
theorem dL_law_1164 : decode cL_law 1164 = .ok (.iconst 1, 1) := by decide +kernel
theorem dL_law_1165 : decode cL_law 1165 = .ok (.iadd, 1) := by decide +kernel
theorem dL_law_1166 : decode cL_law 1166 = .ok (.iaload, 1) := by decide +kernel
theorem dL_law_1167 : decode cL_law 1167 = .ok (.aload_n 0, 1) := by decide +kernel
theorem dL_law_1168 : decode cL_law 1168 = .ok (.iload 4, 2) := by decide +kernel
theorem dL_law_1170 : decode cL_law 1170 = .ok (.iconst 2, 1) := by decide +kernel
theorem dL_law_1171 : decode cL_law 1171 = .ok (.iadd, 1) := by decide +kernel
theorem dL_law_1172 : decode cL_law 1172 = .ok (.iaload, 1) := by decide +kernel
theorem dL_law_1173 : decode cL_law 1173 = .ok (.invokevirtual 144, 3) := by decide +kernel
theorem dL_law_1176 : decode cL_law 1176 = .ok (.istore 6, 2) := by decide +kernel
theorem dL_law_1178 : decode cL_law 1178 = .ok (.aload_n 2, 1) := by decide +kernel
theorem dL_law_1179 : decode cL_law 1179 = .ok (.invokevirtual 81, 3) := by decide +kernel
theorem dL_law_1182 : decode cL_law 1182 = .ok (.iload 5, 2) := by decide +kernel
theorem dL_law_1184 : decode cL_law 1184 = .ok (.if_icmp .eq 5, 3) := by decide +kernel
theorem dL_law_1187 : decode cL_law 1187 = .ok (.iconst 0, 1) := by decide +kernel
theorem dL_law_1188 : decode cL_law 1188 = .ok (.ireturn, 1) := by decide +kernel
theorem dL_law_1189 : decode cL_law 1189 = .ok (.iload 5, 2) := by decide +kernel
theorem dL_law_1191 : decode cL_law 1191 = .ok (.ifCond .ne 15, 3) := by decide +kernel
theorem dL_law_1194 : decode cL_law 1194 = .ok (.aload_n 3, 1) := by decide +kernel
theorem dL_law_1195 : decode cL_law 1195 = .ok (.iconst 0, 1) := by decide +kernel
theorem dL_law_1196 : decode cL_law 1196 = .ok (.laload, 1) := by decide +kernel
theorem dL_law_1197 : decode cL_law 1197 = .ok (.iload 6, 2) := by decide +kernel
theorem dL_law_1199 : decode cL_law 1199 = .ok (.i2l, 1) := by decide +kernel
theorem dL_law_1200 : decode cL_law 1200 = .ok (.lcmp, 1) := by decide +kernel
theorem dL_law_1201 : decode cL_law 1201 = .ok (.ifCond .eq 5, 3) := by decide +kernel
theorem dL_law_1204 : decode cL_law 1204 = .ok (.iconst 0, 1) := by decide +kernel
theorem dL_law_1205 : decode cL_law 1205 = .ok (.ireturn, 1) := by decide +kernel
theorem dL_law_1206 : decode cL_law 1206 = .ok (.goto 110, 3) := by decide +kernel
theorem dL_law_1209 : decode cL_law 1209 = .ok (.aload_n 1, 1) := by decide +kernel
theorem dL_law_1210 : decode cL_law 1210 = .ok (.aload_n 0, 1) := by decide +kernel
theorem dL_law_1211 : decode cL_law 1211 = .ok (.iload 4, 2) := by decide +kernel
theorem dL_law_1213 : decode cL_law 1213 = .ok (.iconst 1, 1) := by decide +kernel
theorem dL_law_1214 : decode cL_law 1214 = .ok (.iadd, 1) := by decide +kernel
theorem dL_law_1215 : decode cL_law 1215 = .ok (.iaload, 1) := by decide +kernel
theorem dL_law_1216 : decode cL_law 1216 = .ok (.aload_n 0, 1) := by decide +kernel
theorem dL_law_1217 : decode cL_law 1217 = .ok (.iload 4, 2) := by decide +kernel
theorem dL_law_1219 : decode cL_law 1219 = .ok (.iconst 2, 1) := by decide +kernel
theorem dL_law_1220 : decode cL_law 1220 = .ok (.iadd, 1) := by decide +kernel
theorem dL_law_1221 : decode cL_law 1221 = .ok (.iaload, 1) := by decide +kernel
theorem dL_law_1222 : decode cL_law 1222 = .ok (.aload_n 3, 1) := by decide +kernel
theorem dL_law_1223 : decode cL_law 1223 = .ok (.invokestatic 145, 3) := by decide +kernel
theorem dL_law_1226 : decode cL_law 1226 = .ok (.istore 5, 2) := by decide +kernel
theorem dL_law_1228 : decode cL_law 1228 = .ok (.aload_n 2, 1) := by decide +kernel
theorem dL_law_1229 : decode cL_law 1229 = .ok (.aload_n 0, 1) := by decide +kernel
theorem dL_law_1230 : decode cL_law 1230 = .ok (.iload 4, 2) := by decide +kernel
theorem dL_law_1232 : decode cL_law 1232 = .ok (.iconst 1, 1) := by decide +kernel
theorem dL_law_1233 : decode cL_law 1233 = .ok (.iadd, 1) := by decide +kernel
theorem dL_law_1234 : decode cL_law 1234 = .ok (.iaload, 1) := by decide +kernel
theorem dL_law_1235 : decode cL_law 1235 = .ok (.aload_n 0, 1) := by decide +kernel
theorem dL_law_1236 : decode cL_law 1236 = .ok (.iload 4, 2) := by decide +kernel
theorem dL_law_1238 : decode cL_law 1238 = .ok (.iconst 2, 1) := by decide +kernel
theorem dL_law_1239 : decode cL_law 1239 = .ok (.iadd, 1) := by decide +kernel
theorem dL_law_1240 : decode cL_law 1240 = .ok (.iaload, 1) := by decide +kernel
theorem dL_law_1241 : decode cL_law 1241 = .ok (.invokevirtual 147, 3) := by decide +kernel
theorem dL_law_1244 : decode cL_law 1244 = .ok (.istore 6, 2) := by decide +kernel
theorem dL_law_1246 : decode cL_law 1246 = .ok (.aload_n 2, 1) := by decide +kernel
theorem dL_law_1247 : decode cL_law 1247 = .ok (.invokevirtual 81, 3) := by decide +kernel
theorem dL_law_1250 : decode cL_law 1250 = .ok (.iload 5, 2) := by decide +kernel
theorem dL_law_1252 : decode cL_law 1252 = .ok (.if_icmp .eq 5, 3) := by decide +kernel
theorem dL_law_1255 : decode cL_law 1255 = .ok (.iconst 0, 1) := by decide +kernel
theorem dL_law_1256 : decode cL_law 1256 = .ok (.ireturn, 1) := by decide +kernel
theorem dL_law_1257 : decode cL_law 1257 = .ok (.iload 5, 2) := by decide +kernel
theorem dL_law_1259 : decode cL_law 1259 = .ok (.ifCond .ne 15, 3) := by decide +kernel
theorem dL_law_1262 : decode cL_law 1262 = .ok (.aload_n 3, 1) := by decide +kernel
theorem dL_law_1263 : decode cL_law 1263 = .ok (.iconst 0, 1) := by decide +kernel
theorem dL_law_1264 : decode cL_law 1264 = .ok (.laload, 1) := by decide +kernel
theorem dL_law_1265 : decode cL_law 1265 = .ok (.iload 6, 2) := by decide +kernel
theorem dL_law_1267 : decode cL_law 1267 = .ok (.i2l, 1) := by decide +kernel
theorem dL_law_1268 : decode cL_law 1268 = .ok (.lcmp, 1) := by decide +kernel
theorem dL_law_1269 : decode cL_law 1269 = .ok (.ifCond .eq 5, 3) := by decide +kernel
theorem dL_law_1272 : decode cL_law 1272 = .ok (.iconst 0, 1) := by decide +kernel
theorem dL_law_1273 : decode cL_law 1273 = .ok (.ireturn, 1) := by decide +kernel
theorem dL_law_1274 : decode cL_law 1274 = .ok (.goto 42, 3) := by decide +kernel
theorem dL_law_1277 : decode cL_law 1277 = .ok (.aload_n 1, 1) := by decide +kernel
theorem dL_law_1278 : decode cL_law 1278 = .ok (.invokevirtual 148, 3) := by decide +kernel
theorem dL_law_1281 : decode cL_law 1281 = .ok (.aload_n 2, 1) := by decide +kernel
theorem dL_law_1282 : decode cL_law 1282 = .ok (.invokevirtual 152, 3) := by decide +kernel
theorem dL_law_1285 : decode cL_law 1285 = .ok (.lcmp, 1) := by decide +kernel
theorem dL_law_1286 : decode cL_law 1286 = .ok (.ifCond .eq 30, 3) := by decide +kernel
theorem dL_law_1289 : decode cL_law 1289 = .ok (.iconst 0, 1) := by decide +kernel
theorem dL_law_1290 : decode cL_law 1290 = .ok (.ireturn, 1) := by decide +kernel
theorem dL_law_1291 : decode cL_law 1291 = .ok (.aload_n 1, 1) := by decide +kernel
theorem dL_law_1292 : decode cL_law 1292 = .ok (.aload_n 0, 1) := by decide +kernel
theorem dL_law_1293 : decode cL_law 1293 = .ok (.iload 4, 2) := by decide +kernel
theorem dL_law_1295 : decode cL_law 1295 = .ok (.iconst 1, 1) := by decide +kernel
theorem dL_law_1296 : decode cL_law 1296 = .ok (.iadd, 1) := by decide +kernel
theorem dL_law_1297 : decode cL_law 1297 = .ok (.iaload, 1) := by decide +kernel
theorem dL_law_1298 : decode cL_law 1298 = .ok (.invokevirtual 153, 3) := by decide +kernel
theorem dL_law_1301 : decode cL_law 1301 = .ok (.aload_n 2, 1) := by decide +kernel
theorem dL_law_1302 : decode cL_law 1302 = .ok (.aload_n 0, 1) := by decide +kernel
theorem dL_law_1303 : decode cL_law 1303 = .ok (.iload 4, 2) := by decide +kernel
theorem dL_law_1305 : decode cL_law 1305 = .ok (.iconst 1, 1) := by decide +kernel
theorem dL_law_1306 : decode cL_law 1306 = .ok (.iadd, 1) := by decide +kernel
theorem dL_law_1307 : decode cL_law 1307 = .ok (.iaload, 1) := by decide +kernel
theorem dL_law_1308 : decode cL_law 1308 = .ok (.invokevirtual 156, 3) := by decide +kernel
theorem dL_law_1311 : decode cL_law 1311 = .ok (.if_icmp .eq 5, 3) := by decide +kernel
theorem dL_law_1314 : decode cL_law 1314 = .ok (.iconst 0, 1) := by decide +kernel
theorem dL_law_1315 : decode cL_law 1315 = .ok (.ireturn, 1) := by decide +kernel
theorem dL_law_1316 : decode cL_law 1316 = .ok (.iinc 4 6, 3) := by decide +kernel
theorem dL_law_1319 : decode cL_law 1319 = .ok (.goto (-1296), 3) := by decide +kernel
theorem dL_law_1322 : decode cL_law 1322 = .ok (.iconst 1, 1) := by decide +kernel
theorem dL_law_1323 : decode cL_law 1323 = .ok (.ireturn, 1) := by decide +kernel
end
section
/-! ===== BEGIN a constructor that throws (launches without stack traces) ===== -/
section VXIA
variable {p : Program} {l : Launch} {e : Env} {R : Room} {s : State} {m : MethodId} {args : Array Value} {below : List Frame} {meth : Method} {c : Code} {T : State} {locs : List Loc} {cells slots : Nat}
theorem vx_callI (X : Stand p l e R s m args below meth c T locs cells slots) (hexec : p.tables.exec = Jvm.exec) {own : String} {index : Nat} {y : MethodName} {bytes : ByteArray} {maxL : Nat}
    (hown : s.vm.findClass own = some m.cls) (hy1 : y.name = "<init>") (hlink : (Cond.methodLink own index y).before args s = true) (hinst : (Cond.instanceMethod y).before args s = true)
    (hcode : (Cond.code y bytes maxL none).before args s = true) (hy : y.cls ≠ "java/lang/invoke/MethodHandle" ∧ y.cls ≠ "java/lang/invoke/VarHandle")
    {W9 : Nat} {Pre : Pt → Array Value → Prop} {Post : Pt → Array Value → Option Value → Pt → Prop} {PostX : Pt → Array Value → Addr → Pt → Prop} (hK : vx_Back l R p e below s args y 3 W9 Pre Post PostX)
    {g : JFrame} (hg : g.method = m) (hsize : g.locals.size = c.maxLocals) {a : Addr} {argsL rest : List Value} (hlen : ∀ sig, parseMethodDescriptor y.desc = some sig → argsL.length = sig.parameters.length)
    (hstack : g.stack = argsL.reverse ++ .ref a :: rest) (hW : 2 * g.monitorRoom + (rest.map fun v => v.category).sum ≤ W9) (hdg : decode c.code g.pc = .ok (.invokespecial index, 3))
    (hpre : ∀ vm₁, s.WarmedH vm₁ → Pre ⟨T.setVm vm₁, locs, cells, slots⟩ (Value.ref a :: argsL).toArray) :
    (∃ (v : Option Value) (vm₁ : Vm) (B : Pt), s.WarmedH vm₁ ∧ Stand p l e R s m args below meth c B.U B.locs B.cells B.slots ∧ Post ⟨T.setVm vm₁, locs, cells, slots⟩ (Value.ref a :: argsL).toArray v B ∧
      ∀ target, Steps p.tables e below (B.U.setTop { g with pc := g.pc + 3, stack := v.toList ++ rest }) target → Steps p.tables e below (T.setTop g) target) ∨
    (∃ (q : Addr) (vm₁ : Vm) (B : Pt), s.WarmedH vm₁ ∧ Stand p l e R s m args below meth c B.U B.locs B.cells B.slots ∧ PostX ⟨T.setVm vm₁, locs, cells, slots⟩ (Value.ref a :: argsL).toArray q B ∧
      Steps p.tables e below (T.setTop g) ((B.U.setTop { g with stack := rest }).pushFrame (.throwing q))) := by
  subst hg
  have hpl : e.platform.magicAccessors = ({} : Platform).magicAccessors := by rw [X.admits.platform]
  obtain ⟨mk, methM, cM, kP, vm₁, hnamed, hmethM, hcodeM, -, hlocalsM, -, hkP, -, hW₁, hstep₁⟩ := Steps.initColdArgs (e := e) X.here hexec X.warmed hpl hown hy1 hy hlink hinst hcode (f := g) rfl hlen hstack hdg
  have X₁ := X.noted hW₁
  rcases hK g.method meth c ⟨T.setVm vm₁, locs, cells, slots⟩ { g with stack := rest } (.invokespecial index) mk (Value.ref a :: argsL).toArray X₁ rfl hsize hdg hW (X₁.named hnamed) (hpre vm₁ X₁.warmed) with ⟨v, B, X', hpost, hsteps⟩ | ⟨q, B, X', hpost, hsteps⟩
  · exact Or.inl ⟨v, vm₁, B, X₁.warmed, X', hpost, fun target h => hstep₁ _ fun acts => by rw [doInvoke_state]; exact hsteps.trans h⟩
  · exact Or.inr ⟨q, vm₁, B, X₁.warmed, X', hpost, hstep₁ _ fun acts => by rw [doInvoke_state]; exact hsteps⟩
end VXIA
section VXIB
variable {p : Program} {l : Launch} {e : Env} {R : Room} {s : State} {m : MethodId} {args : Array Value} {below : List Frame} {meth : Method} {c : Code} {H : Heap} {locs : List Loc} {cells slots : Nat}
variable {y : MethodName} {bytes cc : ByteArray} {maxL nL mc ms n index : Nat} {ret : Option FieldType} {ws : List Cond} {rm : Room} {Pc : Array Value → State → Prop} {Qc : Array Value → State → Outcome → State → Prop} {XC : String → State → State → Prop} {free : Addr → Prop} {Ts : List Cond} {own C : String} {b : Addr} {As rest : List Value} {g : JFrame}
theorem vx_runI (S : CallFix p m c cc nL s args Ts own) (hM : vx_Met l y ws rm Pc Qc XC mc ms free) (cw : CallB R s args own index y bytes maxL none ws rm mc ms n ∧ y.name = "<init>" ∧ (Cond.instanceMethod y).before args s = true) (hp : PreS s H Pc (.ref b :: As))
    (hg : g.method = m) (hn : As.length = n) (hsize : g.locals.size = nL) (hstack : g.stack = As.reverse ++ .ref b :: rest) (hW : 2 * g.monitorRoom + (rest.map fun v => v.category).sum ≤ 8) (hdg : decode cc g.pc = .ok (.invokespecial index, 3)) (hf : cells + mc ≤ R.cells ∧ slots + ms ≤ R.slots) :
    vx_Run p l e R s m args below meth c H locs cells slots mc ms g rest (Qc (Value.ref b :: As).toArray) XC free := by
  have hK : vx_Back l R p e below s args y 3 8 (PreOf R mc ms Pc) (PostOf Qc mc ms free) (vx_Post XC mc ms free) := vx_callBack cw.1 hM hp.1
  obtain ⟨⟨-, -, -, -, -, -, hcode, -, hy, hlen, hl⟩, hy1, hin⟩ := cw
  obtain ⟨hx, hb, hml, ho, -⟩ := S
  have hPc := hp.2
  intro T hT X
  rcases vx_callI X hx (bytes := bytes) (maxL := maxL) ho hy1 hl hin hcode hy hK hg (hsize.trans hml.symm) (a := b) (argsL := As) (rest := rest) (fun sig h => hn.trans (hlen sig h)) hstack hW (by rw [hb]; exact hdg)
    (fun vm₁ hW₁ => ⟨hf.1, hf.2, hPc (T.setVm vm₁) hT hW₁⟩) with ⟨v, vm₁, ⟨U', l2, c2, s2⟩, hW₁, X', ⟨g', mk, t, L, e1, e2, hq, h1, hL, h2, h3⟩, st⟩ | ⟨q, vm₁, ⟨U', l2, c2, s2⟩, hW₁, X', ⟨g', mk, t, L, E, ce, e1, e2, hq, hce, hcv, hcl, h1, hL, h2, h3⟩, st⟩
  · dsimp only [Pt.U, Pt.locs, Pt.cells, Pt.slots] at X' e1 e2 h1 h2 h3 st
    subst h1; subst h2; subst h3
    exact Or.inl ⟨v, (T.setVm vm₁).calling g' mk (Value.ref b :: As).toArray, t, U', L, hT, X', hL, e1, e2, hq, st⟩
  · dsimp only [Pt.U, Pt.locs, Pt.cells, Pt.slots] at X' e1 e2 h1 h2 h3 st hcl
    subst h1; subst h2; subst h3
    exact Or.inr ⟨q, (T.setVm vm₁).calling g' mk (Value.ref b :: As).toArray, t, U', L, E, ce, hT, X', hL, e1, e2, hq, hce, hcv, vx_cls hW₁ hcl, st⟩
end VXIB
/-! ===== END ===== -/
/-! ===== BEGIN a private constructor of a nest mate that throws ===== -/
section VXIC
variable {p : Program} {l : Launch} {e : Env} {R : Room} {s : State} {m : MethodId} {args : Array Value} {below : List Frame} {meth : Method} {c : Code} {T : State} {locs : List Loc} {cells slots : Nat}
theorem vx_callIN (X : Stand p l e R s m args below meth c T locs cells slots) (hexec : p.tables.exec = Jvm.exec) {own : String} {index : Nat} {host : String} {y : MethodName} {bytes : ByteArray} {maxL : Nat}
    (hown : s.vm.findClass own = some m.cls) (hy1 : y.name = "<init>") (hlink : (Cond.methodLinkNest own index y host).before args s = true) (hinst : (Cond.instanceMethod y).before args s = true)
    (hcode : (Cond.code y bytes maxL none).before args s = true) (hy : y.cls ≠ "java/lang/invoke/MethodHandle" ∧ y.cls ≠ "java/lang/invoke/VarHandle")
    {W9 : Nat} {Pre : Pt → Array Value → Prop} {Post : Pt → Array Value → Option Value → Pt → Prop} {PostX : Pt → Array Value → Addr → Pt → Prop} (hK : vx_Back l R p e below s args y 3 W9 Pre Post PostX)
    {g : JFrame} (hg : g.method = m) (hsize : g.locals.size = c.maxLocals) {a : Addr} {argsL rest : List Value} (hlen : ∀ sig, parseMethodDescriptor y.desc = some sig → argsL.length = sig.parameters.length)
    (hstack : g.stack = argsL.reverse ++ .ref a :: rest) (hW : 2 * g.monitorRoom + (rest.map fun v => v.category).sum ≤ W9) (hdg : decode c.code g.pc = .ok (.invokespecial index, 3))
    (hpre : ∀ vm₁, s.WarmedH vm₁ → Pre ⟨T.setVm vm₁, locs, cells, slots⟩ (Value.ref a :: argsL).toArray) :
    (∃ (v : Option Value) (vm₁ : Vm) (B : Pt), s.WarmedH vm₁ ∧ Stand p l e R s m args below meth c B.U B.locs B.cells B.slots ∧ Post ⟨T.setVm vm₁, locs, cells, slots⟩ (Value.ref a :: argsL).toArray v B ∧
      ∀ target, Steps p.tables e below (B.U.setTop { g with pc := g.pc + 3, stack := v.toList ++ rest }) target → Steps p.tables e below (T.setTop g) target) ∨
    (∃ (q : Addr) (vm₁ : Vm) (B : Pt), s.WarmedH vm₁ ∧ Stand p l e R s m args below meth c B.U B.locs B.cells B.slots ∧ PostX ⟨T.setVm vm₁, locs, cells, slots⟩ (Value.ref a :: argsL).toArray q B ∧
      Steps p.tables e below (T.setTop g) ((B.U.setTop { g with stack := rest }).pushFrame (.throwing q))) := by
  subst hg
  have hpl : e.platform.magicAccessors = ({} : Platform).magicAccessors := by rw [X.admits.platform]
  obtain ⟨mk, methM, cM, kP, vm₁, hnamed, hmethM, hcodeM, -, hlocalsM, -, hkP, -, hW₁, hstep₁⟩ := Steps.initColdArgsNest (e := e) X.here hexec X.warmed hpl hown hy1 hy hlink hinst hcode (f := g) rfl hlen hstack hdg
  have X₁ := X.noted hW₁
  rcases hK g.method meth c ⟨T.setVm vm₁, locs, cells, slots⟩ { g with stack := rest } (.invokespecial index) mk (Value.ref a :: argsL).toArray X₁ rfl hsize hdg hW (X₁.named hnamed) (hpre vm₁ X₁.warmed) with ⟨v, B, X', hpost, hsteps⟩ | ⟨q, B, X', hpost, hsteps⟩
  · exact Or.inl ⟨v, vm₁, B, X₁.warmed, X', hpost, fun target h => hstep₁ _ fun acts => by rw [doInvoke_state]; exact hsteps.trans h⟩
  · exact Or.inr ⟨q, vm₁, B, X₁.warmed, X', hpost, hstep₁ _ fun acts => by rw [doInvoke_state]; exact hsteps⟩
end VXIC
section VXID
variable {p : Program} {l : Launch} {e : Env} {R : Room} {s : State} {m : MethodId} {args : Array Value} {below : List Frame} {meth : Method} {c : Code} {H : Heap} {locs : List Loc} {cells slots : Nat}
theorem vx_runIN {y : MethodName} {bytes cc : ByteArray} {maxL nL mc ms n index : Nat} {ws : List Cond} {rm : Room} {Pc : Array Value → State → Prop} {Qc : Array Value → State → Outcome → State → Prop} {XC : String → State → State → Prop} {free : Addr → Prop} {Ts : List Cond} {own host : String} {b : Addr} {As rest : List Value} {g : JFrame}
    (S : CallFix p m c cc nL s args Ts own) (hM : vx_Met l y ws rm Pc Qc XC mc ms free) (cw : va_CN R s args own index y host bytes maxL none ws rm mc ms n ∧ y.name = "<init>" ∧ (Cond.instanceMethod y).before args s = true) (hp : PreS s H Pc (.ref b :: As))
    (hg : g.method = m) (hn : As.length = n) (hsize : g.locals.size = nL) (hstack : g.stack = As.reverse ++ .ref b :: rest) (hW : 2 * g.monitorRoom + (rest.map fun v => v.category).sum ≤ 8) (hdg : decode cc g.pc = .ok (.invokespecial index, 3)) (hf : cells + mc ≤ R.cells ∧ slots + ms ≤ R.slots) :
    vx_Run p l e R s m args below meth c H locs cells slots mc ms g rest (Qc (Value.ref b :: As).toArray) XC free := by
  obtain ⟨⟨⟨hrc, hrs, hfr, hlo, hws, hcw⟩, hcode, hini, hy, hlen, hl⟩, hx1, hx2⟩ := cw
  have hK : vx_Back l R p e below s args y 3 8 (PreOf R mc ms Pc) (PostOf Qc mc ms free) (vx_Post XC mc ms free) := vx_back (bytes := bytes) (maxL := maxL) (ret := none) hM hp.1 hrc hrs hfr hlo hws hcw (fun a' U hW => word_at hW (Or.inl (by first | rfl | simp [Cond.onTables, Cond.keeps, Cond.steady])) hini)
  obtain ⟨hx, hb, hml, ho, -⟩ := S
  have hPc := hp.2
  intro T hT X
  rcases vx_callIN X hx (bytes := bytes) (maxL := maxL) ho hx1 hl hx2 hcode hy hK hg (hsize.trans hml.symm) (a := b) (argsL := As) (rest := rest) (fun sig h => hn.trans (hlen sig h)) hstack hW (by rw [hb]; exact hdg)
    (fun vm₁ hW₁ => ⟨hf.1, hf.2, hPc (T.setVm vm₁) hT hW₁⟩) with ⟨v, vm₁, ⟨U', l2, c2, s2⟩, hW₁, X', ⟨g', mk, t, L, e1, e2, hq, h1, hL, h2, h3⟩, st⟩ | ⟨q, vm₁, ⟨U', l2, c2, s2⟩, hW₁, X', ⟨g', mk, t, L, E, ce, e1, e2, hq, hce, hcv, hcl, h1, hL, h2, h3⟩, st⟩
  · dsimp only [Pt.U, Pt.locs, Pt.cells, Pt.slots] at X' e1 e2 h1 h2 h3 st
    subst h1; subst h2; subst h3
    exact Or.inl ⟨v, (T.setVm vm₁).calling g' mk (Value.ref b :: As).toArray, t, U', L, hT, X', hL, e1, e2, hq, st⟩
  · dsimp only [Pt.U, Pt.locs, Pt.cells, Pt.slots] at X' e1 e2 h1 h2 h3 st hcl
    subst h1; subst h2; subst h3
    exact Or.inr ⟨q, (T.setVm vm₁).calling g' mk (Value.ref b :: As).toArray, t, U', L, E, ce, hT, X', hL, e1, e2, hq, hce, hcv, vx_cls hW₁ hcl, st⟩
end VXID
/-! ===== END ===== -/
/-! ===== BEGIN a private method of a nest mate that may throw (follows va_callVN, va_callSN, va_runVN, va_runSN) ===== -/
section
variable {p : Program} {l : Launch} {e : Env} {R : Room} {s : State} {m : MethodId} {args : Array Value} {below : List Frame} {meth : Method} {c : Code} {H : Heap} {locs : List Loc} {cells slots : Nat}
variable {T : State}
theorem vx_callVN (X : Stand p l e R s m args below meth c T locs cells slots) (hexec : p.tables.exec = Jvm.exec) {own C : String} {index : Nat} {host : String} {y : MethodName} {bytes : ByteArray} {maxL : Nat} {ret : Option FieldType}
    (hown : s.vm.findClass own = some m.cls) (hlink : (Cond.methodLinkNest own index y host).before args s = true) (hinst : (Cond.instanceMethod y).before args s = true) (hsel : (Cond.selects C y y).before args s = true)
    (hcode : (Cond.code y bytes maxL ret).before args s = true) (hy : y.cls ≠ "java/lang/invoke/MethodHandle" ∧ y.cls ≠ "java/lang/invoke/VarHandle")
    {W : Nat} {Pre : Pt → Array Value → Prop} {Post : Pt → Array Value → Option Value → Pt → Prop} {PostX : Pt → Array Value → Addr → Pt → Prop} (hK : vx_Back l R p e below s args y 3 W Pre Post PostX)
    {b : Addr} {cellB : Cell} (hcell : T.heap[b]? = some cellB) (hobj : cellB.vm.isStatics = false) (hcls : s.vm.findClass C = some cellB.cls)
    {g : JFrame} (hg : g.method = m) (hsize : g.locals.size = c.maxLocals) {argsL rest : List Value} (hlen : ∀ sig, parseMethodDescriptor y.desc = some sig → argsL.length = sig.parameters.length)
    (hstack : g.stack = argsL.reverse ++ .ref b :: rest) (hW : 2 * g.monitorRoom + (rest.map fun v => v.category).sum ≤ W) (hdg : decode c.code g.pc = .ok (.invokevirtual index, 3))
    (hpre : ∀ vm₁, s.WarmedH vm₁ → Pre ⟨T.setVm vm₁, locs, cells, slots⟩ (Value.ref b :: argsL).toArray) :
    (∃ (v : Option Value) (vm₁ : Vm) (B : Pt), s.WarmedH vm₁ ∧ Stand p l e R s m args below meth c B.U B.locs B.cells B.slots ∧ Post ⟨T.setVm vm₁, locs, cells, slots⟩ (Value.ref b :: argsL).toArray v B ∧
      ∀ target, Steps p.tables e below (B.U.setTop { g with pc := g.pc + 3, stack := v.toList ++ rest }) target → Steps p.tables e below (T.setTop g) target) ∨
    (∃ (q : Addr) (vm₁ : Vm) (B : Pt), s.WarmedH vm₁ ∧ Stand p l e R s m args below meth c B.U B.locs B.cells B.slots ∧ PostX ⟨T.setVm vm₁, locs, cells, slots⟩ (Value.ref b :: argsL).toArray q B ∧
      Steps p.tables e below (T.setTop g) ((B.U.setTop { g with stack := rest }).pushFrame (.throwing q))) := by
  obtain ⟨mk, methM, hnamed, hmethM, hstM, habM⟩ := Cond.instanceMethod_spec hinst
  obtain ⟨methM', cM, hmethM', -, -, -, -, -, -, hsigM⟩ := Cond.code_spec hnamed hcode
  cases hmethM.symm.trans hmethM'
  obtain ⟨c2, r2, m2, q1, q2, q3, q4, kP, hkP, hkPi⟩ := Cond.selects_spec hsel
  cases hcls.symm.trans q1
  cases (State.methodFound?_of_named hnamed hy).symm.trans q2
  cases hnamed.symm.trans q3
  have hselP : selectMethod e.platform s.vm cellB.cls mk = .method mk := by rw [Launch.admits_selectMethod X.admits]; exact q4
  obtain ⟨vm₁, X₁, hstep₁⟩ := X.invokevirtualNest hexec hown hlink hnamed hmethM hstM hkP hkPi hy (a := b) (cell := cellB) hcell
    (fun z h => by rw [h] at hobj; cases hobj) hselP hmethM habM hkP hkPi (g := g) hg (argsL := argsL) (rest := rest) (hlen _ hsigM) hstack hdg
  rcases hK m meth c ⟨T.setVm vm₁, locs, cells, slots⟩ { g with stack := rest } (.invokevirtual index) mk (Value.ref b :: argsL).toArray X₁ hg hsize hdg hW (X₁.named hnamed) (hpre vm₁ X₁.warmed) with ⟨v, B, X', hpost, hsteps⟩ | ⟨q, B, X', hpost, hsteps⟩
  · exact Or.inl ⟨v, vm₁, B, X₁.warmed, X', hpost, fun target h => hstep₁ _ fun acts => by rw [doInvoke_state]; exact hsteps.trans h⟩
  · exact Or.inr ⟨q, vm₁, B, X₁.warmed, X', hpost, hstep₁ _ fun acts => by rw [doInvoke_state]; exact hsteps⟩
theorem vx_callSN (X : Stand p l e R s m args below meth c T locs cells slots) (hexec : p.tables.exec = Jvm.exec) {own : String} {index : Nat} {host : String} {y : MethodName} {bytes : ByteArray} {maxL : Nat} {ret : Option FieldType}
    (hown : s.vm.findClass own = some m.cls) (hlink : (Cond.methodLinkNest own index y host).before args s = true) (hstat : (Cond.static y).before args s = true) (hinit : (Cond.initialized y.cls).before args s = true)
    (hcode : (Cond.code y bytes maxL ret).before args s = true) (hy : y.cls ≠ "java/lang/invoke/MethodHandle" ∧ y.cls ≠ "java/lang/invoke/VarHandle")
    {W : Nat} {Pre : Pt → Array Value → Prop} {Post : Pt → Array Value → Option Value → Pt → Prop} {PostX : Pt → Array Value → Addr → Pt → Prop} (hK : vx_Back l R p e below s args y 3 W Pre Post PostX)
    {g : JFrame} (hg : g.method = m) (hsize : g.locals.size = c.maxLocals) {argsL rest : List Value} (hlen : ∀ sig, parseMethodDescriptor y.desc = some sig → argsL.length = sig.parameters.length)
    (hstack : g.stack = argsL.reverse ++ rest) (hW : 2 * g.monitorRoom + (rest.map fun v => v.category).sum ≤ W) (hdg : decode c.code g.pc = .ok (.invokestatic index, 3))
    (hpre : ∀ vm₁, s.WarmedH vm₁ → Pre ⟨T.setVm vm₁, locs, cells, slots⟩ argsL.toArray) :
    (∃ (v : Option Value) (vm₁ : Vm) (B : Pt), s.WarmedH vm₁ ∧ Stand p l e R s m args below meth c B.U B.locs B.cells B.slots ∧ Post ⟨T.setVm vm₁, locs, cells, slots⟩ argsL.toArray v B ∧
      ∀ target, Steps p.tables e below (B.U.setTop { g with pc := g.pc + 3, stack := v.toList ++ rest }) target → Steps p.tables e below (T.setTop g) target) ∨
    (∃ (q : Addr) (vm₁ : Vm) (B : Pt), s.WarmedH vm₁ ∧ Stand p l e R s m args below meth c B.U B.locs B.cells B.slots ∧ PostX ⟨T.setVm vm₁, locs, cells, slots⟩ argsL.toArray q B ∧
      Steps p.tables e below (T.setTop g) ((B.U.setTop { g with stack := rest }).pushFrame (.throwing q))) := by
  obtain ⟨mk, hnamed⟩ := Cond.code_named hcode
  obtain ⟨methM, cM, hmethM, -, -, -, -, -, -, hsigM⟩ := Cond.code_spec hnamed hcode
  have hstatic : methM.isStatic = true := Cond.static_spec hnamed hmethM hstat
  obtain ⟨kP, hkP, -⟩ := className_of_methodNamed hnamed
  have hinitP : kP.init = .initialized := Cond.initialized_spec (findClass_of_methodNamed hnamed) hkP hinit
  obtain ⟨vm₁, X₁, hstep₁⟩ := X.invokestaticNest hexec hown hlink hnamed hmethM hstatic hkP hinitP hy (g := g) hg (argsL := argsL) (rest := rest) (hlen _ hsigM) hstack hdg
  rcases hK m meth c ⟨T.setVm vm₁, locs, cells, slots⟩ { g with stack := rest } (.invokestatic index) mk argsL.toArray X₁ hg hsize hdg hW (X₁.named hnamed) (hpre vm₁ X₁.warmed) with ⟨v, B, X', hpost, hsteps⟩ | ⟨q, B, X', hpost, hsteps⟩
  · exact Or.inl ⟨v, vm₁, B, X₁.warmed, X', hpost, fun target h => hstep₁ _ fun acts => by rw [doInvoke_state]; exact hsteps.trans h⟩
  · exact Or.inr ⟨q, vm₁, B, X₁.warmed, X', hpost, hstep₁ _ fun acts => by rw [doInvoke_state]; exact hsteps⟩
theorem vx_runVN {y : MethodName} {bytes cc : ByteArray} {maxL nL mc ms n index : Nat} {ret : Option FieldType} {ws : List Cond} {rm : Room} {Pc : Array Value → State → Prop} {Qc : Array Value → State → Outcome → State → Prop} {XC : String → State → State → Prop} {free : Addr → Prop} {Ts : List Cond} {own C host : String} {b : Addr} {As rest : List Value} {g : JFrame}
    (S : CallFix p m c cc nL s args Ts own) (hM : vx_Met l y ws rm Pc Qc XC mc ms free) (cw : va_CN R s args own index y host bytes maxL ret ws rm mc ms n ∧ (Cond.instanceMethod y).before args s = true ∧ (Cond.selects C y y).before args s = true) (hp : PreV s H C b Pc As)
    (hg : g.method = m) (hn : As.length = n) (hsize : g.locals.size = nL) (hstack : g.stack = As.reverse ++ .ref b :: rest) (hW : 2 * g.monitorRoom + (rest.map fun v => v.category).sum ≤ 8) (hdg : decode cc g.pc = .ok (.invokevirtual index, 3)) (hf : cells + mc ≤ R.cells ∧ slots + ms ≤ R.slots) :
    vx_Run p l e R s m args below meth c H locs cells slots mc ms g rest (Qc (Value.ref b :: As).toArray) XC free := by
  obtain ⟨⟨⟨hrc, hrs, hfr, hlo, hws, hcw⟩, hcode, hini, hy, hlen, hl⟩, hx1, hx2⟩ := cw
  have hK : vx_Back l R p e below s args y 3 8 (PreOf R mc ms Pc) (PostOf Qc mc ms free) (vx_Post XC mc ms free) := vx_back (bytes := bytes) (maxL := maxL) (ret := ret) hM hp.1 hrc hrs hfr hlo hws hcw (fun a' U hW => word_at hW (Or.inl (by first | rfl | simp [Cond.onTables, Cond.keeps, Cond.steady])) hini)
  obtain ⟨hx, hb, hml, ho, -⟩ := S
  obtain ⟨-, ⟨cellB, hcB, hoB, hclB⟩, hPc⟩ := hp
  intro T hT X
  rcases vx_callVN X hx (C := C) (bytes := bytes) (maxL := maxL) (ret := ret) ho hl hx1 hx2 hcode hy hK (by rw [hT]; exact hcB) hoB hclB hg (hsize.trans hml.symm) (argsL := As) (rest := rest) (fun sig h => hn.trans (hlen sig h)) hstack hW (by rw [hb]; exact hdg)
    (fun vm₁ hW₁ => ⟨hf.1, hf.2, hPc (T.setVm vm₁) hT hW₁⟩) with ⟨v, vm₁, ⟨U', l2, c2, s2⟩, hW₁, X', ⟨g', mk, t, L, e1, e2, hq, h1, hL, h2, h3⟩, st⟩ | ⟨q, vm₁, ⟨U', l2, c2, s2⟩, hW₁, X', ⟨g', mk, t, L, E, ce, e1, e2, hq, hce, hcv, hcl, h1, hL, h2, h3⟩, st⟩
  · dsimp only [Pt.U, Pt.locs, Pt.cells, Pt.slots] at X' e1 e2 h1 h2 h3 st
    subst h1; subst h2; subst h3
    exact Or.inl ⟨v, (T.setVm vm₁).calling g' mk (Value.ref b :: As).toArray, t, U', L, hT, X', hL, e1, e2, hq, st⟩
  · dsimp only [Pt.U, Pt.locs, Pt.cells, Pt.slots] at X' e1 e2 h1 h2 h3 st hcl
    subst h1; subst h2; subst h3
    exact Or.inr ⟨q, (T.setVm vm₁).calling g' mk (Value.ref b :: As).toArray, t, U', L, E, ce, hT, X', hL, e1, e2, hq, hce, hcv, vx_cls hW₁ hcl, st⟩
theorem vx_runSN {y : MethodName} {bytes cc : ByteArray} {maxL nL mc ms n index : Nat} {ret : Option FieldType} {ws : List Cond} {rm : Room} {Pc : Array Value → State → Prop} {Qc : Array Value → State → Outcome → State → Prop} {XC : String → State → State → Prop} {free : Addr → Prop} {Ts : List Cond} {own host : String} {As rest : List Value} {g : JFrame}
    (S : CallFix p m c cc nL s args Ts own) (hM : vx_Met l y ws rm Pc Qc XC mc ms free) (cw : va_CN R s args own index y host bytes maxL ret ws rm mc ms n ∧ (Cond.static y).before args s = true ∧ True) (hp : PreS s H Pc As)
    (hg : g.method = m) (hn : As.length = n) (hsize : g.locals.size = nL) (hstack : g.stack = As.reverse ++ rest) (hW : 2 * g.monitorRoom + (rest.map fun v => v.category).sum ≤ 8) (hdg : decode cc g.pc = .ok (.invokestatic index, 3)) (hf : cells + mc ≤ R.cells ∧ slots + ms ≤ R.slots) :
    vx_Run p l e R s m args below meth c H locs cells slots mc ms g rest (Qc As.toArray) XC free := by
  obtain ⟨⟨⟨hrc, hrs, hfr, hlo, hws, hcw⟩, hcode, hini, hy, hlen, hl⟩, hx1, hx2⟩ := cw
  have hK : vx_Back l R p e below s args y 3 8 (PreOf R mc ms Pc) (PostOf Qc mc ms free) (vx_Post XC mc ms free) := vx_back (bytes := bytes) (maxL := maxL) (ret := ret) hM hp.1 hrc hrs hfr hlo hws hcw (fun a' U hW => word_at hW (Or.inl (by first | rfl | simp [Cond.onTables, Cond.keeps, Cond.steady])) hini)
  obtain ⟨hx, hb, hml, ho, -⟩ := S
  have hPc := hp.2
  intro T hT X
  rcases vx_callSN X hx (bytes := bytes) (maxL := maxL) (ret := ret) ho hl hx1 hini hcode hy hK hg (hsize.trans hml.symm) (argsL := As) (rest := rest) (fun sig h => hn.trans (hlen sig h)) hstack hW (by rw [hb]; exact hdg)
    (fun vm₁ hW₁ => ⟨hf.1, hf.2, hPc (T.setVm vm₁) hT hW₁⟩) with ⟨v, vm₁, ⟨U', l2, c2, s2⟩, hW₁, X', ⟨g', mk, t, L, e1, e2, hq, h1, hL, h2, h3⟩, st⟩ | ⟨q, vm₁, ⟨U', l2, c2, s2⟩, hW₁, X', ⟨g', mk, t, L, E, ce, e1, e2, hq, hce, hcv, hcl, h1, hL, h2, h3⟩, st⟩
  · dsimp only [Pt.U, Pt.locs, Pt.cells, Pt.slots] at X' e1 e2 h1 h2 h3 st
    subst h1; subst h2; subst h3
    exact Or.inl ⟨v, (T.setVm vm₁).calling g' mk As.toArray, t, U', L, hT, X', hL, e1, e2, hq, st⟩
  · dsimp only [Pt.U, Pt.locs, Pt.cells, Pt.slots] at X' e1 e2 h1 h2 h3 st hcl
    subst h1; subst h2; subst h3
    exact Or.inr ⟨q, (T.setVm vm₁).calling g' mk As.toArray, t, U', L, E, ce, hT, X', hL, e1, e2, hq, hce, hcv, vx_cls hW₁ hcl, st⟩
end
/-! ===== END ===== -/
end
section
/-! THE SMALL MACHINE: one world for all methods; cells by their order of making (logical addresses), values typed by construction. -/
-- kinds of cells: an object of the class ci, an array of ty of n places
abbrev Kd : Type := Nat ⊕ (FieldType × Nat)
-- (the cells' kinds, whether nothing else was made since the start), ints, longs, references
abbrev Mm : Type := (List Kd × Bool) × (Nat → Nat → Int32) × (Nat → Nat → Int64) × (Nat → Nat → Option Nat)
def u2 {α : Type} (f : Nat → Nat → α) (a i : Nat) (v : α) : Nat → Nat → α := fun b j => if b = a then (if j = i then v else f b j) else f b j
def sI (M : Mm) (a i : Nat) (v : Int32) : Mm := (M.1, u2 M.2.1 a i v, M.2.2)
def sJ (M : Mm) (a i : Nat) (v : Int64) : Mm := (M.1, M.2.1, u2 M.2.2.1 a i v, M.2.2.2)
def sR (M : Mm) (a i : Nat) (v : Option Nat) : Mm := (M.1, M.2.1, M.2.2.1, u2 M.2.2.2 a i v)
-- a whole row of ints anew
def sA (M : Mm) (a : Nat) (f : Nat → Int32) : Mm := (M.1, (fun b j => if b = a then f j else M.2.1 b j), M.2.2)
def loose (M : Mm) : Mm := ((M.1.1, false), M.2)
abbrev clz : List vw_C := [(RX0, TX0, 8), (RX1, TX1, 5), (RX2, TX2, 4), (RX3, TX3, 8), (RX4, TX4, 9), (RX5, TX5, 12), (RX6, TX6, 27)]
def tyz (ci : Nat) : Nat → FieldType := match ci with
  | 0 => tyX0
  | 1 => tyX1
  | 2 => tyX2
  | 3 => tyX3
  | 4 => tyX4
  | 5 => tyX5
  | _ => tyX6
def cNz (ci : Nat) : Nat := match ci with
  | 0 => 8
  | 1 => 5
  | 2 => 4
  | 3 => 8
  | 4 => 9
  | 5 => 12
  | _ => 27
def fvl (ad : Nat → Nat) (M : Mm) (ci a k : Nat) : Value := match tyz ci k with
  | .long => .long (M.2.2.1 a k)
  | .object _ => va_rf ((M.2.2.2 a k).map ad)
  | .array _ => va_rf ((M.2.2.2 a k).map ad)
  | _ => .int (M.2.1 a k)
def fls (ad : Nat → Nat) (M : Mm) (ci a : Nat) : List Value := (List.range (cNz ci)).map (fvl ad M ci a)
def con (ad : Nat → Nat) (M : Mm) (a : Nat) (ty : FieldType) : (Nat → Int32) ⊕ (Nat → Int64) ⊕ (Nat → UInt32) ⊕ (Nat → UInt64) ⊕ (Nat → Option Nat) := match ty with
  | .long => .inr (.inl (M.2.2.1 a))
  | .object _ => .inr (.inr (.inr (.inr (fun i => (M.2.2.2 a i).map ad))))
  | .array _ => .inr (.inr (.inr (.inr (fun i => (M.2.2.2 a i).map ad))))
  | _ => .inl (M.2.1 a)
def ent (dA : FieldType → ClassId) (ad : Nat → Nat) (M : Mm) (a : Nat) (kd : Kd) : va_E := match kd with
  | .inl ci => .inr (ci, fls ad M ci a)
  | .inr q => .inl (dA q.1, q.2, con ad M a q.1)
def wsM (dA : FieldType → ClassId) (ad : Nat → Nat) (M : Mm) : va_W := M.1.1.mapIdx (fun k kd => (ad k, ent dA ad M k kd))
def tysM (dA : FieldType → ClassId) : List (ClassId × FieldType) := [(dA .int, .int), (dA .byte, .byte), (dA .boolean, .boolean), (dA .long, .long), (dA (.object RX1), .object RX1), (dA (.array .int), .array .int)]
-- what stands beside a proof: the launch, the first new address, addresses, the tables' numbers, the script
abbrev Bd : Type := Launch × Nat × (Nat → Nat) × va_G × (FieldType → ClassId) × Nat × (Nat → Int32)
abbrev bl (B : Bd) : Launch := B.1
abbrev bs (B : Bd) : Nat := B.2.1
abbrev ba (B : Bd) : Nat → Nat := B.2.2.1
abbrev bD (B : Bd) : va_G := B.2.2.2.1
abbrev bA (B : Bd) : FieldType → ClassId := B.2.2.2.2.1
abbrev bL (B : Bd) : Nat := B.2.2.2.2.2.1
abbrev bX (B : Bd) : Nat → Int32 := B.2.2.2.2.2.2
abbrev fr (B : Bd) : Nat → Prop := fun q => bs B ≤ q
def Rep (B : Bd) (M : Mm) (H : Heap) : Prop := va_P (bD B) clz (wsM (bA B) (ba B) M) H ∧ bs B + M.1.1.length ≤ H.size ∧ (M.1.2 = true → H.size = bs B + M.1.1.length) ∧ M.1.1.length ≤ 1000000
def Adr (B : Bd) : Prop := ∀ k, k < 1000000 → ba B k = bs B + k
theorem u2_self {α : Type} (f : Nat → Nat → α) (a i : Nat) (v : α) : u2 f a i v a = fun j => if j = i then v else f a j := by
  funext j; simp [u2]
theorem u2_ne {α : Type} (f : Nat → Nat → α) {a b : Nat} (i : Nat) (v : α) (h : b ≠ a) : u2 f a i v b = f b := by
  funext j; simp [u2, h]
theorem wsM_get {dA : FieldType → ClassId} {ad : Nat → Nat} {M : Mm} {k : Nat} {kd : Kd} (h : M.1.1[k]? = some kd) : (wsM dA ad M)[k]? = some (ad k, ent dA ad M k kd) := by
  unfold wsM
  rw [List.getElem?_mapIdx, h]; rfl
theorem wsM_D {B : Bd} {M : Mm} {H : Heap} (hA : Adr B) (hR : Rep B M H) : va_D (fr B) (wsM (bA B) (ba B) M) := by
  have key : ∀ (i : Nat) (p : Nat × va_E), (wsM (bA B) (ba B) M)[i]? = some p → i < 1000000 ∧ p.1 = bs B + i := by
    intro i p hp
    unfold wsM at hp
    rw [List.getElem?_mapIdx] at hp
    cases hk : M.1.1[i]? with
    | none => rw [hk] at hp; cases hp
    | some kd =>
      rw [hk] at hp
      have hl := (List.getElem?_eq_some_iff.mp hk).1
      have hlt : i < 1000000 := Nat.lt_of_lt_of_le hl hR.2.2.2
      simp only [Option.map_some, Option.some.injEq] at hp
      rw [← hp]
      exact ⟨hlt, hA i hlt⟩
  refine ⟨fun i j p q hi hj h => ?_, fun k q hk => ?_⟩
  · have h1 := key i p hi
    have h2 := key j q hj
    omega
  · have h1 := key k q hk
    show bs B ≤ q.1
    omega
-- entries look at their own rows alone
theorem ent_cong {dA : FieldType → ClassId} {ad : Nat → Nat} {M M' : Mm} {a : Nat} (h1 : M'.2.1 a = M.2.1 a) (h2 : M'.2.2.1 a = M.2.2.1 a) (h3 : M'.2.2.2 a = M.2.2.2 a) (kd : Kd) : ent dA ad M' a kd = ent dA ad M a kd := by
  have hf : ∀ ci k, fvl ad M' ci a k = fvl ad M ci a k := by
    intro ci k
    unfold fvl
    rw [h1, h2, h3]
  cases kd with
  | inl ci =>
    have h9 : fvl ad M' ci a = fvl ad M ci a := funext (hf ci)
    show (Sum.inr (ci, (List.range (cNz ci)).map (fvl ad M' ci a)) : va_E) = Sum.inr (ci, (List.range (cNz ci)).map (fvl ad M ci a))
    rw [h9]
  | inr q =>
    unfold ent con
    rw [h1, h2, h3]
theorem wsM_set {dA : FieldType → ClassId} {ad : Nat → Nat} {M M' : Mm} {k : Nat} {kd : Kd} (hS : M'.1.1 = M.1.1) (hk : M.1.1[k]? = some kd) (h : ∀ j, j ≠ k → M'.2.1 j = M.2.1 j ∧ M'.2.2.1 j = M.2.2.1 j ∧ M'.2.2.2 j = M.2.2.2 j) : (wsM dA ad M).set k (ad k, ent dA ad M' k kd) = wsM dA ad M' := by
  apply List.ext_getElem?
  intro j
  by_cases hj : j = k
  · subst hj
    have hl : j < (wsM dA ad M).length := by
      unfold wsM; rw [List.length_mapIdx]; exact (List.getElem?_eq_some_iff.mp hk).1
    rw [List.getElem?_set_self hl]
    exact (wsM_get (M := M') (by rw [hS]; exact hk)).symm
  · rw [List.getElem?_set_ne (Ne.symm hj)]
    unfold wsM
    rw [List.getElem?_mapIdx, List.getElem?_mapIdx, hS]
    cases hq : M.1.1[j]? with
    | none => rfl
    | some q =>
      obtain ⟨a1, a2, a3⟩ := h j hj
      simp only [Option.map_some]
      rw [ent_cong a1 a2 a3]
theorem Rep.put {B : Bd} {M M' : Mm} {H H1 : Heap} {k : Nat} {kd : Kd} (hR : Rep B M H) (hS : M'.1 = M.1) (hk : M.1.1[k]? = some kd) (h : ∀ j, j ≠ k → M'.2.1 j = M.2.1 j ∧ M'.2.2.1 j = M.2.2.1 j ∧ M'.2.2.2 j = M.2.2.2 j) (hP : va_P (bD B) clz ((wsM (bA B) (ba B) M).set k (ba B k, ent (bA B) (ba B) M' k kd)) H1) (hz : H1.size = H.size) : Rep B M' H1 := by
  rw [wsM_set (by rw [hS]) hk h] at hP
  refine ⟨hP, ?_, ?_, ?_⟩
  · rw [hS, hz]; exact hR.2.1
  · rw [hS, hz]; exact hR.2.2.1
  · rw [hS]; exact hR.2.2.2
theorem Rep.kept {B : Bd} {M : Mm} {H H1 : Heap} (hR : Rep B M H) (hz : H.size ≤ H1.size) (h : ∀ q, q < H.size → H1[q]? = H[q]?) : Rep B (loose M) H1 := by
  refine ⟨?_, Nat.le_trans hR.2.1 hz, (fun h => by cases h), hR.2.2.2⟩
  have hw : wsM (bA B) (ba B) (loose M) = wsM (bA B) (ba B) M := rfl
  rw [hw]
  exact hR.1.kept (fun k q hk => h q.1 (hR.1 k q hk).lt)
end
section
-- values: logical to true ones
def tr (ad : Nat → Nat) (v : Value) : Value := match v with
  | .ref k => .ref (ad k)
  | v => v
theorem tr_cat (ad : Nat → Nat) (v : Value) : (tr ad v).category = v.category := by cases v <;> rfl
theorem tr_int (ad : Nat → Nat) (x : Int32) : tr ad (.int x) = .int x := rfl
theorem tr_long (ad : Nat → Nat) (x : Int64) : tr ad (.long x) = .long x := rfl
theorem tr_ref (ad : Nat → Nat) (x : Nat) : tr ad (.ref x) = .ref (ad x) := rfl
def rv (r : Option Nat) : Value := va_rf r
theorem tr_rv (ad : Nat → Nat) (r : Option Nat) : tr ad (va_rf r) = va_rf (r.map ad) := by cases r <;> rfl
-- locals
abbrev Lc : Type := List (Option Value)
def LR (ad : Nat → Nat) (ls : Array Slot) (nL : Nat) (L : Lc) : Prop := ls.size = nL ∧ lv_wf ls ∧ ∀ (i : Nat) (v : Value), L[i]? = some (some v) → ls[i]? = some (.val (tr ad v))
def lvOf (ad : Nat → Nat) (L : Lc) : List (Nat × Value) := L.zipIdx.filterMap (fun q => q.1.map (fun v => (q.2, tr ad v)))
theorem lvOf_mem {ad : Nat → Nat} {L : Lc} {i : Nat} {w : Value} : (i, w) ∈ lvOf ad L ↔ ∃ v, L[i]? = some (some v) ∧ w = tr ad v := by
  unfold lvOf
  rw [List.mem_filterMap]
  constructor
  · rintro ⟨⟨o, j⟩, h1, h2⟩
    have h3 := List.mk_mem_zipIdx_iff_getElem?.mp h1
    cases o with
    | none => cases h2
    | some v =>
      simp only [Option.map_some, Option.some.injEq, Prod.mk.injEq] at h2
      obtain ⟨rfl, rfl⟩ := h2
      exact ⟨v, h3, rfl⟩
  · rintro ⟨v, h1, rfl⟩
    exact ⟨(some v, i), List.mk_mem_zipIdx_iff_getElem?.mpr h1, rfl⟩
theorem LR.has {ad : Nat → Nat} {ls : Array Slot} {nL : Nat} {L : Lc} (h : LR ad ls nL L) : lv_has ls nL (lvOf ad L) := by
  refine ⟨h.1, h.2.1, fun q hq => ?_⟩
  obtain ⟨i, w⟩ := q
  obtain ⟨v, h1, rfl⟩ := lvOf_mem.mp hq
  exact h.2.2 i v h1
def nlg (L : Lc) (i : Nat) : Bool := match i with
  | 0 => true
  | j + 1 => match L[j]? with
    | some (some w) => !(w.category == 2)
    | _ => true
theorem LR.st1 {ad : Nat → Nat} {ls : Array Slot} {nL : Nat} {L : Lc} {i : Nat} {v : Value} (hn : nlg L i = true) (h : lv_has ls nL ((i, tr ad v) :: (lvOf ad L).filter (fun q => !(q.1 == i) && !(q.1 + 1 == i && q.2.category == 2)))) : LR ad ls nL (L.set i (some v)) := by
  refine ⟨h.1, h.2.1, fun j w hj => ?_⟩
  by_cases hji : j = i
  · subst hji
    have hlt : j < L.length := by
      have := (List.getElem?_eq_some_iff.mp hj).1
      rwa [List.length_set] at this
    rw [List.getElem?_set_self hlt] at hj
    simp only [Option.some.injEq] at hj
    subst hj
    exact h.2.2 (j, tr ad v) List.mem_cons_self
  · rw [List.getElem?_set_ne (Ne.symm hji)] at hj
    refine h.2.2 (j, tr ad w) (List.mem_cons_of_mem _ (List.mem_filter.mpr ⟨lvOf_mem.mpr ⟨w, hj, rfl⟩, ?_⟩))
    have h1 : (j == i) = false := by simpa using hji
    by_cases h2 : j + 1 = i
    · subst h2
      have hc : (w.category == 2) = false := by
        simp only [nlg, hj] at hn
        simpa using hn
      simp only [tr_cat]
      rw [h1, hc]; simp
    · have h3 : (j + 1 == i) = false := by simpa using h2
      simp only
      rw [h1, h3]; rfl
theorem LR.st2 {ad : Nat → Nat} {ls : Array Slot} {nL : Nat} {L : Lc} {i : Nat} {v : Value} (hn : nlg L i = true) (h : lv_has ls nL ((i, tr ad v) :: (lvOf ad L).filter (fun q => !(q.1 == i) && (!(q.1 == i + 1) && !(q.1 + 1 == i && q.2.category == 2))))) : LR ad ls nL ((L.set i (some v)).set (i + 1) none) := by
  refine ⟨h.1, h.2.1, fun j w hj => ?_⟩
  by_cases hj1 : j = i + 1
  · subst hj1
    have hlt : i + 1 < (L.set i (some v)).length := by
      have := (List.getElem?_eq_some_iff.mp hj).1
      rwa [List.length_set] at this
    rw [List.getElem?_set_self hlt] at hj
    cases hj
  · rw [List.getElem?_set_ne (Ne.symm hj1)] at hj
    by_cases hji : j = i
    · subst hji
      have hlt : j < L.length := by
        have := (List.getElem?_eq_some_iff.mp hj).1
        rwa [List.length_set] at this
      rw [List.getElem?_set_self hlt] at hj
      simp only [Option.some.injEq] at hj
      subst hj
      exact h.2.2 (j, tr ad v) List.mem_cons_self
    · rw [List.getElem?_set_ne (Ne.symm hji)] at hj
      refine h.2.2 (j, tr ad w) (List.mem_cons_of_mem _ (List.mem_filter.mpr ⟨lvOf_mem.mpr ⟨w, hj, rfl⟩, ?_⟩))
      have h1 : (j == i) = false := by simpa using hji
      have h4 : (j == i + 1) = false := by simpa using hj1
      by_cases h2 : j + 1 = i
      · subst h2
        have hc : (w.category == 2) = false := by
          simp only [nlg, hj] at hn
          simpa using hn
        simp only [tr_cat]
        rw [h1, h4, hc]; simp
      · have h3 : (j + 1 == i) = false := by simpa using h2
        simp only
        rw [h1, h4, h3]; rfl
theorem LR.at {ad : Nat → Nat} {ls : Array Slot} {nL : Nat} {L : Lc} (h : LR ad ls nL L) {i : Nat} {v : Value} (hi : L[i]? = some (some v)) : ls[i]? = some (.val (tr ad v)) := h.2.2 i v hi
-- the words
def TB : List Cond := lw_tbl.filter goodWord
theorem TB_good : GoodIn TB TB := fun w h => ⟨h, good_of_word (List.mem_filter.mp h).2⟩
theorem TB_in {w : Cond} (h : w ∈ lw_tbl) (hg : goodWord w = true) : w ∈ TB := List.mem_filter.mpr ⟨h, hg⟩
-- what stands outside: the script, the texts, statics, words that are kept apart
def slen : List Nat := [26, 5, 4, 4, 3, 4, 12, 19, 13]
def sbyt : List (List Int32) := [[97, 32, 110, 117, 109, 98, 101, 114, 32, 116, 104, 97, 116, 32, 105, 115, 32, 110, 111, 110, 101, 32, 115, 117, 99, 104], [110, 111, 100, 101, 115], [108, 105, 110, 101], [114, 105, 110, 103], [97, 108, 108], [112, 97, 105, 114], [110, 111, 32, 115, 117, 99, 104, 32, 110, 111, 100, 101], [110, 111, 116, 32, 97, 115, 32, 116, 104, 105, 110, 103, 115, 32, 115, 116, 97, 110, 100], [110, 111, 32, 115, 117, 99, 104, 32, 112, 108, 97, 99, 101]]
def ldcs : List (String × Nat × String × Nat) := [(RX5, 271, "a number that is none such", 0), (RX3, 56, "nodes", 1), (RX3, 73, "line", 2), (RX3, 78, "ring", 3), (RX3, 82, "all", 4), (RX3, 87, "pair", 5), (RX5, 264, "no such node", 6), (RX5, 276, "not as things stand", 7), (RX5, 279, "no such place", 8), (RX6, 163, "nodes", 1), (RX6, 137, "line", 2), (RX6, 143, "ring", 3), (RX6, 148, "all", 4), (RX6, 150, "pair", 5)]
def nests : List (String × Nat × MethodName) := [(RX5, 46, yX0_init), (RX5, 53, yX2_init), (RX5, 60, yX4_init), (RX1, 44, yX5_hasBit), (RX0, 51, yX5_hasBit), (RX3, 104, yX5_hasBit), (RX4, 56, yX5_hasBit)]
abbrev xNS : String := "java/util/NoSuchElementException"
abbrev xIA : String := "java/lang/IllegalArgumentException"
abbrev xIS : String := "java/lang/IllegalStateException"
def ncs : List (String × String) := [(xNS, xIA), (xIS, xIA), (xIA, xNS), (xIS, xNS), (xIA, xIS), (xNS, xIS)]
def excs : List String := [xNS, xIA, xIS]
def sups : List String := ["java/lang/RuntimeException", "java/lang/Exception", "java/lang/Throwable"]
def AOA (U : State) : Prop := (Cond.arrayOver (.array .int)).before #[] U = true
theorem AOA.moved {u U : State} (hvm : u.vm.Alike U.vm) (h : AOA u) : AOA U := by
  have hi : ∀ comp : ClassId, (U.vm.classes.findIdx? fun (x : Class) => match x.kind with | .array component _ => component == comp | _ => false) = (u.vm.classes.findIdx? fun (x : Class) => match x.kind with | .array component _ => component == comp | _ => false) := by
    intro comp
    refine Eq.trans (va_idx_bare U.vm comp).symm (Eq.trans ?_ (va_idx_bare u.vm comp))
    first | rw [hvm.bare_eq] | rw [← hvm.bare_eq]
  unfold AOA Cond.before Cond.holds at h ⊢
  simp only [Cond.value] at h ⊢
  rw [hvm.findClass]
  cases hc : u.vm.findClass (FieldType.array FieldType.int).toString with
  | none => rw [hc] at h; simp at h
  | some comp =>
    rw [hc, Option.bind_some] at h
    rw [Option.bind_some]
    refine (congrArg (fun o : Option Nat => (o.bind (fun c => (U.vm.classes[c]?).map fun (k : Class) => match k.kind with | .array _ ty => decide (ty = FieldType.array FieldType.int) && decide (U.vm.findClass ("[" ++ (FieldType.array FieldType.int).toString) = some c) | _ => false) == some true)) (hi comp)).trans ?_
    cases hf : (u.vm.classes.findIdx? fun (x : Class) => match x.kind with | .array component _ => component == comp | _ => false) with
    | none =>
      have h9 := (congrArg (fun o : Option Nat => (o.bind (fun c => (u.vm.classes[c]?).map fun (k : Class) => match k.kind with | .array _ ty => decide (ty = FieldType.array FieldType.int) && decide (u.vm.findClass ("[" ++ (FieldType.array FieldType.int).toString) = some c) | _ => false) == some true)) hf).symm.trans h
      cases h9
    | some cc =>
      have h9 := (congrArg (fun o : Option Nat => (o.bind (fun c => (u.vm.classes[c]?).map fun (k : Class) => match k.kind with | .array _ ty => decide (ty = FieldType.array FieldType.int) && decide (u.vm.findClass ("[" ++ (FieldType.array FieldType.int).toString) = some c) | _ => false) == some true)) hf).symm.trans h
      simp only [Option.bind_some] at h9 ⊢
      cases hk : u.vm.classes[cc]? with
      | none => rw [hk] at h9; cases h9
      | some k =>
        obtain ⟨k', hk', he⟩ := hvm.2.2 _ _ hk
        rw [hk] at h9
        rw [hk']
        have hkind : k'.kind = k.kind := by rw [he]
        simp only [Option.map_some] at h9 ⊢
        rw [hkind, hvm.findClass]
        exact h9
def XE (B : Bd) (U : State) (H : Heap) : Prop :=
  (va_X (ba B 1000000) (bL B) (bX B) U H ∧ ba B 1000000 < bs B ∧ bL B ≤ 3072) ∧
  vk_S 9 slen sbyt (fun i => ba B (1000001 + i)) (fun i => ba B (1000101 + i)) (fr B) U H ∧
  (∀ q ∈ ldcs, vk_R q.1 q.2.1 q.2.2.1 (ba B (1000001 + q.2.2.2)) U) ∧
  (va_Z "java/lang/String" "COMPACT_STRINGS" "Z" (.int 1) (fr B) U H ∧ va_Zq "jdk/internal/util/Preconditions" "SIOOBE_FORMATTER" "Ljava/util/function/BiFunction;" (fr B) U H) ∧
  (vx_Zq Bundle.tN "UNASSIGNED_STACK" Bundle.steD (fr B) U H ∧ vx_Zq Bundle.tN "SUPPRESSED_SENTINEL" Bundle.listD (fr B) U H) ∧
  (∀ q ∈ nests, va_Nw (.methodLinkNest q.1 q.2.1 q.2.2 RX5) U) ∧ (∀ q ∈ ncs, va_Nc q.1 q.2 U) ∧ ((∀ q ∈ excs, va_Nw (.castable q q) U) ∧ ∀ q ∈ sups, va_Nw (.declares (Bundle.initS q)) U) ∧ va_AO RX1 U ∧ AOA U
theorem XE.moved {B : Bd} {s U : State} {H : Heap} (hW : s.WarmedH U.vm) (h : XE B s s.heap) (hS : ∀ a : Nat, a < s.heap.size → ¬ fr B a → H[a]? = s.heap[a]?) : XE B U H := by
  obtain ⟨⟨h1, h1b, h1c⟩, h2, h3, ⟨h4, h5⟩, ⟨h6, h7⟩, h8, h9, ⟨h10, h10b⟩, h11, h12⟩ := h
  have hb : ba B 1000000 < s.heap.size := by
    obtain ⟨scr, q, -⟩ := h1
    exact (Array.getElem?_eq_some_iff.mp q).1
  have hal := hW.alike
  refine ⟨⟨va_X.moved hal (h1.kept (hS _ hb (Nat.not_le.mpr h1b))), h1b, h1c⟩, vk_S.moved hal (h2.kept hS), fun q hq => vk_R.warm hW (h3 q hq), ⟨va_Z.moved hal (h4.kept hS), va_Zq.moved hal (h5.kept hS)⟩, ⟨vx_Zq.moved hal (h6.kept hS), vx_Zq.moved hal (h7.kept hS)⟩, fun q hq => va_Nw.warmM hW (h8 q hq), fun q hq => va_Nc.moved hal (h9 q hq), ⟨fun q hq => va_Nw.warmC hW (h10 q hq), fun q hq => va_Nw.warmD hW (h10b q hq)⟩, va_AO.moved hal h11, h12.moved hal⟩
-- a method: its name, bytes, locals, answer, table
abbrev Mt : Type := MethodName × ByteArray × Nat × Option FieldType × List (Nat × Nat × Nat × Nat)
def Cx (B : Bd) (y : Mt) (d : Nat) (p : Program) (R : Room) (s : State) (m : MethodId) (args : Array Value) (meth : Method) (c : Code) : Prop :=
  (p.tables.exec = Jvm.exec ∧ c.code = y.2.1 ∧ meth.sig.returnType = y.2.2.2.1 ∧ c.maxLocals = y.2.2.1 ∧ s.vm.findClass y.1.cls = some m.cls) ∧
  (∀ w ∈ TB, w.before args s = true) ∧ (meth.locks = false ∧ meth.name = y.1.name ∧ c.exceptionTable.toList = tableOf y.2.2.2.2) ∧
  va_K (bD B) clz (tysM (bA B)) s ∧ XE B s s.heap ∧ (bs B ≤ s.heap.size ∧ Adr B ∧ (bl B).stackTraces = false) ∧ (d ≤ R.frames ∧ 128 * d ≤ R.locals)
abbrev Ot : Type := Option Value ⊕ String
def Qr (B : Bd) (Φ : Ot → Mm → Prop) : Array Value → State → Outcome → State → Prop := fun _ st o t => (∃ (v : Option Value) (M : Mm), o = .returned (v.map (tr (ba B))) ∧ Φ (.inl v) M ∧ Rep B M t.heap) ∧ va_F (fr B) st t
def Qx (B : Bd) (Φ : Ot → Mm → Prop) : String → State → State → Prop := fun E st t => (∃ M : Mm, Φ (.inr E) M ∧ Rep B M t.heap) ∧ va_F (fr B) st t
/-- from here the method y comes to an end that Φ allows; rc, rs: how many cells and slots it may still make -/
def Ev (B : Bd) (y : Mt) (d rc rs : Nat) (Φ : Ot → Mm → Prop) (pc : Nat) (L : Lc) (st : List Value) (M : Mm) : Prop :=
  ∀ (p : Program) (e : Env) (R : Room) (s : State) (m : MethodId) (args : Array Value) (below : List Frame) (meth : Method) (c : Code), Cx B y d p R s m args meth c →
  ∀ (ls : Array Slot) (H : Heap) (locs : List Loc) (cells slots : Nat), LR (ba B) ls y.2.2.1 L → Rep B M H → va_S (fr B) s.heap H locs → cells + rc ≤ R.cells → slots + rs ≤ R.slots →
  W p (bl B) e R s m args below meth c H locs cells slots (vx_MQ below (Qr B Φ) (Qx B Φ) args s R.cells R.slots (fr B)) (F0 m pc ls (st.map (tr (ba B))))
/-- .. with an exception of the class E thrown at pc -/
def EvX (B : Bd) (y : Mt) (d rc rs : Nat) (Φ : Ot → Mm → Prop) (E : String) (pc : Nat) (L : Lc) (M : Mm) : Prop :=
  ∀ (p : Program) (e : Env) (R : Room) (s : State) (m : MethodId) (args : Array Value) (below : List Frame) (meth : Method) (c : Code), Cx B y d p R s m args meth c →
  ∀ (ls : Array Slot) (H : Heap) (locs : List Loc) (cells slots : Nat) (st : List Value) (q : Addr) (ce : Cell), LR (ba B) ls y.2.2.1 L → Rep B M H → va_S (fr B) s.heap H locs → cells + rc ≤ R.cells → slots + rs ≤ R.slots →
  H[q]? = some ce → ce.vm = .none → s.vm.findClass E = some ce.cls →
  vx_W p (bl B) e R s m args below meth c H locs cells slots (vx_MQ below (Qr B Φ) (Qx B Φ) args s R.cells R.slots (fr B)) (F0 m pc ls st) q
def wsY (y : Mt) : List Cond := (match y.2.2.2.2 with
  | [] => Cond.code y.1 y.2.1 y.2.2.1 y.2.2.2.1
  | _ => Cond.codeWith y.1 y.2.1 y.2.2.1 y.2.2.2.1 y.2.2.2.2) :: TB
def Ct (B : Bd) (y : Mt) (d rc rs : Nat) (As : List Value) (M : Mm) (Φ : Ot → Mm → Prop) : Prop :=
  vx_Met (bl B) y.1 (wsY y) ({ frames := d, cells := rc, slots := rs, locals := 128 * d }) (va_Pc (As.map (tr (ba B))) (fun U => Rep B M U.heap ∧ va_K (bD B) clz (tysM (bA B)) U ∧ XE B U U.heap ∧ bs B ≤ U.heap.size ∧ Adr B ∧ (bl B).stackTraces = false)) (Qr B Φ) (Qx B Φ) rc rs (fr B)
end
section
section RL
variable {B : Bd} {y : Mt} {d rc rs : Nat} {Φ : Ot → Mm → Prop} {pc : Nat} {L : Lc} {st : List Value} {M : Mm}
theorem e_iconst {n : Int} {v : Int32} (hd : decode y.2.1 pc = .ok (.iconst n, 1)) (hv : Int32.ofInt n = v) (k : Ev B y d rc rs Φ (pc + 1) L (.int v :: st) M) : Ev B y d rc rs Φ pc L (st) M := by
  intro p e R s m args below meth c C ls H locs cells slots hl hR hS hc hs
  exact lv_iconst C.1.1 C.1.2.1 hd hv (k p e R s m args below meth c C ls H locs cells slots hl hR hS hc hs)
theorem e_bipush {n : Int} {v : Int32} (hd : decode y.2.1 pc = .ok (.bipush n, 2)) (hv : (Int8.ofInt n).toInt32 = v) (k : Ev B y d rc rs Φ (pc + 2) L (.int v :: st) M) : Ev B y d rc rs Φ pc L (st) M := by
  intro p e R s m args below meth c C ls H locs cells slots hl hR hS hc hs
  exact lv_bipush C.1.1 C.1.2.1 hd hv (k p e R s m args below meth c C ls H locs cells slots hl hR hS hc hs)
theorem e_sipush {n : Int} {v : Int32} (hd : decode y.2.1 pc = .ok (.sipush n, 3)) (hv : (Int16.ofInt n).toInt32 = v) (k : Ev B y d rc rs Φ (pc + 3) L (.int v :: st) M) : Ev B y d rc rs Φ pc L (st) M := by
  intro p e R s m args below meth c C ls H locs cells slots hl hR hS hc hs
  exact lv_sipush C.1.1 C.1.2.1 hd hv (k p e R s m args below meth c C ls H locs cells slots hl hR hS hc hs)
theorem e_lconst {n : Fin 2} {v : Int64} (hd : decode y.2.1 pc = .ok (.lconst n, 1)) (hv : Int64.ofNat (n : Nat) = v) (k : Ev B y d rc rs Φ (pc + 1) L (.long v :: st) M) : Ev B y d rc rs Φ pc L (st) M := by
  intro p e R s m args below meth c C ls H locs cells slots hl hR hS hc hs
  exact lv_lconst C.1.1 C.1.2.1 hd hv (k p e R s m args below meth c C ls H locs cells slots hl hR hS hc hs)
theorem e_ldc {i : Nat} {v : Int32} (hd : decode y.2.1 pc = .ok (.ldc i, 2)) (hw : Cond.constant y.1.cls i v ∈ TB) (k : Ev B y d rc rs Φ (pc + 2) L (.int v :: st) M) : Ev B y d rc rs Φ pc L (st) M := by
  intro p e R s m args below meth c C ls H locs cells slots hl hR hS hc hs
  exact lv_ldc C.1.1 C.1.2.1 C.1.2.2.2.2 (C.2.1 _ hw) hd (k p e R s m args below meth c C ls H locs cells slots hl hR hS hc hs)
theorem e_ldcw {i : Nat} {v : Int32} (hd : decode y.2.1 pc = .ok (.ldc_w i, 3)) (hw : Cond.constant y.1.cls i v ∈ TB) (k : Ev B y d rc rs Φ (pc + 3) L (.int v :: st) M) : Ev B y d rc rs Φ pc L (st) M := by
  intro p e R s m args below meth c C ls H locs cells slots hl hR hS hc hs
  exact lv_ldcw C.1.1 C.1.2.1 C.1.2.2.2.2 (C.2.1 _ hw) hd (k p e R s m args below meth c C ls H locs cells slots hl hR hS hc hs)
theorem e_ldc2 {i : Nat} {v : Int64} (hd : decode y.2.1 pc = .ok (.ldc2_w i, 3)) (hw : Cond.constantLong y.1.cls i v ∈ TB) (k : Ev B y d rc rs Φ (pc + 3) L (.long v :: st) M) : Ev B y d rc rs Φ pc L (st) M := by
  intro p e R s m args below meth c C ls H locs cells slots hl hR hS hc hs
  exact lv_ldc2 C.1.1 C.1.2.1 C.1.2.2.2.2 (C.2.1 _ hw) hd (k p e R s m args below meth c C ls H locs cells slots hl hR hS hc hs)
theorem e_ldcS {i k0 : Nat} {tx : String} (hd : decode y.2.1 pc = .ok (.ldc i, 2)) (hw : (y.1.cls, i, tx, k0) ∈ ldcs) (k : Ev B y d rc rs Φ (pc + 2) L (.ref (1000001 + k0) :: st) M) : Ev B y d rc rs Φ pc L (st) M := by
  intro p e R s m args below meth c C ls H locs cells slots hl hR hS hc hs
  exact va_ldcS C.1.1 C.1.2.1 C.1.2.2.2.2 (C.2.2.2.2.1.2.2.1 _ hw) hd (k p e R s m args below meth c C ls H locs cells slots hl hR hS hc hs)
theorem e_iload_n {n : Fin 4} {i : Nat} {x : Int32} (hd : decode y.2.1 pc = .ok (.iload_n n, 1)) (hi : (n : Nat) = i) (hx : L[i]? = some (some (.int x))) (k : Ev B y d rc rs Φ (pc + 1) L (.int x :: st) M) : Ev B y d rc rs Φ pc L (st) M := by
  intro p e R s m args below meth c C ls H locs cells slots hl hR hS hc hs
  exact lv_iload_n C.1.1 C.1.2.1 hd hi (hl.at hx) (k p e R s m args below meth c C ls H locs cells slots hl hR hS hc hs)
theorem e_iload {i : Nat} {x : Int32} (hd : decode y.2.1 pc = .ok (.iload i, 2)) (hx : L[i]? = some (some (.int x))) (k : Ev B y d rc rs Φ (pc + 2) L (.int x :: st) M) : Ev B y d rc rs Φ pc L (st) M := by
  intro p e R s m args below meth c C ls H locs cells slots hl hR hS hc hs
  exact lv_iload C.1.1 C.1.2.1 hd (hl.at hx) (k p e R s m args below meth c C ls H locs cells slots hl hR hS hc hs)
theorem e_lload_n {n : Fin 4} {i : Nat} {x : Int64} (hd : decode y.2.1 pc = .ok (.lload_n n, 1)) (hi : (n : Nat) = i) (hx : L[i]? = some (some (.long x))) (k : Ev B y d rc rs Φ (pc + 1) L (.long x :: st) M) : Ev B y d rc rs Φ pc L (st) M := by
  intro p e R s m args below meth c C ls H locs cells slots hl hR hS hc hs
  exact lv_lload_n C.1.1 C.1.2.1 hd hi (hl.at hx) (k p e R s m args below meth c C ls H locs cells slots hl hR hS hc hs)
theorem e_lload {i : Nat} {x : Int64} (hd : decode y.2.1 pc = .ok (.lload i, 2)) (hx : L[i]? = some (some (.long x))) (k : Ev B y d rc rs Φ (pc + 2) L (.long x :: st) M) : Ev B y d rc rs Φ pc L (st) M := by
  intro p e R s m args below meth c C ls H locs cells slots hl hR hS hc hs
  exact lv_lload C.1.1 C.1.2.1 hd (hl.at hx) (k p e R s m args below meth c C ls H locs cells slots hl hR hS hc hs)
theorem e_aload_n {n : Fin 4} {i x : Nat} (hd : decode y.2.1 pc = .ok (.aload_n n, 1)) (hi : (n : Nat) = i) (hx : L[i]? = some (some (.ref x))) (k : Ev B y d rc rs Φ (pc + 1) L (.ref x :: st) M) : Ev B y d rc rs Φ pc L (st) M := by
  intro p e R s m args below meth c C ls H locs cells slots hl hR hS hc hs
  exact lv_aload_n C.1.1 C.1.2.1 hd hi (hl.at hx) (k p e R s m args below meth c C ls H locs cells slots hl hR hS hc hs)
theorem e_aload {i x : Nat} (hd : decode y.2.1 pc = .ok (.aload i, 2)) (hx : L[i]? = some (some (.ref x))) (k : Ev B y d rc rs Φ (pc + 2) L (.ref x :: st) M) : Ev B y d rc rs Φ pc L (st) M := by
  intro p e R s m args below meth c C ls H locs cells slots hl hR hS hc hs
  exact lv_aload C.1.1 C.1.2.1 hd (hl.at hx) (k p e R s m args below meth c C ls H locs cells slots hl hR hS hc hs)
theorem e_istore_n {n : Fin 4} {i : Nat} {x : Int32} {L' : Lc} (hd : decode y.2.1 pc = .ok (.istore_n n, 1)) (hi : (n : Nat) = i) (hn : i < y.2.2.1) (hg : nlg L i = true) (hL : (L.set i (some (.int x))) = L') (k : Ev B y d rc rs Φ (pc + 1) L' st M) : Ev B y d rc rs Φ pc L (.int x :: st) M := by
  intro p e R s m args below meth c C ls H locs cells slots hl hR hS hc hs
  subst hL
  exact lv_istore_n C.1.1 C.1.2.1 hd hi hl.has hn rfl (fun ls' h' => k p e R s m args below meth c C ls' H locs cells slots (LR.st1 (v := .int x) hg h') hR hS hc hs)
theorem e_istore {i : Nat} {x : Int32} {L' : Lc} (hd : decode y.2.1 pc = .ok (.istore i, 2)) (hn : i < y.2.2.1) (hg : nlg L i = true) (hL : (L.set i (some (.int x))) = L') (k : Ev B y d rc rs Φ (pc + 2) L' st M) : Ev B y d rc rs Φ pc L (.int x :: st) M := by
  intro p e R s m args below meth c C ls H locs cells slots hl hR hS hc hs
  subst hL
  exact lv_istore C.1.1 C.1.2.1 hd hl.has hn rfl (fun ls' h' => k p e R s m args below meth c C ls' H locs cells slots (LR.st1 (v := .int x) hg h') hR hS hc hs)
theorem e_astore_n {n : Fin 4} {i : Nat} {x : Nat} {L' : Lc} (hd : decode y.2.1 pc = .ok (.astore_n n, 1)) (hi : (n : Nat) = i) (hn : i < y.2.2.1) (hg : nlg L i = true) (hL : (L.set i (some (.ref x))) = L') (k : Ev B y d rc rs Φ (pc + 1) L' st M) : Ev B y d rc rs Φ pc L (.ref x :: st) M := by
  intro p e R s m args below meth c C ls H locs cells slots hl hR hS hc hs
  subst hL
  exact lv_astore_n C.1.1 C.1.2.1 hd hi hl.has hn rfl (fun ls' h' => k p e R s m args below meth c C ls' H locs cells slots (LR.st1 (v := .ref x) hg h') hR hS hc hs)
theorem e_astore {i : Nat} {x : Nat} {L' : Lc} (hd : decode y.2.1 pc = .ok (.astore i, 2)) (hn : i < y.2.2.1) (hg : nlg L i = true) (hL : (L.set i (some (.ref x))) = L') (k : Ev B y d rc rs Φ (pc + 2) L' st M) : Ev B y d rc rs Φ pc L (.ref x :: st) M := by
  intro p e R s m args below meth c C ls H locs cells slots hl hR hS hc hs
  subst hL
  exact lv_astore C.1.1 C.1.2.1 hd hl.has hn rfl (fun ls' h' => k p e R s m args below meth c C ls' H locs cells slots (LR.st1 (v := .ref x) hg h') hR hS hc hs)
theorem e_lstore_n {n : Fin 4} {i : Nat} {x : Int64} {L' : Lc} (hd : decode y.2.1 pc = .ok (.lstore_n n, 1)) (hi : (n : Nat) = i) (hn : i + 1 < y.2.2.1) (hg : nlg L i = true) (hL : ((L.set i (some (.long x))).set (i + 1) none) = L') (k : Ev B y d rc rs Φ (pc + 1) L' st M) : Ev B y d rc rs Φ pc L (.long x :: st) M := by
  intro p e R s m args below meth c C ls H locs cells slots hl hR hS hc hs
  subst hL
  exact lv_lstore_n C.1.1 C.1.2.1 hd hi hl.has hn rfl (fun ls' h' => k p e R s m args below meth c C ls' H locs cells slots (LR.st2 (v := .long x) hg h') hR hS hc hs)
theorem e_iinc {i : Nat} {n : Int} {x v : Int32} {L' : Lc} (hd : decode y.2.1 pc = .ok (.iinc i n, 3)) (hx : L[i]? = some (some (.int x))) (hv : x + Int32.ofInt n = v) (hn : i < y.2.2.1) (hg : nlg L i = true) (hL : L.set i (some (.int v)) = L') (k : Ev B y d rc rs Φ (pc + 3) L' st M) : Ev B y d rc rs Φ pc L st M := by
  intro p e R s m args below meth c C ls H locs cells slots hl hR hS hc hs
  subst hL
  obtain ⟨k9, hk9⟩ := List.getElem?_of_mem (lvOf_mem.mpr ⟨_, hx, rfl⟩)
  exact lv_iinc C.1.1 C.1.2.1 hd hl.has (k := k9) hk9 hv hn rfl (fun ls' h' => k p e R s m args below meth c C ls' H locs cells slots (LR.st1 (v := .int v) hg h') hR hS hc hs)
theorem e_iadd {x z : Int32} (hd : decode y.2.1 pc = .ok (.iadd, 1)) (k : Ev B y d rc rs Φ (pc + 1) L (.int (x + z) :: st) M) : Ev B y d rc rs Φ pc L (.int z :: .int x :: st) M := by
  intro p e R s m args below meth c C ls H locs cells slots hl hR hS hc hs
  exact lv_iadd C.1.1 C.1.2.1 hd (k p e R s m args below meth c C ls H locs cells slots hl hR hS hc hs)
theorem e_isub {x z : Int32} (hd : decode y.2.1 pc = .ok (.isub, 1)) (k : Ev B y d rc rs Φ (pc + 1) L (.int (x - z) :: st) M) : Ev B y d rc rs Φ pc L (.int z :: .int x :: st) M := by
  intro p e R s m args below meth c C ls H locs cells slots hl hR hS hc hs
  exact lv_isub C.1.1 C.1.2.1 hd (k p e R s m args below meth c C ls H locs cells slots hl hR hS hc hs)
theorem e_imul {x z : Int32} (hd : decode y.2.1 pc = .ok (.imul, 1)) (k : Ev B y d rc rs Φ (pc + 1) L (.int (x * z) :: st) M) : Ev B y d rc rs Φ pc L (.int z :: .int x :: st) M := by
  intro p e R s m args below meth c C ls H locs cells slots hl hR hS hc hs
  exact lv_imul C.1.1 C.1.2.1 hd (k p e R s m args below meth c C ls H locs cells slots hl hR hS hc hs)
theorem e_iand {x z : Int32} (hd : decode y.2.1 pc = .ok (.iand, 1)) (k : Ev B y d rc rs Φ (pc + 1) L (.int (x &&& z) :: st) M) : Ev B y d rc rs Φ pc L (.int z :: .int x :: st) M := by
  intro p e R s m args below meth c C ls H locs cells slots hl hR hS hc hs
  exact lv_iand C.1.1 C.1.2.1 hd (k p e R s m args below meth c C ls H locs cells slots hl hR hS hc hs)
theorem e_ior {x z : Int32} (hd : decode y.2.1 pc = .ok (.ior, 1)) (k : Ev B y d rc rs Φ (pc + 1) L (.int (x ||| z) :: st) M) : Ev B y d rc rs Φ pc L (.int z :: .int x :: st) M := by
  intro p e R s m args below meth c C ls H locs cells slots hl hR hS hc hs
  exact lv_ior C.1.1 C.1.2.1 hd (k p e R s m args below meth c C ls H locs cells slots hl hR hS hc hs)
theorem e_ixor {x z : Int32} (hd : decode y.2.1 pc = .ok (.ixor, 1)) (k : Ev B y d rc rs Φ (pc + 1) L (.int (x ^^^ z) :: st) M) : Ev B y d rc rs Φ pc L (.int z :: .int x :: st) M := by
  intro p e R s m args below meth c C ls H locs cells slots hl hR hS hc hs
  exact lv_ixor C.1.1 C.1.2.1 hd (k p e R s m args below meth c C ls H locs cells slots hl hR hS hc hs)
theorem e_ishl {x z : Int32} (hd : decode y.2.1 pc = .ok (.ishl, 1)) (k : Ev B y d rc rs Φ (pc + 1) L (.int (x <<< (z &&& 31)) :: st) M) : Ev B y d rc rs Φ pc L (.int z :: .int x :: st) M := by
  intro p e R s m args below meth c C ls H locs cells slots hl hR hS hc hs
  exact lv_ishl C.1.1 C.1.2.1 hd (k p e R s m args below meth c C ls H locs cells slots hl hR hS hc hs)
theorem e_ishr {x z : Int32} (hd : decode y.2.1 pc = .ok (.ishr, 1)) (k : Ev B y d rc rs Φ (pc + 1) L (.int (x >>> (z &&& 31)) :: st) M) : Ev B y d rc rs Φ pc L (.int z :: .int x :: st) M := by
  intro p e R s m args below meth c C ls H locs cells slots hl hR hS hc hs
  exact lv_ishr C.1.1 C.1.2.1 hd (k p e R s m args below meth c C ls H locs cells slots hl hR hS hc hs)
theorem e_irem {x z : Int32} (hd : decode y.2.1 pc = .ok (.irem, 1)) (hz : ¬ z = 0) (k : Ev B y d rc rs Φ (pc + 1) L (.int (x - x / z * z) :: st) M) : Ev B y d rc rs Φ pc L (.int z :: .int x :: st) M := by
  intro p e R s m args below meth c C ls H locs cells slots hl hR hS hc hs
  exact lv_irem C.1.1 C.1.2.1 hd hz (k p e R s m args below meth c C ls H locs cells slots hl hR hS hc hs)
theorem e_iushr {x z : Int32} (hd : decode y.2.1 pc = .ok (.iushr, 1)) (k : Ev B y d rc rs Φ (pc + 1) L (.int ((x.toUInt32 >>> (z.toUInt32 &&& Int32.toUInt32 31)).toInt32) :: st) M) : Ev B y d rc rs Φ pc L (.int z :: .int x :: st) M := by
  intro p e R s m args below meth c C ls H locs cells slots hl hR hS hc hs
  exact lv_iushr C.1.1 C.1.2.1 hd rfl (k p e R s m args below meth c C ls H locs cells slots hl hR hS hc hs)
theorem e_ladd {x z : Int64} (hd : decode y.2.1 pc = .ok (.ladd, 1)) (k : Ev B y d rc rs Φ (pc + 1) L (.long (x + z) :: st) M) : Ev B y d rc rs Φ pc L (.long z :: .long x :: st) M := by
  intro p e R s m args below meth c C ls H locs cells slots hl hR hS hc hs
  exact lv_ladd C.1.1 C.1.2.1 hd (k p e R s m args below meth c C ls H locs cells slots hl hR hS hc hs)
theorem e_lmul {x z : Int64} (hd : decode y.2.1 pc = .ok (.lmul, 1)) (k : Ev B y d rc rs Φ (pc + 1) L (.long (x * z) :: st) M) : Ev B y d rc rs Φ pc L (.long z :: .long x :: st) M := by
  intro p e R s m args below meth c C ls H locs cells slots hl hR hS hc hs
  exact lv_lmul C.1.1 C.1.2.1 hd (k p e R s m args below meth c C ls H locs cells slots hl hR hS hc hs)
theorem e_lcmp {x z : Int64} (hd : decode y.2.1 pc = .ok (.lcmp, 1)) (k : Ev B y d rc rs Φ (pc + 1) L (.int (lg_cmp x z) :: st) M) : Ev B y d rc rs Φ pc L (.long z :: .long x :: st) M := by
  intro p e R s m args below meth c C ls H locs cells slots hl hR hS hc hs
  exact W.lcmp C.1.1 C.1.2.1 hd (k p e R s m args below meth c C ls H locs cells slots hl hR hS hc hs)
theorem e_i2l {x : Int32} (hd : decode y.2.1 pc = .ok (.i2l, 1)) (k : Ev B y d rc rs Φ (pc + 1) L (.long x.toInt64 :: st) M) : Ev B y d rc rs Φ pc L (.int x :: st) M := by
  intro p e R s m args below meth c C ls H locs cells slots hl hR hS hc hs
  exact lv_i2l C.1.1 C.1.2.1 hd rfl (k p e R s m args below meth c C ls H locs cells slots hl hR hS hc hs)
theorem e_l2i {x : Int64} (hd : decode y.2.1 pc = .ok (.l2i, 1)) (k : Ev B y d rc rs Φ (pc + 1) L (.int x.toInt32 :: st) M) : Ev B y d rc rs Φ pc L (.long x :: st) M := by
  intro p e R s m args below meth c C ls H locs cells slots hl hR hS hc hs
  exact lv_l2i C.1.1 C.1.2.1 hd rfl (k p e R s m args below meth c C ls H locs cells slots hl hR hS hc hs)
theorem e_i2b {x : Int32} (hd : decode y.2.1 pc = .ok (.i2b, 1)) (k : Ev B y d rc rs Φ (pc + 1) L (.int x.toInt8.toInt32 :: st) M) : Ev B y d rc rs Φ pc L (.int x :: st) M := by
  intro p e R s m args below meth c C ls H locs cells slots hl hR hS hc hs
  exact lv_i2b C.1.1 C.1.2.1 hd rfl (k p e R s m args below meth c C ls H locs cells slots hl hR hS hc hs)
theorem e_i2c {x : Int32} (hd : decode y.2.1 pc = .ok (.i2c, 1)) (k : Ev B y d rc rs Φ (pc + 1) L (.int (x.toUInt32 % 65536).toInt32 :: st) M) : Ev B y d rc rs Φ pc L (.int x :: st) M := by
  intro p e R s m args below meth c C ls H locs cells slots hl hR hS hc hs
  exact lv_i2c C.1.1 C.1.2.1 hd rfl (k p e R s m args below meth c C ls H locs cells slots hl hR hS hc hs)
theorem e_dup {v : Value} (hd : decode y.2.1 pc = .ok (.dup, 1)) (hv : v.category = 1) (k : Ev B y d rc rs Φ (pc + 1) L (v :: v :: st) M) : Ev B y d rc rs Φ pc L (v :: st) M := by
  intro p e R s m args below meth c C ls H locs cells slots hl hR hS hc hs
  exact lv_dup C.1.1 C.1.2.1 hd ((tr_cat _ _).trans hv) (k p e R s m args below meth c C ls H locs cells slots hl hR hS hc hs)
theorem e_pop {v : Value} (hd : decode y.2.1 pc = .ok (.pop, 1)) (hv : v.category = 1) (k : Ev B y d rc rs Φ (pc + 1) L (st) M) : Ev B y d rc rs Φ pc L (v :: st) M := by
  intro p e R s m args below meth c C ls H locs cells slots hl hR hS hc hs
  exact lv_pop C.1.1 C.1.2.1 hd ((tr_cat _ _).trans hv) (k p e R s m args below meth c C ls H locs cells slots hl hR hS hc hs)
theorem e_dup2 {v w : Value} (hd : decode y.2.1 pc = .ok (.dup2, 1)) (hv : v.category = 1) (hw : w.category = 1) (k : Ev B y d rc rs Φ (pc + 1) L (v :: w :: v :: w :: st) M) : Ev B y d rc rs Φ pc L (v :: w :: st) M := by
  intro p e R s m args below meth c C ls H locs cells slots hl hR hS hc hs
  exact lv_dup2_11 C.1.1 C.1.2.1 hd ((tr_cat _ _).trans hv) ((tr_cat _ _).trans hw) (k p e R s m args below meth c C ls H locs cells slots hl hR hS hc hs)
theorem e_if_eq {x : Int32} {off : Int} {tgt : Nat} (hd : decode y.2.1 pc = .ok (.ifCond .eq off, 3)) (ht : (pc : Int) + off = (tgt : Int)) (kt : x = 0 → Ev B y d rc rs Φ tgt L st M) (kf : ¬ (x = 0) → Ev B y d rc rs Φ (pc + 3) L st M) : Ev B y d rc rs Φ pc L (.int x :: st) M := by
  intro p e R s m args below meth c C ls H locs cells slots hl hR hS hc hs
  exact lv_if_eq C.1.1 C.1.2.1 hd ht (fun h => kt h p e R s m args below meth c C ls H locs cells slots hl hR hS hc hs) (fun h => kf h p e R s m args below meth c C ls H locs cells slots hl hR hS hc hs)
theorem e_if_ne {x : Int32} {off : Int} {tgt : Nat} (hd : decode y.2.1 pc = .ok (.ifCond .ne off, 3)) (ht : (pc : Int) + off = (tgt : Int)) (kt : ¬ x = 0 → Ev B y d rc rs Φ tgt L st M) (kf : x = 0 → Ev B y d rc rs Φ (pc + 3) L st M) : Ev B y d rc rs Φ pc L (.int x :: st) M := by
  intro p e R s m args below meth c C ls H locs cells slots hl hR hS hc hs
  exact lv_if_ne C.1.1 C.1.2.1 hd ht (fun h => kt h p e R s m args below meth c C ls H locs cells slots hl hR hS hc hs) (fun h => kf h p e R s m args below meth c C ls H locs cells slots hl hR hS hc hs)
theorem e_if_lt {x : Int32} {off : Int} {tgt : Nat} (hd : decode y.2.1 pc = .ok (.ifCond .lt off, 3)) (ht : (pc : Int) + off = (tgt : Int)) (kt : x < 0 → Ev B y d rc rs Φ tgt L st M) (kf : ¬ (x < 0) → Ev B y d rc rs Φ (pc + 3) L st M) : Ev B y d rc rs Φ pc L (.int x :: st) M := by
  intro p e R s m args below meth c C ls H locs cells slots hl hR hS hc hs
  exact lv_if_lt C.1.1 C.1.2.1 hd ht (fun h => kt h p e R s m args below meth c C ls H locs cells slots hl hR hS hc hs) (fun h => kf h p e R s m args below meth c C ls H locs cells slots hl hR hS hc hs)
theorem e_if_ge {x : Int32} {off : Int} {tgt : Nat} (hd : decode y.2.1 pc = .ok (.ifCond .ge off, 3)) (ht : (pc : Int) + off = (tgt : Int)) (kt : 0 ≤ x → Ev B y d rc rs Φ tgt L st M) (kf : ¬ (0 ≤ x) → Ev B y d rc rs Φ (pc + 3) L st M) : Ev B y d rc rs Φ pc L (.int x :: st) M := by
  intro p e R s m args below meth c C ls H locs cells slots hl hR hS hc hs
  exact lv_if_ge C.1.1 C.1.2.1 hd ht (fun h => kt h p e R s m args below meth c C ls H locs cells slots hl hR hS hc hs) (fun h => kf h p e R s m args below meth c C ls H locs cells slots hl hR hS hc hs)
theorem e_if_gt {x : Int32} {off : Int} {tgt : Nat} (hd : decode y.2.1 pc = .ok (.ifCond .gt off, 3)) (ht : (pc : Int) + off = (tgt : Int)) (kt : 0 < x → Ev B y d rc rs Φ tgt L st M) (kf : ¬ (0 < x) → Ev B y d rc rs Φ (pc + 3) L st M) : Ev B y d rc rs Φ pc L (.int x :: st) M := by
  intro p e R s m args below meth c C ls H locs cells slots hl hR hS hc hs
  exact lv_if_gt C.1.1 C.1.2.1 hd ht (fun h => kt h p e R s m args below meth c C ls H locs cells slots hl hR hS hc hs) (fun h => kf h p e R s m args below meth c C ls H locs cells slots hl hR hS hc hs)
theorem e_if_le {x : Int32} {off : Int} {tgt : Nat} (hd : decode y.2.1 pc = .ok (.ifCond .le off, 3)) (ht : (pc : Int) + off = (tgt : Int)) (kt : x ≤ 0 → Ev B y d rc rs Φ tgt L st M) (kf : ¬ (x ≤ 0) → Ev B y d rc rs Φ (pc + 3) L st M) : Ev B y d rc rs Φ pc L (.int x :: st) M := by
  intro p e R s m args below meth c C ls H locs cells slots hl hR hS hc hs
  exact lv_if_le C.1.1 C.1.2.1 hd ht (fun h => kt h p e R s m args below meth c C ls H locs cells slots hl hR hS hc hs) (fun h => kf h p e R s m args below meth c C ls H locs cells slots hl hR hS hc hs)
theorem e_icmp_eq {x z : Int32} {off : Int} {tgt : Nat} (hd : decode y.2.1 pc = .ok (.if_icmp .eq off, 3)) (ht : (pc : Int) + off = (tgt : Int)) (kt : x = z → Ev B y d rc rs Φ tgt L st M) (kf : ¬ (x = z) → Ev B y d rc rs Φ (pc + 3) L st M) : Ev B y d rc rs Φ pc L (.int z :: .int x :: st) M := by
  intro p e R s m args below meth c C ls H locs cells slots hl hR hS hc hs
  exact lv_icmp_eq C.1.1 C.1.2.1 hd ht (fun h => kt h p e R s m args below meth c C ls H locs cells slots hl hR hS hc hs) (fun h => kf h p e R s m args below meth c C ls H locs cells slots hl hR hS hc hs)
theorem e_icmp_ne {x z : Int32} {off : Int} {tgt : Nat} (hd : decode y.2.1 pc = .ok (.if_icmp .ne off, 3)) (ht : (pc : Int) + off = (tgt : Int)) (kt : ¬ x = z → Ev B y d rc rs Φ tgt L st M) (kf : x = z → Ev B y d rc rs Φ (pc + 3) L st M) : Ev B y d rc rs Φ pc L (.int z :: .int x :: st) M := by
  intro p e R s m args below meth c C ls H locs cells slots hl hR hS hc hs
  exact lv_icmp_ne C.1.1 C.1.2.1 hd ht (fun h => kt h p e R s m args below meth c C ls H locs cells slots hl hR hS hc hs) (fun h => kf h p e R s m args below meth c C ls H locs cells slots hl hR hS hc hs)
theorem e_icmp_lt {x z : Int32} {off : Int} {tgt : Nat} (hd : decode y.2.1 pc = .ok (.if_icmp .lt off, 3)) (ht : (pc : Int) + off = (tgt : Int)) (kt : x < z → Ev B y d rc rs Φ tgt L st M) (kf : ¬ (x < z) → Ev B y d rc rs Φ (pc + 3) L st M) : Ev B y d rc rs Φ pc L (.int z :: .int x :: st) M := by
  intro p e R s m args below meth c C ls H locs cells slots hl hR hS hc hs
  exact lv_icmp_lt C.1.1 C.1.2.1 hd ht (fun h => kt h p e R s m args below meth c C ls H locs cells slots hl hR hS hc hs) (fun h => kf h p e R s m args below meth c C ls H locs cells slots hl hR hS hc hs)
theorem e_icmp_ge {x z : Int32} {off : Int} {tgt : Nat} (hd : decode y.2.1 pc = .ok (.if_icmp .ge off, 3)) (ht : (pc : Int) + off = (tgt : Int)) (kt : z ≤ x → Ev B y d rc rs Φ tgt L st M) (kf : ¬ (z ≤ x) → Ev B y d rc rs Φ (pc + 3) L st M) : Ev B y d rc rs Φ pc L (.int z :: .int x :: st) M := by
  intro p e R s m args below meth c C ls H locs cells slots hl hR hS hc hs
  exact lv_icmp_ge C.1.1 C.1.2.1 hd ht (fun h => kt h p e R s m args below meth c C ls H locs cells slots hl hR hS hc hs) (fun h => kf h p e R s m args below meth c C ls H locs cells slots hl hR hS hc hs)
theorem e_icmp_gt {x z : Int32} {off : Int} {tgt : Nat} (hd : decode y.2.1 pc = .ok (.if_icmp .gt off, 3)) (ht : (pc : Int) + off = (tgt : Int)) (kt : z < x → Ev B y d rc rs Φ tgt L st M) (kf : ¬ (z < x) → Ev B y d rc rs Φ (pc + 3) L st M) : Ev B y d rc rs Φ pc L (.int z :: .int x :: st) M := by
  intro p e R s m args below meth c C ls H locs cells slots hl hR hS hc hs
  exact lv_icmp_gt C.1.1 C.1.2.1 hd ht (fun h => kt h p e R s m args below meth c C ls H locs cells slots hl hR hS hc hs) (fun h => kf h p e R s m args below meth c C ls H locs cells slots hl hR hS hc hs)
theorem e_icmp_le {x z : Int32} {off : Int} {tgt : Nat} (hd : decode y.2.1 pc = .ok (.if_icmp .le off, 3)) (ht : (pc : Int) + off = (tgt : Int)) (kt : x ≤ z → Ev B y d rc rs Φ tgt L st M) (kf : ¬ (x ≤ z) → Ev B y d rc rs Φ (pc + 3) L st M) : Ev B y d rc rs Φ pc L (.int z :: .int x :: st) M := by
  intro p e R s m args below meth c C ls H locs cells slots hl hR hS hc hs
  exact lv_icmp_le C.1.1 C.1.2.1 hd ht (fun h => kt h p e R s m args below meth c C ls H locs cells slots hl hR hS hc hs) (fun h => kf h p e R s m args below meth c C ls H locs cells slots hl hR hS hc hs)
theorem e_goto {off : Int} {tgt : Nat} (hd : decode y.2.1 pc = .ok (.goto off, 3)) (ht : (pc : Int) + off = (tgt : Int)) (k : Ev B y d rc rs Φ tgt L st M) : Ev B y d rc rs Φ pc L st M := by
  intro p e R s m args below meth c C ls H locs cells slots hl hR hS hc hs
  exact lv_goto C.1.1 C.1.2.1 hd ht (k p e R s m args below meth c C ls H locs cells slots hl hR hS hc hs)
theorem e_swIn {dflt lo hi : Int} {offs : Array Int} {len : Nat} {x : Int32} {off : Int} {tgt : Nat} (hd : decode y.2.1 pc = .ok (.tableswitch dflt lo hi offs, len)) (h1 : ¬ x.toInt < lo) (h2 : ¬ hi < x.toInt) (ho : offs[(x.toInt - lo).toNat]? = some off) (ht : (pc : Int) + off = (tgt : Int)) (k : Ev B y d rc rs Φ tgt L st M) : Ev B y d rc rs Φ pc L (.int x :: st) M := by
  intro p e R s m args below meth c C ls H locs cells slots hl hR hS hc hs
  exact lv_tableIn C.1.1 C.1.2.1 hd h1 h2 ho ht (k p e R s m args below meth c C ls H locs cells slots hl hR hS hc hs)
theorem e_swOut {dflt lo hi : Int} {offs : Array Int} {len : Nat} {x : Int32} {tgt : Nat} (hd : decode y.2.1 pc = .ok (.tableswitch dflt lo hi offs, len)) (h : x.toInt < lo ∨ hi < x.toInt) (ht : (pc : Int) + dflt = (tgt : Int)) (k : Ev B y d rc rs Φ tgt L st M) : Ev B y d rc rs Φ pc L (.int x :: st) M := by
  intro p e R s m args below meth c C ls H locs cells slots hl hR hS hc hs
  exact lv_tableOut C.1.1 C.1.2.1 hd h ht (k p e R s m args below meth c C ls H locs cells slots hl hR hS hc hs)
end RL
end
section
def Rz (ci : Nat) : String := match ci with
  | 0 => RX0
  | 1 => RX1
  | 2 => RX2
  | 3 => RX3
  | 4 => RX4
  | 5 => RX5
  | _ => RX6
def Tz (ci : Nat) : u_T := match ci with
  | 0 => TX0
  | 1 => TX1
  | 2 => TX2
  | 3 => TX3
  | 4 => TX4
  | 5 => TX5
  | _ => TX6
theorem clz_get {ci : Nat} (h : ci < 7) : clz[ci]? = some (Rz ci, Tz ci, cNz ci) := by
  match ci, h with
  | 0, _ => rfl
  | 1, _ => rfl
  | 2, _ => rfl
  | 3, _ => rfl
  | 4, _ => rfl
  | 5, _ => rfl
  | 6, _ => rfl
  | n + 7, h => omega
theorem tyz_ok {ci : Nat} (h : ci < 7) : ∀ k, k < cNz ci → parseFieldDescriptor (Tz ci k).2.2.1 = some (tyz ci k) := by
  match ci, h with
  | 0, _ => exact tyX0_ok
  | 1, _ => exact tyX1_ok
  | 2, _ => exact tyX2_ok
  | 3, _ => exact tyX3_ok
  | 4, _ => exact tyX4_ok
  | 5, _ => exact tyX5_ok
  | 6, _ => exact tyX6_ok
  | n + 7, h => omega
theorem nmz_ok {ci : Nat} (h : ci < 7) : ∀ a, a < cNz ci → ∀ b, b < cNz ci → a ≠ b → (Tz ci a).2.1 ≠ (Tz ci b).2.1 := by
  match ci, h with
  | 0, _ => exact nmX0
  | 1, _ => exact nmX1
  | 2, _ => exact nmX2
  | 3, _ => exact nmX3
  | 4, _ => exact nmX4
  | 5, _ => exact nmX5
  | 6, _ => exact nmX6
  | n + 7, h => omega
theorem uwz0 : ∀ w ∈ u_ws RX0 TX0 8, w ∈ TB := by decide +kernel
theorem uwz1 : ∀ w ∈ u_ws RX1 TX1 5, w ∈ TB := by decide +kernel
theorem uwz2 : ∀ w ∈ u_ws RX2 TX2 4, w ∈ TB := by decide +kernel
theorem uwz3 : ∀ w ∈ u_ws RX3 TX3 8, w ∈ TB := by decide +kernel
theorem uwz4 : ∀ w ∈ u_ws RX4 TX4 9, w ∈ TB := by decide +kernel
theorem uwz5 : ∀ w ∈ u_ws RX5 TX5 12, w ∈ TB := by decide +kernel
theorem uwz6 : ∀ w ∈ u_ws RX6 TX6 27, w ∈ TB := by decide +kernel
theorem uwz {ci : Nat} (h : ci < 7) : ∀ w ∈ u_ws (Rz ci) (Tz ci) (cNz ci), w ∈ TB := by
  match ci, h with
  | 0, _ => exact uwz0
  | 1, _ => exact uwz1
  | 2, _ => exact uwz2
  | 3, _ => exact uwz3
  | 4, _ => exact uwz4
  | 5, _ => exact uwz5
  | 6, _ => exact uwz6
  | n + 7, h => omega
/-- a field's place in a constant pool: the class' number and the field's -/
def Fs (own : String) (i ci k : Nat) : Prop := ci < 7 ∧ k < cNz ci ∧ Cond.fieldLink own i (Tz ci k).1 (Tz ci k).2.1 (Tz ci k).2.2.1 ∈ TB
theorem fls_get {ad : Nat → Nat} {M : Mm} {ci a k : Nat} (h : k < cNz ci) : (fls ad M ci a)[k]? = some (fvl ad M ci a k) := by
  unfold fls
  rw [List.getElem?_map, List.getElem?_range h]; rfl
theorem fls_len {ad : Nat → Nat} {M : Mm} {ci a : Nat} : (fls ad M ci a).length = cNz ci := by
  unfold fls; rw [List.length_map, List.length_range]
theorem fls_set {ad : Nat → Nat} {M M' : Mm} {ci a k : Nat} (hk : k < cNz ci) (h : ∀ j, j ≠ k → fvl ad M' ci a j = fvl ad M ci a j) : (fls ad M ci a).set k (fvl ad M' ci a k) = fls ad M' ci a := by
  apply List.ext_getElem?
  intro j
  by_cases hj : j = k
  · subst hj
    rw [List.getElem?_set_self (by rw [fls_len]; exact hk), fls_get hk]
  · rw [List.getElem?_set_ne (Ne.symm hj)]
    unfold fls
    rw [List.getElem?_map, List.getElem?_map]
    by_cases hl : j < cNz ci
    · rw [List.getElem?_range hl]
      simp only [Option.map_some]
      rw [h j hj]
    · rw [List.getElem?_eq_none (by rw [List.length_range]; omega)]; rfl
section RH
variable {B : Bd} {y : Mt} {d rc rs : Nat} {Φ : Ot → Mm → Prop} {pc : Nat} {L : Lc} {st : List Value} {M : Mm}
theorem e_getV {i ci k a : Nat} {v : Value} (hd : decode y.2.1 pc = .ok (.getfield i, 3)) (hf : Fs y.1.cls i ci k) (ha : M.1.1[a]? = some (.inl ci)) (hv : ∀ ad, fvl ad M ci a k = tr ad v) (kk : Ev B y d rc rs Φ (pc + 3) L (v :: st) M) : Ev B y d rc rs Φ pc L (.ref a :: st) M := by
  intro p e R s m args below meth c C ls H locs cells slots hl hR hS hc hs
  exact va_get (ref := (Tz ci k).1) C.1.1 C.1.2.1 C.2.1 (uwz hf.1) C.1.2.2.2.2 C.2.2.2.1 hR.1 a (wsM_get ha) (clz_get hf.1) k hf.2.1 (C.2.1 _ hf.2.2) (fun _ h => h) ((fls_get hf.2.1).trans (congrArg some (hv _))) hd (kk p e R s m args below meth c C ls H locs cells slots hl hR hS hc hs)
theorem e_getI {i ci k a : Nat} (hd : decode y.2.1 pc = .ok (.getfield i, 3)) (hf : Fs y.1.cls i ci k) (ha : M.1.1[a]? = some (.inl ci)) (hv : ∀ ad, fvl ad M ci a k = .int (M.2.1 a k)) (kk : Ev B y d rc rs Φ (pc + 3) L (.int (M.2.1 a k) :: st) M) : Ev B y d rc rs Φ pc L (.ref a :: st) M := e_getV (v := .int (M.2.1 a k)) hd hf ha hv kk
theorem e_getR {i ci k a b : Nat} (hd : decode y.2.1 pc = .ok (.getfield i, 3)) (hf : Fs y.1.cls i ci k) (ha : M.1.1[a]? = some (.inl ci)) (hr : M.2.2.2 a k = some b) (hv : ∀ ad, fvl ad M ci a k = va_rf ((M.2.2.2 a k).map ad)) (kk : Ev B y d rc rs Φ (pc + 3) L (.ref b :: st) M) : Ev B y d rc rs Φ pc L (.ref a :: st) M := e_getV (v := .ref b) hd hf ha (fun ad => (hv ad).trans (by rw [hr]; rfl)) kk
theorem e_putV {i ci k a : Nat} {v : Value} {M' : Mm} (hd : decode y.2.1 pc = .ok (.putfield i, 3)) (hf : Fs y.1.cls i ci k) (ha : M.1.1[a]? = some (.inl ci)) (hfin : (Tz ci k).2.2.2 = false ∨ ((Tz ci k).2.2.2 = true ∧ y.1.name = "<init>" ∧ (Tz ci k).1 = y.1.cls)) (hn : ∀ ad, narrow (tyz ci k) (tr ad v) = tr ad v ∧ fits (tyz ci k) (tr ad v) = true)
    (h1 : M'.1 = M.1) (h2 : ∀ j, j ≠ a → M'.2.1 j = M.2.1 j ∧ M'.2.2.1 j = M.2.2.1 j ∧ M'.2.2.2 j = M.2.2.2 j) (h3 : ∀ ad, fvl ad M' ci a k = tr ad v) (h4 : ∀ ad j, j ≠ k → fvl ad M' ci a j = fvl ad M ci a j)
    (kk : Ev B y d rc rs Φ (pc + 3) L st M') : Ev B y d rc rs Φ pc L (v :: .ref a :: st) M := by
  intro p e R s m args below meth c C ls H locs cells slots hl hR hS hc hs
  have hD := wsM_D C.2.2.2.2.2.1.2.1 hR
  have hap := va_apart (own := y.1.cls) C.2.1 (uwz hf.1) (tyz ci) (tyz_ok hf.1) (nmz_ok hf.1) C.2.2.2.1 (clz_get hf.1)
  have he := wsM_get (dA := bA B) (ad := ba B) ha
  obtain ⟨r, g1, cell, q1, q2, q3, q4⟩ := hR.1 a _ he
  have hr : r = (Rz ci, Tz ci, cNz ci) := Option.some.inj (g1.symm.trans (clz_get hf.1))
  subst hr
  obtain ⟨hSl, hfc, kC, hkC, hkind⟩ := C.2.2.2.1.1 ci _ (clz_get hf.1)
  obtain ⟨cf, kf, fi, f, hi, hsl⟩ := hSl k hf.2.1
  have hst := (u_facts hfc hkC (u_lays C.2.1 (uwz hf.1) hf.2.1) hi).1
  have hlay := C.2.1 _ (uwz hf.1 _ (u_in_lay hf.2.1))
  have fin : ∀ H1 : Heap, H1[ba B a]? = some (cell.setSlot f.slot (tr (ba B) v)) → H1.size = H.size → (∀ q, q ≠ ba B a → H1[q]? = H[q]?) → W p (bl B) e R s m args below meth c H1 (locs ++ [⟨ba B a, f.slot⟩]) cells slots (vx_MQ below (Qr B Φ) (Qx B Φ) args s R.cells R.slots (fr B)) (F0 m (pc + 3) ls (st.map (tr (ba B)))) := by
    intro H1 e1 e2 e3
    rw [hsl] at e1 ⊢
    refine kk p e R s m args below meth c C ls H1 _ cells slots hl (hR.put h1 ha h2 ?_ e2) (hS.put e2 e3 (hD.2 a _ he)) hc hs
    refine hR.1.set hD he ?_ e3
    have hset : ent (bA B) (ba B) M' a (.inl ci) = .inr (ci, (fls (ba B) M ci a).set k (tr (ba B) v)) := by
      show (Sum.inr (ci, fls (ba B) M' ci a) : va_E) = _
      rw [← h3 (ba B), fls_set hf.2.1 (h4 (ba B))]
    rw [hset]
    exact ⟨_, clz_get hf.1, t_OB.to (V := updV (vp_V (fls (ba B) M ci a)) k (tr (ba B) v)) ⟨_, e1, q2, q3, t_set q4 hap hf.2.1 _⟩ (fun j _ => vp_updV_set (by rw [fls_len]; exact hf.2.1) _ j)⟩
  have hd' := tyz_ok hf.1 k hf.2.1
  rcases hfin with hfin | ⟨hfin, hini, hdecl⟩
  · unfold u_lay at hlay
    rw [if_neg (by rw [hfin]; decide)] at hlay
    have h6 := u_store hfc hkC hkind hlay hi hd' (hn (ba B)).1 (hn (ba B)).2
    exact W.putK C.1.1 C.1.2.1 (f := f) ⟨C.1.2.2.2.2, C.2.1 _ hf.2.2, ⟨_, _, _, hi⟩, hst⟩ (by rw [q2]; exact h6) q1 q3 (by rw [hsl]; exact k2_hasslot (q4 k hf.2.1)) rfl rfl hd fin
  · unfold u_lay at hlay
    rw [if_pos hfin] at hlay
    have hcf : m.cls = cf := by
      obtain ⟨_, _, c', _, _, _, -, -, hf', -, -, -, hown2, -⟩ := Cond.laysFinal_spec hlay
      have e1 : c' = cf := by have := hi.symm.trans hf'; simp at this; exact this.1.symm
      rw [hdecl] at hown2
      rw [← e1]; exact Option.some.inj (C.1.2.2.2.2.symm.trans hown2)
    have h6 := u_fits hfc hkC hkind (Or.inr hlay) hi hd' (hn (ba B)).1 (hn (ba B)).2
    exact W.putFinK C.1.1 C.1.2.1 C.1.2.2.2.2 (C.2.1 _ hf.2.2) hi hst hcf (C.2.2.1.2.1.trans hini) (by rw [q2]; exact h6) q1 q3 (by rw [hsl]; exact k2_hasslot (q4 k hf.2.1)) rfl rfl hd fin
theorem e_putI {i ci k a : Nat} {x : Int32} (hd : decode y.2.1 pc = .ok (.putfield i, 3)) (hf : Fs y.1.cls i ci k) (ha : M.1.1[a]? = some (.inl ci)) (hfin : (Tz ci k).2.2.2 = false) (hn : narrow (tyz ci k) (.int x) = .int x) (hft : fits (tyz ci k) (.int x) = true)
    (hv : ∀ ad N, fvl ad N ci a k = .int (N.2.1 a k)) (kk : Ev B y d rc rs Φ (pc + 3) L st (sI M a k x)) : Ev B y d rc rs Φ pc L (.int x :: .ref a :: st) M := by
  refine e_putV (v := .int x) (M' := sI M a k x) hd hf ha (Or.inl hfin) (fun ad => ⟨hn, hft⟩) rfl (fun j hj => ⟨u2_ne _ _ _ hj, rfl, rfl⟩) (fun ad => ?_) (fun ad j hj => ?_) kk
  · rw [hv]
    show Value.int (u2 M.2.1 a k x a k) = _
    rw [u2_self]; simp; rfl
  · have e1 : (sI M a k x).2.1 a j = M.2.1 a j := by
      show u2 M.2.1 a k x a j = _
      rw [u2_self]; simp [hj]
    unfold fvl
    rw [e1]; rfl
theorem e_putR {i ci k a b : Nat} (hd : decode y.2.1 pc = .ok (.putfield i, 3)) (hf : Fs y.1.cls i ci k) (ha : M.1.1[a]? = some (.inl ci)) (hfin : (Tz ci k).2.2.2 = false ∨ ((Tz ci k).2.2.2 = true ∧ y.1.name = "<init>" ∧ (Tz ci k).1 = y.1.cls)) (hn : ∀ q, narrow (tyz ci k) (.ref q) = .ref q ∧ fits (tyz ci k) (.ref q) = true)
    (hv : ∀ ad N, fvl ad N ci a k = va_rf ((N.2.2.2 a k).map ad)) (kk : Ev B y d rc rs Φ (pc + 3) L st (sR M a k (some b))) : Ev B y d rc rs Φ pc L (.ref b :: .ref a :: st) M := by
  refine e_putV (v := .ref b) (M' := sR M a k (some b)) hd hf ha hfin (fun ad => hn (ad b)) rfl (fun j hj => ⟨rfl, rfl, u2_ne _ _ _ hj⟩) (fun ad => ?_) (fun ad j hj => ?_) kk
  · rw [hv]
    show va_rf ((u2 M.2.2.2 a k (some b) a k).map ad) = _
    rw [u2_self]; simp; rfl
  · have e1 : (sR M a k (some b)).2.2.2 a j = M.2.2.2 a j := by
      show u2 M.2.2.2 a k (some b) a j = _
      rw [u2_self]; simp [hj]
    unfold fvl
    rw [e1]; rfl
theorem e_iaload {a n : Nat} {i : Int32} (hd : decode y.2.1 pc = .ok (.iaload, 1)) (ha : M.1.1[a]? = some (.inr (.int, n))) (hin : vp_in i n) (k : Ev B y d rc rs Φ (pc + 1) L (.int (M.2.1 a i.toNatClampNeg) :: st) M) : Ev B y d rc rs Φ pc L (.int i :: .ref a :: st) M := by
  intro p e R s m args below meth c C ls H locs cells slots hl hR hS hc hs
  exact va_iald C.1.1 C.1.2.1 C.2.2.2.1 hR.1 a 0 (wsM_get ha) rfl hin hd (k p e R s m args below meth c C ls H locs cells slots hl hR hS hc hs)
theorem e_baloadB {a n : Nat} {i : Int32} (hd : decode y.2.1 pc = .ok (.baload, 1)) (ha : M.1.1[a]? = some (.inr (.byte, n))) (hin : vp_in i n) (k : Ev B y d rc rs Φ (pc + 1) L (.int (M.2.1 a i.toNatClampNeg) :: st) M) : Ev B y d rc rs Φ pc L (.int i :: .ref a :: st) M := by
  intro p e R s m args below meth c C ls H locs cells slots hl hR hS hc hs
  exact va_bald C.1.1 C.1.2.1 C.2.2.2.1 hR.1 a 1 (wsM_get ha) rfl hin hd (k p e R s m args below meth c C ls H locs cells slots hl hR hS hc hs)
theorem e_baloadZ {a n : Nat} {i : Int32} (hd : decode y.2.1 pc = .ok (.baload, 1)) (ha : M.1.1[a]? = some (.inr (.boolean, n))) (hin : vp_in i n) (k : Ev B y d rc rs Φ (pc + 1) L (.int (M.2.1 a i.toNatClampNeg) :: st) M) : Ev B y d rc rs Φ pc L (.int i :: .ref a :: st) M := by
  intro p e R s m args below meth c C ls H locs cells slots hl hR hS hc hs
  exact va_zald C.1.1 C.1.2.1 C.2.2.2.1 hR.1 a 2 (wsM_get ha) rfl hin hd (k p e R s m args below meth c C ls H locs cells slots hl hR hS hc hs)
theorem e_laload {a n : Nat} {i : Int32} (hd : decode y.2.1 pc = .ok (.laload, 1)) (ha : M.1.1[a]? = some (.inr (.long, n))) (hin : vp_in i n) (k : Ev B y d rc rs Φ (pc + 1) L (.long (M.2.2.1 a i.toNatClampNeg) :: st) M) : Ev B y d rc rs Φ pc L (.int i :: .ref a :: st) M := by
  intro p e R s m args below meth c C ls H locs cells slots hl hR hS hc hs
  exact va_lald C.1.1 C.1.2.1 C.2.2.2.1 hR.1 a 3 (wsM_get ha) rfl hin hd (k p e R s m args below meth c C ls H locs cells slots hl hR hS hc hs)
theorem e_aaloadN {a n b : Nat} {i : Int32} (hd : decode y.2.1 pc = .ok (.aaload, 1)) (ha : M.1.1[a]? = some (.inr (.object RX1, n))) (hin : vp_in i n) (hr : M.2.2.2 a i.toNatClampNeg = some b) (k : Ev B y d rc rs Φ (pc + 1) L (.ref b :: st) M) : Ev B y d rc rs Φ pc L (.int i :: .ref a :: st) M := by
  intro p e R s m args below meth c C ls H locs cells slots hl hR hS hc hs
  have k1 := k p e R s m args below meth c C ls H locs cells slots hl hR hS hc hs
  refine va_aldq (C := RX1) C.1.1 C.1.2.1 C.2.2.2.1 hR.1 a 4 (wsM_get ha) rfl hin hd ?_
  have e9 : va_rf ((M.2.2.2 a i.toNatClampNeg).map (ba B)) = .ref (ba B b) := by rw [hr]; rfl
  show W _ _ _ _ _ _ _ _ _ _ _ _ _ _ _ (F0 m (pc + 1) ls (va_rf ((M.2.2.2 a i.toNatClampNeg).map (ba B)) :: _))
  rw [e9]
  exact k1
theorem e_aaloadA {a n b : Nat} {i : Int32} (hd : decode y.2.1 pc = .ok (.aaload, 1)) (ha : M.1.1[a]? = some (.inr (.array .int, n))) (hin : vp_in i n) (hr : M.2.2.2 a i.toNatClampNeg = some b) (k : Ev B y d rc rs Φ (pc + 1) L (.ref b :: st) M) : Ev B y d rc rs Φ pc L (.int i :: .ref a :: st) M := by
  intro p e R s m args below meth c C ls H locs cells slots hl hR hS hc hs
  have k1 := k p e R s m args below meth c C ls H locs cells slots hl hR hS hc hs
  have hlt : i.toNatClampNeg < n := Nat.not_le.mp fun q => hin (Or.inr q)
  have e9 : va_rf ((M.2.2.2 a i.toNatClampNeg).map (ba B)) = .ref (ba B b) := by rw [hr]; rfl
  exact W.aald (v := .ref (ba B b)) (ty := .array .int) C.1.1 C.1.2.1 (hR.1 a _ (wsM_get ha)) ((C.2.2.2.1.2 5 _ rfl).1 n (fun j => va_rf ((M.2.2.2 a j).map (ba B)))) rfl (fun q => by cases q) (by show ¬ (i < 0 ∨ (arrV _ _ _).slots.size ≤ _); rw [arrV_size]; exact hin) (by show (arrV _ _ _).slots[_]? = _; rw [arrV_read _ _ hlt, e9]) rfl rfl hd k1
theorem e_alen {a n : Nat} {ty : FieldType} {t0 : Nat} (hd : decode y.2.1 pc = .ok (.arraylength, 1)) (ha : M.1.1[a]? = some (.inr (ty, n))) (ht : ∀ dA : FieldType → ClassId, (tysM dA)[t0]? = some (dA ty, ty)) (k : Ev B y d rc rs Φ (pc + 1) L (.int (nI n) :: st) M) : Ev B y d rc rs Φ pc L (.ref a :: st) M := by
  intro p e R s m args below meth c C ls H locs cells slots hl hR hS hc hs
  exact va_alen C.1.1 C.1.2.1 C.2.2.2.1 hR.1 a t0 (wsM_get ha) (ht _) rfl hd (k p e R s m args below meth c C ls H locs cells slots hl hR hS hc hs)
theorem e_iastore {a n : Nat} {i x : Int32} (hd : decode y.2.1 pc = .ok (.iastore, 1)) (ha : M.1.1[a]? = some (.inr (.int, n))) (hin : vp_in i n) (k : Ev B y d rc rs Φ (pc + 1) L st (sI M a i.toNatClampNeg x)) : Ev B y d rc rs Φ pc L (.int x :: .int i :: .ref a :: st) M := by
  intro p e R s m args below meth c C ls H locs cells slots hl hR hS hc hs
  have hD := wsM_D C.2.2.2.2.2.1.2.1 hR
  have he := wsM_get (dA := bA B) (ad := ba B) ha
  refine W.iast C.1.1 C.1.2.1 (hR.1 a _ he) ((C.2.2.2.1.2 0 _ rfl).1 n (fun j => .int (M.2.1 a j))) (fun q => by cases q) (by show ¬ (i < 0 ∨ (arrV _ _ _).slots.size ≤ _); rw [arrV_size]; exact hin) rfl rfl hd fun H1 e1 z oq => ?_
  refine k p e R s m args below meth c C ls H1 _ cells slots hl (hR.put rfl ha (fun j hj => ⟨u2_ne _ _ _ hj, rfl, rfl⟩) (hR.1.set hD he ?_ oq) z) (hS.put z oq (hD.2 a _ he)) hc hs
  show H1[ba B a]? = some (vp_cell (bA B .int) (n, .inl (u2 M.2.1 a i.toNatClampNeg x a)))
  rw [e1]
  show some ((vp_cell (bA B .int) (n, .inl (M.2.1 a))).setSlot _ _) = _
  rw [vp_cell_i, vp_cell_i, arrV_store, u2_self]
  congr 2
  funext q
  by_cases hq : q = i.toNatClampNeg
  · subst hq; simp [updV]
  · simp [updV, hq]
end RH
end
section
theorem lva_mem : ∀ (vs : List Value) (k i : Nat) (w : Value), (∀ v ∈ vs, v.category = 1) → vs[i]? = some w → (k + i, w) ∈ lv_args k vs
  | [], _, _, _, _, h => by simp at h
  | v :: vs, k, 0, w, hc, h => by
    simp only [List.getElem?_cons_zero, Option.some.injEq] at h
    subst h
    unfold lv_args
    exact List.mem_cons_self
  | v :: vs, k, i + 1, w, hc, h => by
    rw [List.getElem?_cons_succ] at h
    have h1 : v.category = 1 := hc v List.mem_cons_self
    have ih := lva_mem vs (k + 1) i w (fun v hv => hc v (List.mem_cons_of_mem _ hv)) h
    unfold lv_args
    rw [if_neg (by omega)]
    have e : k + (i + 1) = k + 1 + i := by omega
    rw [e]
    exact List.mem_cons_of_mem _ ih
theorem lgsl_len : ∀ (vs : List Value), (∀ v ∈ vs, v.category = 1) → (lg_sl vs).length = vs.length
  | [], _ => rfl
  | v :: vs, hc => by
    have h1 : v.category = 1 := hc v List.mem_cons_self
    have ih := lgsl_len vs (fun v hv => hc v (List.mem_cons_of_mem _ hv))
    have e : lg_sl (v :: vs) = (if v.category = 2 then [.val v, .second] else [.val v]) ++ lg_sl vs := rfl
    rw [e, if_neg (by omega), List.length_append, ih]
    simp; omega
def Lin (y : Mt) (As : List Value) : Lc := As.map some ++ List.replicate (y.2.2.1 - As.length) none
theorem LR_in {ad : Nat → Nat} {As : List Value} {n : Nat} (hc : As.all (fun v => v.category == 1) = true) (hn : As.length ≤ n) : LR ad ((lg_sl (As.map (tr ad)) ++ List.replicate (n - (lg_sl (As.map (tr ad))).length) Slot.unset).toArray) n (As.map some ++ List.replicate (n - As.length) none) := by
  have hc1 : ∀ v ∈ As.map (tr ad), v.category = 1 := by
    intro v hv
    obtain ⟨w, hw, rfl⟩ := List.mem_map.mp hv
    rw [tr_cat]
    simpa using List.all_eq_true.mp hc w hw
  have hle : (lg_sl (As.map (tr ad))).length ≤ n := by rw [lgsl_len _ hc1, List.length_map]; exact hn
  have h := lv_entry (As.map (tr ad)) hle
  refine ⟨h.1, h.2.1, fun i v hi => ?_⟩
  have hm : (As.map (tr ad))[i]? = some (tr ad v) := by
    by_cases hl : i < As.length
    · rw [List.getElem?_append_left (by rw [List.length_map]; exact hl), List.getElem?_map] at hi
      rw [List.getElem?_map]
      cases hq : As[i]? with
      | none => rw [hq] at hi; cases hi
      | some w =>
        rw [hq] at hi
        simp only [Option.map_some, Option.some.injEq] at hi
        subst hi; rfl
    · rw [List.getElem?_append_right (by rw [List.length_map]; omega)] at hi
      rw [List.getElem?_replicate] at hi
      split at hi
      · cases hi
      · cases hi
  have := h.2.2 _ (lva_mem _ 0 i _ hc1 hm)
  simpa using this
theorem tab_nil {c : Code} (h : ∀ x ∈ c.exceptionTable.toList, False) : c.exceptionTable.toList = tableOf [] := by
  have h1 : c.exceptionTable.toList = [] := List.eq_nil_iff_forall_not_mem.mpr (fun x hx => h x hx)
  rw [h1]; rfl
set_option maxHeartbeats 4000000 in
theorem Ct.of {B : Bd} {y : Mt} {d rc rs : Nat} {As : List Value} {M : Mm} {Φ : Ot → Mm → Prop} (hy : plainName y.1.cls = true) (hh : y.2.2.2.2 = []) (hc : As.all (fun v => v.category == 1) = true) (hn : As.length ≤ y.2.2.1) (h : Ev B y d rc rs Φ 0 (Lin y As) [] M) : Ct B y d rc rs As M Φ := by
  obtain ⟨yn, bytes, maxL, ret, tb⟩ := y
  dsimp only at hy hh hn
  subst hh
  refine vx_ofW (cc := bytes) (maxL := maxL) (ret := ret) hy rfl ?_
  intro p e s m args below meth c s₁ D hml htab hv
  obtain ⟨rfl, hR, hK, hX, hbs, hA, htr⟩ := hv
  have hts := atoms_spec (ws := wsY (yn, bytes, maxL, ret, [])) D.pre
  rw [lg_entry_eq]
  exact h p e _ s m _ below meth c ⟨⟨D.exec, D.bytes, D.returns, hml, findClass_of_methodNamed D.named⟩, fun w hw => hts w (List.mem_cons_of_mem _ hw), ⟨D.notSynchronized, (name_of_methodNamed D.named D.method).1, tab_nil htab⟩, hK, hX, ⟨hbs, hA, htr⟩, ⟨Nat.le_refl _, Nat.le_refl _⟩⟩ _ s.heap [] 0 0 (LR_in hc hn) hR va_S.rf (by show 0 + rc ≤ rc; omega) (by show 0 + rs ≤ rs; omega)
section RT
variable {B : Bd} {y : Mt} {d rc rs : Nat} {Φ : Ot → Mm → Prop} {pc : Nat} {L : Lc} {st : List Value} {M : Mm}
theorem e_iret {v : Int32} {ty : FieldType} (hd : decode y.2.1 pc = .ok (.ireturn, 1)) (hr : y.2.2.2.1 = some ty) (hn : narrow ty (.int v) = .int v) (h : Φ (.inl (some (.int v))) M) : Ev B y d rc rs Φ pc L [.int v] M := by
  intro p e R s m args below meth c C ls H locs cells slots hl hR hS hc hs
  refine W.widen (k := R.cells) (n := R.slots) (by omega) (by omega) ?_
  exact vx_ret (W.zret (v := v) C.1.1 C.1.2.1 (C.1.2.2.1.trans hr) hn (fun t ht hW => ⟨⟨some (.int v), M, rfl, h, by rw [ht]; exact hR⟩, hS.F ht⟩) hS.2.2 hd C.2.2.1.1)
theorem e_lret {v : Int64} (hd : decode y.2.1 pc = .ok (.lreturn, 1)) (hr : y.2.2.2.1 = some .long) (h : Φ (.inl (some (.long v))) M) : Ev B y d rc rs Φ pc L [.long v] M := by
  intro p e R s m args below meth c C ls H locs cells slots hl hR hS hc hs
  refine W.widen (k := R.cells) (n := R.slots) (by omega) (by omega) ?_
  exact vx_ret (W.lret (v := v) C.1.1 C.1.2.1 (C.1.2.2.1.trans hr) (fun t ht hW => ⟨⟨some (.long v), M, rfl, h, by rw [ht]; exact hR⟩, hS.F ht⟩) hS.2.2 hd C.2.2.1.1)
theorem e_vret (hd : decode y.2.1 pc = .ok (.return_, 1)) (hr : y.2.2.2.1 = none) (h : Φ (.inl none) M) : Ev B y d rc rs Φ pc L [] M := by
  intro p e R s m args below meth c C ls H locs cells slots hl hR hS hc hs
  refine W.widen (k := R.cells) (n := R.slots) (by omega) (by omega) ?_
  exact vx_ret (W.vret C.1.1 C.1.2.1 (C.1.2.2.1.trans hr) (fun t ht hW => ⟨⟨none, M, rfl, h, by rw [ht]; exact hR⟩, hS.F ht⟩) hS.2.2 hd C.2.2.1.1)
theorem Ev.mono {Ψ : Ot → Mm → Prop} (h : Ev B y d rc rs Φ pc L st M) (hi : ∀ o N, Φ o N → Ψ o N) : Ev B y d rc rs Ψ pc L st M := by
  intro p e R s m args below meth c C ls H locs cells slots hl hR hS hc hs T hT X
  obtain ⟨t, a1, o, b1, b2, b3⟩ := h p e R s m args below meth c C ls H locs cells slots hl hR hS hc hs T hT X
  refine ⟨t, a1, o, b1, b2, ?_⟩
  rcases b3 with ⟨⟨⟨v, N, g1, g2, g3⟩, g4⟩, g5⟩ | ⟨q, g1, E, ce, L9, ⟨⟨N, g2, g3⟩, g4⟩, g5⟩
  · exact Or.inl ⟨⟨⟨v, N, g1, hi _ _ g2, g3⟩, g4⟩, g5⟩
  · exact Or.inr ⟨q, g1, E, ce, L9, ⟨⟨N, hi _ _ g2, g3⟩, g4⟩, g5⟩
theorem Ev.less {rc' rs' : Nat} (h : Ev B y d rc rs Φ pc L st M) (h1 : rc ≤ rc') (h2 : rs ≤ rs') : Ev B y d rc' rs' Φ pc L st M := by
  intro p e R s m args below meth c C ls H locs cells slots hl hR hS hc hs
  exact h p e R s m args below meth c C ls H locs cells slots hl hR hS (by omega) (by omega)
theorem Ev.deep {d' : Nat} (h : Ev B y d rc rs Φ pc L st M) (h1 : d ≤ d') : Ev B y d' rc rs Φ pc L st M := by
  intro p e R s m args below meth c C ls H locs cells slots hl hR hS hc hs
  exact h p e R s m args below meth c ⟨C.1, C.2.1, C.2.2.1, C.2.2.2.1, C.2.2.2.2.1, C.2.2.2.2.2.1, ⟨Nat.le_trans h1 C.2.2.2.2.2.2.1, Nat.le_trans (Nat.mul_le_mul_left 128 h1) C.2.2.2.2.2.2.2⟩⟩ ls H locs cells slots hl hR hS hc hs
-- a throw that leaves the method
theorem e_out {E : String} (ht : y.2.2.2.2 = []) (h : Φ (.inr E) M) : EvX B y d rc rs Φ E pc L M := by
  intro p e R s m args below meth c C ls H locs cells slots st9 q ce hl hR hS hc hs hcell hv hcl
  refine vx_out (E := E) (ce := ce) (fun x hx => ?_) C.2.2.1.1 hcell hv hcl (fun t ht hal => ⟨⟨M, h, by rw [ht]; exact hR⟩, hS.F ht⟩) hS.2.2 (by omega) (by omega)
  rw [C.2.2.1.2.2, ht] at hx
  cases hx
end RT
end
section
def Pcx (B : Bd) (As : List Value) (M : Mm) : Array Value → State → Prop := va_Pc (As.map (tr (ba B))) (fun U => Rep B M U.heap ∧ va_K (bD B) clz (tysM (bA B)) U ∧ XE B U U.heap ∧ bs B ≤ U.heap.size ∧ Adr B ∧ (bl B).stackTraces = false)
theorem Pcx_blind {B : Bd} {As : List Value} {M : Mm} : FrameBlind (Pcx B As M) := by
  intro a U g mk h
  obtain ⟨h1, h2, h3, h4, h5⟩ := h
  exact ⟨h1, h2, va_K.moved (u := U) (U := U.calling g mk a) (Vm.Alike.refl U.vm) h3, XE.moved (s := U) (U := U.calling g mk a) (State.WarmedH.refl U) h4 (fun _ _ _ => rfl), h5⟩
theorem Pcx_of {B : Bd} {y : Mt} {d : Nat} {p : Program} {R : Room} {s : State} {m : MethodId} {args : Array Value} {meth : Method} {c : Code} {M : Mm} {H : Heap} {locs : List Loc} (C : Cx B y d p R s m args meth c) (hR : Rep B M H) (hS : va_S (fr B) s.heap H locs) (As : List Value) : ∀ U : State, U.heap = H → s.WarmedH U.vm → Pcx B As M (As.map (tr (ba B))).toArray U := by
  intro U hU hW
  refine ⟨rfl, by rw [hU]; exact hR, va_K.moved hW.alike C.2.2.2.1, ?_, ?_, C.2.2.2.2.2.1.2⟩
  · rw [hU]; exact XE.moved hW C.2.2.2.2.1 hS.2.1
  · rw [hU]; exact Nat.le_trans C.2.2.2.2.2.1.1 hS.1
-- a method that may be called: its code, its class, its parameters
def Md (q : Mt) (n : Nat) : Prop := Cond.code q.1 q.2.1 q.2.2.1 q.2.2.2.1 ∈ TB ∧ Cond.initialized q.1.cls ∈ TB ∧ (q.1.cls ≠ "java/lang/invoke/MethodHandle" ∧ q.1.cls ≠ "java/lang/invoke/VarHandle" ∧ (parseMethodDescriptor q.1.desc).map (fun d => d.parameters.length) = some n) ∧ q.2.2.2.2 = [] ∧ q.2.2.1 ≤ 100
def MdV (q : Mt) (n : Nat) : Prop := Md q n ∧ Cond.instanceMethod q.1 ∈ TB ∧ Cond.selects q.1.cls q.1 q.1 ∈ TB
def MdS (q : Mt) (n : Nat) : Prop := Md q n ∧ Cond.static q.1 ∈ TB
def MdI (q : Mt) (n : Nat) : Prop := Md q n ∧ Cond.instanceMethod q.1 ∈ TB ∧ q.1.name = "<init>" ∧ q.2.2.2.1 = none
theorem wsY_nil {q : Mt} (h : q.2.2.2.2 = []) : wsY q = Cond.code q.1 q.2.1 q.2.2.1 q.2.2.2.1 :: TB := by unfold wsY; rw [h]
theorem wsY_good {q : Mt} {n : Nat} (h : Md q n) : GoodIn TB (wsY q) := by
  rw [wsY_nil h.2.2.2.1]
  intro w hw
  rcases List.mem_cons.mp hw with rfl | hw
  · exact TB_good _ h.1
  · exact TB_good _ hw
section RC
variable {B : Bd} {y : Mt} {d rc rs : Nat} {Φ : Ot → Mm → Prop} {pc : Nat} {L : Lc} {st : List Value} {M : Mm}
/-- behind a call -/
theorem run_on {p : Program} {e : Env} {R : Room} {s : State} {m : MethodId} {args : Array Value} {below : List Frame} {meth : Method} {c : Code} {ls : Array Slot} {H : Heap} {locs : List Loc} {cells slots rc1 rs1 rc2 rs2 : Nat} {Φ1 : Ot → Mm → Prop} {a9 : Array Value} {st0 : List Value}
    (C : Cx B y d p R s m args meth c) (hl : LR (ba B) ls y.2.2.1 L) (hS : va_S (fr B) s.heap H locs) (hc : cells + (rc1 + rc2) ≤ R.cells) (hs : slots + (rs1 + rs2) ≤ R.slots)
    (hr : vx_Run p (bl B) e R s m args below meth c H locs cells slots rc1 rs1 (F0 m pc ls st0) (st.map (tr (ba B))) (Qr B Φ1 a9) (Qx B Φ1) (fr B))
    (kk : ∀ v N, Φ1 (.inl v) N → Ev B y d rc2 rs2 Φ (pc + 3) L (v.toList ++ st) N) (kx : ∀ E N, Φ1 (.inr E) N → EvX B y d rc2 rs2 Φ E pc L N) :
    W p (bl B) e R s m args below meth c H locs cells slots (vx_MQ below (Qr B Φ) (Qx B Φ) args s R.cells R.slots (fr B)) (F0 m pc ls st0) := by
  intro T hT X
  rcases hr T hT X with ⟨v, st₀, t, T', L9, h0, X', hL, e1, e2, ⟨⟨v1, N, hv, hΦ, hR1⟩, hF⟩, stp⟩ | ⟨q, st₀, t, T', L9, E, ce, h0, X', hL, e1, e2, ⟨⟨N, hΦ, hR1⟩, hF⟩, hce, hcv, hcl, stp⟩
  · cases hv
    obtain ⟨k1, k2, k3⟩ := vx_keep h0 e1 hS (fun q _ h => h) (fun q h => h) hL hF
    obtain ⟨t2, a1, b1⟩ := kk v1 N hΦ p e R s m args below meth c C ls T'.heap (locs ++ L9) (cells + rc1) (slots + rs1) hl (by rw [e1]; exact hR1) k3 (by omega) (by omega) T' rfl X'
    have hst9 : (v1.map (tr (ba B))).toList ++ st.map (tr (ba B)) = (v1.toList ++ st).map (tr (ba B)) := by cases v1 <;> rfl
    rw [hst9] at stp
    exact ⟨t2, stp t2 a1, b1⟩
  · obtain ⟨k1, k2, k3⟩ := vx_keep h0 e1 hS (fun q _ h => h) (fun q h => h) hL hF
    obtain ⟨t2, a1, b1⟩ := kx E N hΦ p e R s m args below meth c C ls T'.heap (locs ++ L9) (cells + rc1) (slots + rs1) (st.map (tr (ba B))) q ce hl (by rw [e1]; exact hR1) k3 (by omega) (by omega) (by rw [e1]; exact hce) hcv hcl T' rfl X'
    exact ⟨t2, stp.trans a1, b1⟩
theorem cat8 (hst : (st.map fun v => v.category).sum ≤ 8) (ad : Nat → Nat) : ((st.map (tr ad)).map fun v => v.category).sum ≤ 8 := by
  rw [List.map_map]
  have e9 : ((fun v : Value => v.category) ∘ tr ad) = (fun v => v.category) := funext (fun v => tr_cat _ _)
  rw [e9]; exact hst
theorem stk_eq {As : List Value} {b : Nat} (ad : Nat → Nat) : (As.reverse ++ .ref b :: st).map (tr ad) = (As.map (tr ad)).reverse ++ .ref (ad b) :: st.map (tr ad) := by
  rw [List.map_append, List.map_reverse]; rfl
theorem stk_eqS {As : List Value} (ad : Nat → Nat) : (As.reverse ++ st).map (tr ad) = (As.map (tr ad)).reverse ++ st.map (tr ad) := by
  rw [List.map_append, List.map_reverse]
set_option maxHeartbeats 4000000 in
/-- a virtual call of an object of the class ci -/
theorem e_callV {i n ci b d1 rc1 rs1 rc2 rs2 : Nat} {q : Mt} {Φ1 : Ot → Mm → Prop} {stk : List Value} (As : List Value) (hd : decode y.2.1 pc = .ok (.invokevirtual i, 3)) (hm : MdV q n) (hlk : Cond.methodLink y.1.cls i q.1 ∈ TB) (hb : M.1.1[b]? = some (.inl ci)) (hci : ci < 7 ∧ Rz ci = q.1.cls) (hn : As.length = n) (hstk : stk = As.reverse ++ .ref b :: st) (hst : (st.map fun v => v.category).sum ≤ 8) (hdd : d1 + 1 ≤ d) (hr1 : rc1 + rc2 ≤ rc) (hr2 : rs1 + rs2 ≤ rs)
    (hct : Ct B q d1 rc1 rs1 (.ref b :: As) M Φ1) (kk : ∀ v N, Φ1 (.inl v) N → Ev B y d rc2 rs2 Φ (pc + 3) L (v.toList ++ st) N) (kx : ∀ E N, Φ1 (.inr E) N → EvX B y d rc2 rs2 Φ E pc L N) : Ev B y d rc rs Φ pc L stk M := by
  intro p e R s m args below meth c C ls H locs cells slots hl hR hS hc hs
  obtain ⟨hfr, hlo⟩ := C.2.2.2.2.2.2
  obtain ⟨⟨m1, m2, m3, m4, m5⟩, m6, m7⟩ := id hm
  refine run_on (Φ1 := Φ1) (a9 := ((.ref b :: As).map (tr (ba B))).toArray) (rc1 := rc1) (rs1 := rs1) (rc2 := rc2) (rs2 := rs2) (st := st) C hl hS (by omega) (by omega) ?_ kk kx
  refine vx_runV (As := As.map (tr (ba B))) (nL := y.2.2.1) (n := n) ⟨C.1.1, C.1.2.1, C.1.2.2.2.1, C.1.2.2.2.2, C.2.1⟩ hct (cwV (C := q.1.cls) n C.2.1 ?_ (wsY_nil m4) rfl rfl ⟨rfl, m3⟩ ⟨?_, ?_⟩) ⟨Pcx_blind, ?_, Pcx_of C hR hS (.ref b :: As)⟩ rfl (by rw [List.length_map]; exact hn) hl.1 (by rw [hstk]; exact stk_eq _) (lv_room (cat8 hst _)) hd ⟨by omega, by omega⟩
  · intro w hw
    rcases List.mem_append.mp hw with h9 | h9
    · rcases List.mem_cons.mp h9 with rfl | h9
      · exact TB_good _ hlk
      · rcases List.mem_cons.mp h9 with rfl | h9
        · exact TB_good _ m6
        · rcases List.mem_cons.mp h9 with rfl | h9
          · exact TB_good _ m7
          · rw [List.mem_singleton.mp h9]; exact TB_good _ m2
    · exact wsY_good hm.1 _ h9
  · show d1 + 1 ≤ R.frames
    omega
  · show 8 + (q.2.2.1 + 11) + 128 * d1 ≤ R.locals
    omega
  · have := va_recv C.2.2.2.1 hR.1 (clz_get hci.1) (wsM_get hb)
    rw [← hci.2]
    exact this
set_option maxHeartbeats 4000000 in
/-- a static call -/
theorem e_callS {i n d1 rc1 rs1 rc2 rs2 : Nat} {q : Mt} {Φ1 : Ot → Mm → Prop} {stk : List Value} (As : List Value) (hd : decode y.2.1 pc = .ok (.invokestatic i, 3)) (hm : MdS q n) (hlk : Cond.methodLink y.1.cls i q.1 ∈ TB) (hn : As.length = n) (hstk : stk = As.reverse ++ st) (hst : (st.map fun v => v.category).sum ≤ 8) (hdd : d1 + 1 ≤ d) (hr1 : rc1 + rc2 ≤ rc) (hr2 : rs1 + rs2 ≤ rs)
    (hct : Ct B q d1 rc1 rs1 As M Φ1) (kk : ∀ v N, Φ1 (.inl v) N → Ev B y d rc2 rs2 Φ (pc + 3) L (v.toList ++ st) N) (kx : ∀ E N, Φ1 (.inr E) N → EvX B y d rc2 rs2 Φ E pc L N) : Ev B y d rc rs Φ pc L stk M := by
  intro p e R s m args below meth c C ls H locs cells slots hl hR hS hc hs
  obtain ⟨hfr, hlo⟩ := C.2.2.2.2.2.2
  obtain ⟨⟨m1, m2, m3, m4, m5⟩, m6⟩ := id hm
  refine run_on (Φ1 := Φ1) (a9 := (As.map (tr (ba B))).toArray) (rc1 := rc1) (rs1 := rs1) (rc2 := rc2) (rs2 := rs2) (st := st) C hl hS (by omega) (by omega) ?_ kk kx
  refine vx_runS (As := As.map (tr (ba B))) (nL := y.2.2.1) (n := n) ⟨C.1.1, C.1.2.1, C.1.2.2.2.1, C.1.2.2.2.2, C.2.1⟩ hct (va_cwS n C.2.1 ?_ (wsY_nil m4) rfl rfl m3 ⟨?_, ?_⟩) ⟨Pcx_blind, Pcx_of C hR hS As⟩ rfl (by rw [List.length_map]; exact hn) hl.1 (by rw [hstk]; exact stk_eqS _) (lv_room (cat8 hst _)) hd ⟨by omega, by omega⟩
  · intro w hw
    rcases List.mem_append.mp hw with h9 | h9
    · rcases List.mem_cons.mp h9 with rfl | h9
      · exact TB_good _ hlk
      · rcases List.mem_cons.mp h9 with rfl | h9
        · exact TB_good _ m6
        · rw [List.mem_singleton.mp h9]; exact TB_good _ m2
    · exact wsY_good hm.1 _ h9
  · show d1 + 1 ≤ R.frames
    omega
  · show 8 + (q.2.2.1 + 11) + 128 * d1 ≤ R.locals
    omega
set_option maxHeartbeats 4000000 in
/-- a static call of a nest mate's private method -/
theorem e_callN {i n d1 rc1 rs1 rc2 rs2 : Nat} {q : Mt} {Φ1 : Ot → Mm → Prop} {stk : List Value} (As : List Value) (hd : decode y.2.1 pc = .ok (.invokestatic i, 3)) (hm : MdS q n) (hlk : (y.1.cls, i, q.1) ∈ nests) (hn : As.length = n) (hstk : stk = As.reverse ++ st) (hst : (st.map fun v => v.category).sum ≤ 8) (hdd : d1 + 1 ≤ d) (hr1 : rc1 + rc2 ≤ rc) (hr2 : rs1 + rs2 ≤ rs)
    (hct : Ct B q d1 rc1 rs1 As M Φ1) (kk : ∀ v N, Φ1 (.inl v) N → Ev B y d rc2 rs2 Φ (pc + 3) L (v.toList ++ st) N) (kx : ∀ E N, Φ1 (.inr E) N → EvX B y d rc2 rs2 Φ E pc L N) : Ev B y d rc rs Φ pc L stk M := by
  intro p e R s m args below meth c C ls H locs cells slots hl hR hS hc hs
  obtain ⟨hfr, hlo⟩ := C.2.2.2.2.2.2
  obtain ⟨⟨m1, m2, m3, m4, m5⟩, m6⟩ := id hm
  refine run_on (Φ1 := Φ1) (a9 := (As.map (tr (ba B))).toArray) (rc1 := rc1) (rs1 := rs1) (rc2 := rc2) (rs2 := rs2) (st := st) C hl hS (by omega) (by omega) ?_ kk kx
  refine vx_runSN (As := As.map (tr (ba B))) (nL := y.2.2.1) (n := n) (host := RX5) ⟨C.1.1, C.1.2.1, C.1.2.2.2.1, C.1.2.2.2.2, C.2.1⟩ hct ⟨va_cnB n C.2.1 (wsY_good hm.1) (wsY_nil m4) rfl rfl (C.2.2.2.2.1.2.2.2.2.2.1 _ hlk) (C.2.1 _ m2) m3 ⟨?_, ?_⟩, C.2.1 _ m6, trivial⟩ ⟨Pcx_blind, Pcx_of C hR hS As⟩ rfl (by rw [List.length_map]; exact hn) hl.1 (by rw [hstk]; exact stk_eqS _) (lv_room (cat8 hst _)) hd ⟨by omega, by omega⟩
  · show d1 + 1 ≤ R.frames
    omega
  · show 8 + (q.2.2.1 + 11) + 128 * d1 ≤ R.locals
    omega
end RC
end
section
/-! 'throw new E("text")' where E(String) may name its super constructor at any place ix of its pool (NoSuchElementException: 13); the kit's row vx_throwS has 7 alone. Its road is that of the library's ctorThrowS and of the kit's vx_throwS. -/
def chX (X : String) (ix : Nat) (rx : ByteArray) (Y : String) (r : List String) : List Cond := Bundle.passSAtoms X Y ix rx ++ Bundle.chainSAtoms Y r
theorem chX_ok {args : Array Value} {s : State} {pl : Platform} (hpl : pl.magicAccessors = ({} : Platform).magicAccessors) {top : MethodId} (htop : s.methodNamed? (Bundle.initS Bundle.tN) = some top)
    {ix : Nat} {rx : ByteArray} (x0 : decode rx 0 = .ok (.aload_n 0, 1)) (x1 : decode rx 1 = .ok (.aload_n 1, 1)) (x2 : decode rx 2 = .ok (.invokespecial ix, 3)) (x5 : decode rx 5 = .ok (.return_, 1))
    (Y : String) (r : List String) (X : String) (hX : Bundle.fit X = true) (hY : Bundle.fit Y = true) (hn : ∀ n ∈ r, Bundle.fit n = true) (h : ∀ c ∈ chX X ix rx Y r, c.before args s = true) :
      ∃ (P1 : PassC) (Ps : List PassC), Ps.length = r.length + 1 ∧ P1.LinksS pl s ∧ (∀ P, P ∈ Ps → P.LinksS pl s) ∧ s.methodNamed? (Bundle.initS X) = some P1.m ∧
        P1.sup = firstOf top (Ps.map (·.toPassT)) ∧ PassesOn top (Ps.map (·.toPassT)) := by
  obtain ⟨P, L, hm, hs⟩ := PassC.ofS_atoms (args := args) (s := s) hpl (X := X) (Y := Y) (Bundle.fit_spec hX).1 (Bundle.fit_spec hY).2 x0 x1 x2 x5 (fun c hc => h c (List.mem_append_left _ hc))
  obtain ⟨P', Ps, hlen, L', hL, hm', hsup, hpass⟩ := Bundle.chainS (args := args) hpl htop r Y hY hn (fun c hc => h c (List.mem_append_right _ hc))
  refine ⟨P, P' :: Ps, by simp [hlen], L, ?_, hm, Option.some.inj (hs.symm.trans hm'), hsup, hpass⟩
  intro Q hQ
  rcases List.mem_cons.mp hQ with rfl | hQ
  · exact L'
  · exact hL Q hQ
def oaX (own : String) (ic : Nat) (X : String) (ix : Nat) (rx : ByteArray) (Y : String) (r : List String) : List Cond :=
  Bundle.throwableAtoms ++ Bundle.throwableSAtoms ++ chX X ix rx Y r ++
  [.methodLink own ic (Bundle.initS X), .instantiable X 6, .castable X X, .selects X Bundle.tFill0 Bundle.tFill0, .selects X Bundle.tFill Bundle.tFill,
   .lays X Bundle.tN "cause" "Ljava/lang/Throwable;", .lays X Bundle.tN "stackTrace" Bundle.steD, .lays X Bundle.tN "suppressedExceptions" Bundle.listD, .lays X Bundle.tN "detailMessage" "Ljava/lang/String;",
   .isRef (.static Bundle.tN "UNASSIGNED_STACK" Bundle.steD), .isRef (.static Bundle.tN "SUPPRESSED_SENTINEL" Bundle.listD),
   .fieldLink Bundle.tN 198 Bundle.tN "backtrace" "Ljava/lang/Object;", .lays Bundle.tN Bundle.tN "backtrace" "Ljava/lang/Object;", .lays X Bundle.tN "backtrace" "Ljava/lang/Object;"]
section TX
variable {p : Program} {l : Launch} {e : Env} {R : Room} {s : State} {m₀ : MethodId} {args : Array Value} {below : List Frame} {meth : Method} {c : Code} {W9 : State} {locs : List Loc} {cells slots : Nat}
set_option maxHeartbeats 4000000 in
theorem ctorThrowX (X : Stand p l e R s m₀ args below meth c W9 locs cells slots) (hexec : p.tables.exec = Jvm.exec) (htr : e.platform.stackTraces = false) {own cls Y0 : String} {r0 : List String} {ic ix : Nat} {rx : ByteArray}
    (x0 : decode rx 0 = .ok (.aload_n 0, 1)) (x1 : decode rx 1 = .ok (.aload_n 1, 1)) (x2 : decode rx 2 = .ok (.invokespecial ix, 3)) (x5 : decode rx 5 = .ok (.return_, 1))
    (hown : s.vm.findClass own = some m₀.cls) (hcls : Bundle.fit cls = true) (hY0 : Bundle.fit Y0 = true) (hnames : ∀ n ∈ r0, Bundle.fit n = true)
    (h : ∀ a ∈ oaX own ic cls ix rx Y0 r0, a.before args s = true)
    (hlocs : ∀ x ∈ locs, ∀ cell, s.heap[x.base]? = some cell → cell.vm.isStatics = false)
    {a : Addr} {cX : ClassId} {kX : Class} (hfoundX : s.vm.findClass cls = some cX) (hkX : s.vm.classes[cX]? = some kX) (hcell : W9.heap[a]? = some (freshCell cX kX)) (hnew : s.heap.size ≤ a)
    {msg : Value} (hmsg : msg.isRef = true)
    {g : JFrame} (hg : g.method = m₀) (hsize : g.locals.size = c.maxLocals) (hlocked : g.locked = none) (hentered : g.entered = []) {rest : List Value} (hstack : g.stack = msg :: .ref a :: .ref a :: rest)
    (hd6 : decode c.code g.pc = .ok (.invokespecial ic, 3)) (hd9 : decode c.code (g.pc + 3) = .ok (.athrow, 1)) (hout : ∀ x ∈ c.exceptionTable.toList, covers x (g.pc + 3) = false)
    (hRframes : r0.length + 4 < R.frames) (hRlocals : 2 * g.monitorRoom + ((Value.ref a :: rest).map fun v => v.category).sum + (13 * (r0.length + 2) + 42) ≤ R.locals) (hlocks : meth.locks = false) :
    ∃ U : State, Steps p.tables e below (W9.setTop g) U ∧ U.status = .running ∧ Ended U below (.threw a) ∧ s.WarmedH U.vm ∧ s.sameButNew ({ U with vm := s.vm } : State) locs cells slots ∧
      ∃ ce, U.heap[a]? = some ce ∧ ce.vm = .none ∧ s.vm.findClass cls = some ce.cls := by
  have howns : e.platform.frameOwnsMonitors = true := by rw [X.admits.platform]
  have hfin : e.platform.finalization = false := by rw [X.admits.platform]
  have hpl : e.platform.magicAccessors = ({} : Platform).magicAccessors := by rw [X.admits.platform]
  have a' : ∀ x, x ∈ oaX own ic cls ix rx Y0 r0 → x.holds args s none s [] = true := fun x hx => h x hx
  obtain ⟨T, Z0, L, -, Y⟩ := ThrowableC.of_atoms (args := args) howns hfin hpl (fun x hx => h x (by simp [oaX, hx]))
  obtain ⟨Z, M, LZ, LM, hnZ⟩ := Init0T.ofS_atoms (args := args) hpl L Y (fun x hx => h x (by simp [oaX, hx]))
  obtain ⟨P1, Ps, hlen, L1, hL, hP1m, hlink1, hlink⟩ := chX_ok (args := args) hpl hnZ x0 x1 x2 x5 Y0 r0 cls hcls hY0 hnames (fun x hx => h x (by simp [oaX, hx]))
  have hfound : s.vm.findClass cls = some P1.m.cls := findClass_of_methodNamed hP1m
  cases Option.some.inj (hfoundX.symm.trans hfound)
  obtain ⟨c1, kX', hc1, hk, hord, -, -, hn6⟩ := Cond.instantiable_spec (a' (.instantiable cls 6) (by simp [oaX]))
  cases Option.some.inj (hc1.symm.trans hfound)
  cases Option.some.inj (hkX.symm.trans hk)
  have hsel0 : selectMethod e.platform s.vm P1.m.cls T.fill0 = .method T.fill0 := by
    obtain ⟨c2, r2, m2, q1, q2, q3, q4, -⟩ := Cond.selects_spec (a' (.selects cls Bundle.tFill0 Bundle.tFill0) (by simp [oaX]))
    cases Option.some.inj (q1.symm.trans hfound)
    cases Option.some.inj (q2.symm.trans (State.methodFound?_of_named Y.fill0 (by decide)))
    cases Option.some.inj (q3.symm.trans Y.fill0)
    rw [Launch.admits_selectMethod X.admits]; exact q4
  have hselF : selectMethod e.platform s.vm P1.m.cls T.fill = .method T.fill := by
    obtain ⟨c2, r2, m2, q1, q2, q3, q4, -⟩ := Cond.selects_spec (a' (.selects cls Bundle.tFill Bundle.tFill) (by simp [oaX]))
    cases Option.some.inj (q1.symm.trans hfound)
    cases Option.some.inj (q2.symm.trans (State.methodFound?_of_named Y.fill (by decide)))
    cases Option.some.inj (q3.symm.trans Y.fill)
    rw [Launch.admits_selectMethod X.admits]; exact q4
  obtain ⟨cellS0, hcS0, hiss⟩ := Y.statics
  obtain ⟨u0, hu0⟩ := Cond.staticRefV Y.unassigned L.unassignedStatic L.statics hcS0 hiss (a' (.isRef (.static Bundle.tN "UNASSIGNED_STACK" Bundle.steD)) (by simp [oaX]))
  obtain ⟨sen, hsen⟩ := Cond.staticRefV Y.sentinel L.sentinelStatic L.statics hcS0 hiss (a' (.isRef (.static Bundle.tN "SUPPRESSED_SENTINEL" Bundle.listD)) (by simp [oaX]))
  obtain ⟨ci198, i198, fB, hk198, hg198, ha198, hsB, -, hnB, htB, hffB⟩ := Cond.ownField (t := .object "java/lang/Object") Y.found L.cls (by decide +kernel) (a' (.fieldLink Bundle.tN 198 Bundle.tN "backtrace" "Ljava/lang/Object;") (by simp [oaX])) (a' (.lays Bundle.tN Bundle.tN "backtrace" "Ljava/lang/Object;") (by simp [oaX])) e.platform hpl
  obtain ⟨cellS, hcS', heS, -, hkeep⟩ := X.same.2.2.2.2.2 T.aS cellS0 hcS0
  have hcellS : W9.heap[T.aS]? = some cellS := hcS'
  have hout' : ∀ i, (⟨T.aS, i⟩ : Loc) ∉ locs := fun i hmem => by
    have := hlocs _ hmem cellS0 hcS0
    rw [hiss] at this; cases this
  have hknownS : cellS.vm ≠ .unknown := by
    rw [heS]; intro hu
    rw [show cellS0.vm = .unknown from hu] at hiss
    cases hiss
  have hneS : T.aS ≠ a := Nat.ne_of_lt (Nat.lt_of_lt_of_le (Array.getElem?_eq_some_iff.mp hcS0).1 hnew)
  obtain ⟨iM, hffM⟩ := Y.msg
  obtain ⟨tyC, dC, hdC, hdnC⟩ := Cond.laysAt hfound hk Y.cause (a' (.lays cls Bundle.tN "cause" "Ljava/lang/Throwable;") (by simp [oaX]))
  obtain ⟨tyS, dS, hdS, hdnS⟩ := Cond.laysAt hfound hk Y.stack (a' (.lays cls Bundle.tN "stackTrace" Bundle.steD) (by simp [oaX]))
  obtain ⟨tyP, dP, hdP, hdnP⟩ := Cond.laysAt hfound hk Y.supp (a' (.lays cls Bundle.tN "suppressedExceptions" Bundle.listD) (by simp [oaX]))
  obtain ⟨tyM, dM, hdM, hdnM⟩ := Cond.laysAt hfound hk hffM (a' (.lays cls Bundle.tN "detailMessage" "Ljava/lang/String;") (by simp [oaX]))
  obtain ⟨tyB, dB, hdB, hdnB⟩ := Cond.laysAt hfound hk hffB (a' (.lays cls Bundle.tN "backtrace" "Ljava/lang/Object;") (by simp [oaX]))
  have bC := Cond.laysApart hdB hdC hdnB hdnC (by rw [hnB, Y.causeName]; decide)
  have bS := Cond.laysApart hdB hdS hdnB hdnS (by rw [hnB, Y.stackName]; decide)
  have bP := Cond.laysApart hdB hdP hdnB hdnP (by rw [hnB, Y.suppName]; decide)
  have hskip : SkipFacts T e.platform s (fun u => u) u0 ((preparedCellV T.toThrowableT (freshCell P1.m.cls kX) a u0 sen).withEntry W9.cur) :=
    ⟨{ ci198 := ci198, i198 := i198, fBack := fB }, ⟨hk198, hg198, ha198, hsB⟩, by
      have := fresh_default (c := P1.m.cls) tyB
      rw [htB] at this
      simpa [preparedCellV, Cell.setSlot, Cell.withEntry, Array.getElem?_setIfInBounds, bC, bS, bP, bC.symm, bS.symm, bP.symm, defaultValue] using this, fun _ _ => rfl⟩
  obtain ⟨tm, methC, cdC, kC, vm₁, hnC, -, -, -, -, -, -, -, hW₁, st1⟩ := Steps.initColdS (tb := p.tables) (e := e) (below := below) (s := s) (U := W9) X.here hexec X.warmed hpl hown (t := Bundle.initS cls) rfl rfl (Bundle.fit_spec hcls).2
    (a' (.methodLink own ic (Bundle.initS cls)) (by simp [oaX])) (h (.instanceMethod (Bundle.initS cls)) (by simp [oaX, chX, Bundle.passSAtoms])) (bytes := rx) (maxL := 2) (h (.code (Bundle.initS cls) rx 2 none) (by simp [oaX, chX, Bundle.passSAtoms]))
    (f := g) hg (a := a) (msg := msg) (rest := .ref a :: rest) hstack hd6
  cases Option.some.inj (hnC.symm.trans hP1m)
  have X₁ := X.noted hW₁
  obtain ⟨vm₂, X₂, st2⟩ := X₁.ctorMessageOffV hexec (g := { g with stack := .ref a :: rest }) hg hsize T L Z LZ M LM (P1 :: Ps)
    (fun P hP => by rcases List.mem_cons.mp hP with rfl | hP; exact L1; exact hL P hP) ⟨hlink1, hlink⟩ (u0 := u0) (sen := sen) (self := a) hmsg (cell := freshCell P1.m.cls kX) (cellS := cellS)
    hcell (fun _ => by simp) (by simp) rfl rfl hsel0 hselF hcellS hneS hknownS (by rw [hkeep _ (hout' _)]; exact hu0) (by rw [hkeep _ (hout' _)]; exact hsen)
    (Takes.of_laid hk hord tyC (by rw [Y.causeType]; rfl)) (Takes.of_laid hk hord tyS (by rw [Y.stackType]; exact fits_refV_array _ u0)) (Takes.of_laid hk hord tyP (by rw [Y.suppType]; exact fits_refV_object _ sen))
    (Takes.of_laid hk hord tyM (by rw [Y.msgType]; exact fits_refV_object _ ⟨msg, hmsg⟩)) Y.objLocals hskip htr [] hd6
    (by simp only [List.length_cons, hlen]; omega) (by simp only [List.length_cons, hlen]; exact hRlocals)
  obtain ⟨hwalk, hrun, hended, hWU, hsame⟩ := X₂.athrowLeaves hexec (g := { g with stack := .ref a :: rest, pc := g.pc + 3 }) hg hlocked hentered hout (a := a) (rest := rest) rfl hd9
  have hlt : a < ((W9.setVm vm₁).setVm vm₂).heap.size := (Array.getElem?_eq_some_iff.mp hcell).1
  have hU := heapAt_setCell_self (s := (W9.setVm vm₁).setVm vm₂) (plainBareV T.toThrowableT (freshCell P1.m.cls kX) a u0 sen msg) hlt
  refine ⟨_, st1 _ (fun acts => ?_), hrun, hended, hWU, hsame.weaken (fun y hy hlt' => ?_) (Nat.le_refl _) (Nat.le_refl _), _, hU, rfl, hfound⟩
  · rw [doInvoke_state]
    exact st2 _ hwalk
  · rcases List.mem_append.mp hy with h1 | h1
    · exact h1
    · exfalso
      have hb : y.base = a := by
        simp only [List.mem_cons, List.not_mem_nil, or_false] at h1
        rcases h1 with rfl | rfl | rfl | rfl | rfl <;> rfl
      rw [hb] at hlt'
      exact Nat.not_lt.mpr hnew hlt'
end TX
abbrev xRE : String := "java/lang/RuntimeException"
def xr0 : List String := ["java/lang/Exception"]
def atX (own : String) (ic : Nat) (E : String) (ix : Nat) (rx : ByteArray) : List Cond := (oaX own ic E ix rx xRE xr0).filter vx_no
/-- the words of a 'throw new E("text")' in the class own -/
def Th (own E : String) (ik is ic ix k0 : Nat) (rx : ByteArray) (tx : String) : Prop :=
  (Bundle.fit E = true ∧ E ∈ excs ∧ (own, is, tx, k0) ∈ ldcs) ∧ (decode rx 0 = .ok (.aload_n 0, 1) ∧ decode rx 1 = .ok (.aload_n 1, 1) ∧ decode rx 2 = .ok (.invokespecial ix, 3) ∧ decode rx 5 = .ok (.return_, 1)) ∧ Cond.classLink own ik E ∈ TB ∧ Cond.initialized E ∈ TB ∧ (∀ w ∈ (atX own ic E ix rx).filter goodWord, w ∈ TB) ∧ (∀ w ∈ (atX own ic E ix rx).filter (fun w => !goodWord w), w ∈ Cond.castable E E :: sups.map (fun q => Cond.declares (Bundle.initS q))) ∧ (∀ w ∈ Cond.classLink own ik E :: Cond.initialized E :: atX own ic E ix rx, vx_ot w = true)
section RT2
variable {B : Bd} {y : Mt} {d rc rs : Nat} {Φ : Ot → Mm → Prop} {pc : Nat} {L : Lc} {st : List Value} {M : Mm}
set_option maxHeartbeats 4000000 in
theorem e_throw {E tx : String} {ik is ic ix k0 : Nat} {rx : ByteArray} (hw : Th y.1.cls E ik is ic ix k0 rx tx) (d0 : decode y.2.1 pc = .ok (.new ik, 3)) (d3 : decode y.2.1 (pc + 3) = .ok (.dup, 1)) (d4 : decode y.2.1 (pc + 4) = .ok (.ldc is, 2)) (d6 : decode y.2.1 (pc + 6) = .ok (.invokespecial ic, 3)) (d9 : decode y.2.1 (pc + 9) = .ok (.athrow, 1))
    (ht : y.2.2.2.2 = []) (hd : 6 ≤ d) (h1 : 1 ≤ rc) (h2 : 6 ≤ rs) (hst : (st.map fun v => v.category).sum ≤ 8) (h : Φ (.inr E) (loose M)) : Ev B y d rc rs Φ pc L st M := by
  intro p e R s m args below meth c C ls H locs cells slots hl hR hS hc hs
  obtain ⟨⟨w1, w2, w3⟩, ⟨x0, x1, x2, x5⟩, w4, w5, w6, w7, w8⟩ := hw
  obtain ⟨hfr, hlo⟩ := C.2.2.2.2.2.2
  have hst' := cat8 hst (ba B)
  have hb := C.1.2.1
  intro T hT X
  have htr : e.platform.stackTraces = false := (show e.platform.stackTraces = (bl B).stackTraces by rw [X.admits.platform]).trans C.2.2.2.2.2.1.2.2
  have Y := vx_rebase X (R' := { frames := R.frames, locals := R.locals, cells := 1, slots := 6 }) (Nat.le_refl _) (Nat.le_refl _) (by show cells + 1 ≤ R.cells; omega) (by show slots + 6 ≤ R.slots; omega)
  obtain ⟨s', hA⟩ : ∃ z, z = (T.setVm s.vm).setFrames (.invoking m args :: below) := ⟨_, rfl⟩
  rw [← hA] at Y
  have hvm : s'.vm = s.vm := by rw [hA]; rfl
  have hhp : s'.heap = H := by rw [hA]; exact hT
  have hW0 : s.WarmedH s'.vm := by rw [hvm]; exact State.WarmedH.refl s
  have hat : ∀ w ∈ atX y.1.cls ic E ix rx, w.before args s = true := vx_hat (fun w h9 => C.2.1 w (w6 w h9)) w7 (fun w h9 => by
    rcases List.mem_cons.mp h9 with rfl | h9
    · exact va_Nw.use rfl (C.2.2.2.2.1.2.2.2.2.2.2.2.1.1 _ w2)
    · obtain ⟨q, hq, rfl⟩ := List.mem_map.mp h9
      exact va_Nw.use rfl (C.2.2.2.2.1.2.2.2.2.2.2.2.1.2 _ hq))
  have hat' : ∀ w ∈ atX y.1.cls ic E ix rx, w.before args s' = true := fun w hw => vx_ot_at hW0 hvm.symm (w8 w (List.mem_cons_of_mem _ (List.mem_cons_of_mem _ hw))) (hat w hw)
  have hk' : (Cond.classLink y.1.cls ik E).before args s' = true := vx_ot_at hW0 hvm.symm (w8 _ List.mem_cons_self) (C.2.1 _ w4)
  have hini' : (Cond.initialized E).before args s' = true := vx_ot_at hW0 hvm.symm (w8 _ (List.mem_cons_of_mem _ List.mem_cons_self)) (C.2.1 _ w5)
  have hU' : vx_Zq Bundle.tN "UNASSIGNED_STACK" Bundle.steD (fr B) s' s'.heap := by rw [hhp]; exact vx_Zq.moved hW0.alike (C.2.2.2.2.1.2.2.2.2.1.1.kept hS.2.1)
  have hN' : vx_Zq Bundle.tN "SUPPRESSED_SENTINEL" Bundle.listD (fr B) s' s'.heap := by rw [hhp]; exact vx_Zq.moved hW0.alike (C.2.2.2.2.1.2.2.2.2.1.2.kept hS.2.1)
  have hh : ∀ w ∈ oaX y.1.cls ic E ix rx xRE xr0, w.before args s' = true := vx_own hat' (vx_isRefq hU'.1) (vx_isRefq hN'.1) hU'.2.word hN'.2.word
  have hown' : s'.vm.findClass y.1.cls = some m.cls := by rw [hvm]; exact C.1.2.2.2.2
  have hins : (Cond.instantiable E 6).before args s' = true := hh _ (by simp [oaX])
  obtain ⟨vm₁, cX, kX, hfX, hkX, -, -, X₁, st1⟩ := Y.newCold C.1.1 (own := y.1.cls) (C := E) (index := ik) (n := 6) hown' hk' hins hini'
    (g := F0 m pc ls (st.map (tr (ba B)))) rfl (by rw [hb]; exact d0) (Nat.le_refl _) (Nat.le_refl _)
  generalize hT1 : (T.setVm vm₁).pushCell { cls := cX, slots := kX.instanceTypes.map defaultValue, vm := .none } = T1 at X₁ st1
  have hcat : (Value.ref T.heap.size).category = 1 := rfl
  have hcellA : T1.heap[T.heap.size]? = some (freshCell cX kX) := by rw [← hT1]; exact State.heap_pushCell_size _ _
  have d3' : decode c.code (pc + 3) = .ok (.dup, 1) := by rw [hb]; exact d3
  have d4' : decode c.code (pc + 4) = .ok (.ldc is, 2) := by rw [hb]; exact d4
  have hstr' : vk_R y.1.cls is tx (ba B (1000001 + k0)) s' := vk_R.warm hW0 (C.2.2.2.2.1.2.2.1 _ w3)
  have hsize : ls.size = c.maxLocals := hl.1.trans C.1.2.2.2.1.symm
  obtain ⟨U, hsteps, hrun, hend, hW, hsame, ce, hce, hcv, hcf⟩ := ctorThrowX X₁ C.1.1 htr (own := y.1.cls) (cls := E) (Y0 := xRE) (r0 := xr0) (ic := ic) x0 x1 x2 x5 hown' w1 (by decide +kernel) (by decide +kernel) hh (fun x hx => nomatch hx) hfX hkX hcellA (by rw [hhp, hT]; exact Nat.le_refl _) (msg := .ref (ba B (1000001 + k0))) rfl
    (g := { method := m, pc := pc + 6, locals := ls, stack := .ref (ba B (1000001 + k0)) :: .ref T.heap.size :: .ref T.heap.size :: st.map (tr (ba B)), locked := none }) rfl hsize rfl rfl (rest := st.map (tr (ba B))) rfl
    (by rw [hb]; exact d6) (by rw [hb]; exact d9) (fun x hx => by rw [C.2.2.1.2.2, ht] at hx; cases hx) (by show 1 + 4 < R.frames; omega) (by simp only [List.map_cons, List.sum_cons, hcat]; show 2 * 0 + _ + (13 * (1 + 2) + 42) ≤ R.locals; omega) C.2.2.1.1
  obtain ⟨f1, f2⟩ := vx_frame hsame
  rw [hhp] at f1 f2
  have hWs : s.WarmedH U.vm := State.WarmedH.trans hW0 hW
  have hcl : s.vm.findClass E = some ce.cls := by
    rw [hvm] at hcf
    exact hcf
  have hall : s.sameButNew ({ U with vm := s.vm } : State) locs R.cells R.slots := by
    subst hA
    obtain ⟨e1, e2⟩ := hsame
    rw [State.setFrames_setFrames] at e1
    have h2 : (T.setVm s.vm).sameButNew ({ U with vm := s.vm } : State) [] (0 + 1) (0 + 6) := ⟨e1, e2⟩
    have h3 := X.same.trans h2
    rw [List.append_nil] at h3
    exact h3.mono (by omega) (by omega)
  have hkeep : ∀ q, q < H.size → U.heap[q]? = H[q]? := fun q hq => f2 q hq (fun z hz => nomatch hz)
  refine ⟨U, ?_, .threw T.heap.size, hrun, hend, Or.inr ⟨T.heap.size, rfl, E, ce, locs, ⟨⟨loose M, h, hR.kept f1 hkeep⟩, ⟨Nat.le_trans hS.1 f1, fun q q1 q2 => (hkeep q (Nat.lt_of_lt_of_le q1 hS.1)).trans (hS.2.1 q q1 q2)⟩⟩, hce, hcv, hcl, hWs, hall, hS.2.2⟩⟩
  refine st1 _ ?_
  show Steps p.tables e below (T1.setTop { method := m, pc := pc + 3, locals := ls, stack := .ref T.heap.size :: st.map (tr (ba B)), locked := none }) _
  jvm_step X₁.here [X₁.here.top, C.1.1, d3', Value.category]
  exact X₁.ldcString C.1.1 (own := y.1.cls) (text := tx) (index := is) (a := ba B (1000001 + k0)) hown' hstr'.1 hstr'.2
    (g := { method := m, pc := pc + 4, locals := ls, stack := .ref T.heap.size :: .ref T.heap.size :: st.map (tr (ba B)), locked := none }) rfl d4' _ hsteps
end RT2
end
