section
-- ===== PART A: goes FIRST, ahead of the names: the tables' words, and 'selects' of the private methods out of them =====
/-- a private method of a class that the tables say can be made, by its rows of tables_1 -/
def lw_okq (q : MethodName × Nat) : Prop := (q.1.cls ≠ "java/lang/invoke/MethodHandle" ∧ q.1.cls ≠ "java/lang/invoke/VarHandle") ∧ Cond.instantiable q.1.cls q.2 ∈ tables_1 ∧ Cond.privateMethod q.1 ∈ tables_1 ∧ Cond.instanceMethod q.1 ∈ tables_1
theorem lw_p0 : lw_okq (⟨"KeepingHands", "layOnTape", "(I)V"⟩, 14) := ⟨⟨by decide +kernel, by decide +kernel⟩, List.mem_of_getElem? (i := 22) (by decide +kernel), List.mem_of_getElem? (i := 330) (by decide +kernel), List.mem_of_getElem? (i := 331) (by decide +kernel)⟩
theorem lw_p1 : lw_okq (⟨"KeepingHands", "reckonCases", "()V"⟩, 14) := ⟨⟨by decide +kernel, by decide +kernel⟩, List.mem_of_getElem? (i := 22) (by decide +kernel), List.mem_of_getElem? (i := 350) (by decide +kernel), List.mem_of_getElem? (i := 351) (by decide +kernel)⟩
theorem lw_p2 : lw_okq (⟨"KeepingHands", "allCases", "()I"⟩, 14) := ⟨⟨by decide +kernel, by decide +kernel⟩, List.mem_of_getElem? (i := 22) (by decide +kernel), List.mem_of_getElem? (i := 373) (by decide +kernel), List.mem_of_getElem? (i := 374) (by decide +kernel)⟩
theorem lw_p3 : lw_okq (⟨"KeepingHands", "lawInForce", "()LKeepingHands$Law;"⟩, 14) := ⟨⟨by decide +kernel, by decide +kernel⟩, List.mem_of_getElem? (i := 22) (by decide +kernel), List.mem_of_getElem? (i := 392) (by decide +kernel), List.mem_of_getElem? (i := 393) (by decide +kernel)⟩
theorem lw_p4 : lw_okq (⟨"KeepingHands", "isLaw", "(I)Z"⟩, 14) := ⟨⟨by decide +kernel, by decide +kernel⟩, List.mem_of_getElem? (i := 22) (by decide +kernel), List.mem_of_getElem? (i := 396) (by decide +kernel), List.mem_of_getElem? (i := 397) (by decide +kernel)⟩
theorem lw_p5 : lw_okq (⟨"KeepingHands$End", "clear", "()V"⟩, 8) := ⟨⟨by decide +kernel, by decide +kernel⟩, List.mem_of_getElem? (i := 246) (by decide +kernel), List.mem_of_getElem? (i := 405) (by decide +kernel), List.mem_of_getElem? (i := 406) (by decide +kernel)⟩
theorem lw_p6 : lw_okq (⟨"KeepingHands$End", "claimOn", "(ILKeepingHands$Chain;LKeepingHands$Law;)V"⟩, 8) := ⟨⟨by decide +kernel, by decide +kernel⟩, List.mem_of_getElem? (i := 246) (by decide +kernel), List.mem_of_getElem? (i := 410) (by decide +kernel), List.mem_of_getElem? (i := 411) (by decide +kernel)⟩
theorem lw_p7 : lw_okq (⟨"KeepingHands$Law", "isFor", "(III)Z"⟩, 10) := ⟨⟨by decide +kernel, by decide +kernel⟩, List.mem_of_getElem? (i := 31) (by decide +kernel), List.mem_of_getElem? (i := 430) (by decide +kernel), List.mem_of_getElem? (i := 431) (by decide +kernel)⟩
theorem lw_p8 : lw_okq (⟨"KeepingHands$Law", "work", "(I[I)I"⟩, 10) := ⟨⟨by decide +kernel, by decide +kernel⟩, List.mem_of_getElem? (i := 31) (by decide +kernel), List.mem_of_getElem? (i := 441) (by decide +kernel), List.mem_of_getElem? (i := 442) (by decide +kernel)⟩
theorem lw_p9 : lw_okq (⟨"KeepingHands$End", "payUp", "(LKeepingHands$Chain;)V"⟩, 8) := ⟨⟨by decide +kernel, by decide +kernel⟩, List.mem_of_getElem? (i := 246) (by decide +kernel), List.mem_of_getElem? (i := 460) (by decide +kernel), List.mem_of_getElem? (i := 461) (by decide +kernel)⟩
theorem lw_p10 : lw_okq (⟨"KeepingHands$End", "payOwner", "(I)V"⟩, 8) := ⟨⟨by decide +kernel, by decide +kernel⟩, List.mem_of_getElem? (i := 246) (by decide +kernel), List.mem_of_getElem? (i := 465) (by decide +kernel), List.mem_of_getElem? (i := 466) (by decide +kernel)⟩
theorem lw_p11 : lw_okq (⟨"KeepingHands", "matters", "(I)Z"⟩, 14) := ⟨⟨by decide +kernel, by decide +kernel⟩, List.mem_of_getElem? (i := 22) (by decide +kernel), List.mem_of_getElem? (i := 470) (by decide +kernel), List.mem_of_getElem? (i := 471) (by decide +kernel)⟩
theorem lw_p12 : lw_okq (⟨"KeepingHands", "areBorneAlike", "(II)Z"⟩, 14) := ⟨⟨by decide +kernel, by decide +kernel⟩, List.mem_of_getElem? (i := 22) (by decide +kernel), List.mem_of_getElem? (i := 474) (by decide +kernel), List.mem_of_getElem? (i := 475) (by decide +kernel)⟩
theorem lw_p13 : lw_okq (⟨"java/lang/Throwable", "fillInStackTrace", "(I)Ljava/lang/Throwable;"⟩, 6) := ⟨⟨by decide +kernel, by decide +kernel⟩, List.mem_of_getElem? (i := 554) (by decide +kernel), List.mem_of_getElem? (i := 552) (by decide +kernel), List.mem_of_getElem? (i := 553) (by decide +kernel)⟩
theorem lw_p14 : lw_okq (⟨"KeepingHands$LawReader", "nextToken", "()V"⟩, 10) := ⟨⟨by decide +kernel, by decide +kernel⟩, List.mem_of_getElem? (i := 71) (by decide +kernel), List.mem_of_getElem? (i := 593) (by decide +kernel), List.mem_of_getElem? (i := 594) (by decide +kernel)⟩
theorem lw_p15 : lw_okq (⟨"KeepingHands$LawReader", "readClause", "()Z"⟩, 10) := ⟨⟨by decide +kernel, by decide +kernel⟩, List.mem_of_getElem? (i := 71) (by decide +kernel), List.mem_of_getElem? (i := 603) (by decide +kernel), List.mem_of_getElem? (i := 604) (by decide +kernel)⟩
def lw_privs_1 : List (MethodName × Nat) := [(⟨"KeepingHands", "layOnTape", "(I)V"⟩, 14), (⟨"KeepingHands", "reckonCases", "()V"⟩, 14), (⟨"KeepingHands", "allCases", "()I"⟩, 14), (⟨"KeepingHands", "lawInForce", "()LKeepingHands$Law;"⟩, 14), (⟨"KeepingHands", "isLaw", "(I)Z"⟩, 14), (⟨"KeepingHands$End", "clear", "()V"⟩, 8), (⟨"KeepingHands$End", "claimOn", "(ILKeepingHands$Chain;LKeepingHands$Law;)V"⟩, 8), (⟨"KeepingHands$Law", "isFor", "(III)Z"⟩, 10), (⟨"KeepingHands$Law", "work", "(I[I)I"⟩, 10), (⟨"KeepingHands$End", "payUp", "(LKeepingHands$Chain;)V"⟩, 8), (⟨"KeepingHands$End", "payOwner", "(I)V"⟩, 8), (⟨"KeepingHands", "matters", "(I)Z"⟩, 14), (⟨"KeepingHands", "areBorneAlike", "(II)Z"⟩, 14), (⟨"java/lang/Throwable", "fillInStackTrace", "(I)Ljava/lang/Throwable;"⟩, 6), (⟨"KeepingHands$LawReader", "nextToken", "()V"⟩, 10), (⟨"KeepingHands$LawReader", "readClause", "()Z"⟩, 10)]
theorem lw_r1 : ∀ q ∈ lw_privs_1, lw_okq q := List.forall_mem_cons.mpr ⟨lw_p0, List.forall_mem_cons.mpr ⟨lw_p1, List.forall_mem_cons.mpr ⟨lw_p2, List.forall_mem_cons.mpr ⟨lw_p3, List.forall_mem_cons.mpr ⟨lw_p4, List.forall_mem_cons.mpr ⟨lw_p5, List.forall_mem_cons.mpr ⟨lw_p6, List.forall_mem_cons.mpr ⟨lw_p7, List.forall_mem_cons.mpr ⟨lw_p8, List.forall_mem_cons.mpr ⟨lw_p9, List.forall_mem_cons.mpr ⟨lw_p10, List.forall_mem_cons.mpr ⟨lw_p11, List.forall_mem_cons.mpr ⟨lw_p12, List.forall_mem_cons.mpr ⟨lw_p13, List.forall_mem_cons.mpr ⟨lw_p14, List.forall_mem_cons.mpr ⟨lw_p15, fun _ h => absurd h List.not_mem_nil⟩⟩⟩⟩⟩⟩⟩⟩⟩⟩⟩⟩⟩⟩⟩⟩
theorem lw_p16 : lw_okq (⟨"KeepingHands$LawReader", "wordOf", "(Ljava/lang/String;)I"⟩, 10) := ⟨⟨by decide +kernel, by decide +kernel⟩, List.mem_of_getElem? (i := 71) (by decide +kernel), List.mem_of_getElem? (i := 608) (by decide +kernel), List.mem_of_getElem? (i := 609) (by decide +kernel)⟩
theorem lw_p17 : lw_okq (⟨"KeepingHands$LawReader", "isSame", "(Ljava/lang/String;II)Z"⟩, 10) := ⟨⟨by decide +kernel, by decide +kernel⟩, List.mem_of_getElem? (i := 71) (by decide +kernel), List.mem_of_getElem? (i := 660) (by decide +kernel), List.mem_of_getElem? (i := 661) (by decide +kernel)⟩
theorem lw_p18 : lw_okq (⟨"KeepingHands$LawReader", "isWord", "(Ljava/lang/String;)Z"⟩, 10) := ⟨⟨by decide +kernel, by decide +kernel⟩, List.mem_of_getElem? (i := 71) (by decide +kernel), List.mem_of_getElem? (i := 665) (by decide +kernel), List.mem_of_getElem? (i := 666) (by decide +kernel)⟩
theorem lw_p19 : lw_okq (⟨"KeepingHands$LawReader", "fail", "(I)Z"⟩, 10) := ⟨⟨by decide +kernel, by decide +kernel⟩, List.mem_of_getElem? (i := 71) (by decide +kernel), List.mem_of_getElem? (i := 669) (by decide +kernel), List.mem_of_getElem? (i := 670) (by decide +kernel)⟩
theorem lw_p20 : lw_okq (⟨"KeepingHands$LawReader", "readMixing", "()Z"⟩, 10) := ⟨⟨by decide +kernel, by decide +kernel⟩, List.mem_of_getElem? (i := 71) (by decide +kernel), List.mem_of_getElem? (i := 677) (by decide +kernel), List.mem_of_getElem? (i := 678) (by decide +kernel)⟩
theorem lw_p21 : lw_okq (⟨"KeepingHands$LawReader", "readKeeping", "(I)Z"⟩, 10) := ⟨⟨by decide +kernel, by decide +kernel⟩, List.mem_of_getElem? (i := 71) (by decide +kernel), List.mem_of_getElem? (i := 690) (by decide +kernel), List.mem_of_getElem? (i := 691) (by decide +kernel)⟩
theorem lw_p22 : lw_okq (⟨"KeepingHands$LawReader", "readSum", "()Z"⟩, 10) := ⟨⟨by decide +kernel, by decide +kernel⟩, List.mem_of_getElem? (i := 71) (by decide +kernel), List.mem_of_getElem? (i := 695) (by decide +kernel), List.mem_of_getElem? (i := 696) (by decide +kernel)⟩
theorem lw_p23 : lw_okq (⟨"KeepingHands$LawReader", "readProduct", "()Z"⟩, 10) := ⟨⟨by decide +kernel, by decide +kernel⟩, List.mem_of_getElem? (i := 71) (by decide +kernel), List.mem_of_getElem? (i := 699) (by decide +kernel), List.mem_of_getElem? (i := 700) (by decide +kernel)⟩
theorem lw_p24 : lw_okq (⟨"KeepingHands$LawReader", "readUnit", "()Z"⟩, 10) := ⟨⟨by decide +kernel, by decide +kernel⟩, List.mem_of_getElem? (i := 71) (by decide +kernel), List.mem_of_getElem? (i := 703) (by decide +kernel), List.mem_of_getElem? (i := 704) (by decide +kernel)⟩
theorem lw_p25 : lw_okq (⟨"KeepingHands$LawReader", "enter", "()Z"⟩, 10) := ⟨⟨by decide +kernel, by decide +kernel⟩, List.mem_of_getElem? (i := 71) (by decide +kernel), List.mem_of_getElem? (i := 707) (by decide +kernel), List.mem_of_getElem? (i := 708) (by decide +kernel)⟩
theorem lw_p26 : lw_okq (⟨"KeepingHands$LawReader", "leave", "(I)Z"⟩, 10) := ⟨⟨by decide +kernel, by decide +kernel⟩, List.mem_of_getElem? (i := 71) (by decide +kernel), List.mem_of_getElem? (i := 711) (by decide +kernel), List.mem_of_getElem? (i := 712) (by decide +kernel)⟩
theorem lw_p27 : lw_okq (⟨"KeepingHands$LawReader", "readNumber", "()Z"⟩, 10) := ⟨⟨by decide +kernel, by decide +kernel⟩, List.mem_of_getElem? (i := 71) (by decide +kernel), List.mem_of_getElem? (i := 715) (by decide +kernel), List.mem_of_getElem? (i := 716) (by decide +kernel)⟩
theorem lw_p28 : lw_okq (⟨"KeepingHands$LawReader", "isNumber", "(II)Z"⟩, 10) := ⟨⟨by decide +kernel, by decide +kernel⟩, List.mem_of_getElem? (i := 71) (by decide +kernel), List.mem_of_getElem? (i := 719) (by decide +kernel), List.mem_of_getElem? (i := 720) (by decide +kernel)⟩
theorem lw_p29 : lw_okq (⟨"KeepingHands$LawReader", "readChoice", "(I)Z"⟩, 10) := ⟨⟨by decide +kernel, by decide +kernel⟩, List.mem_of_getElem? (i := 71) (by decide +kernel), List.mem_of_getElem? (i := 728) (by decide +kernel), List.mem_of_getElem? (i := 729) (by decide +kernel)⟩
theorem lw_p30 : lw_okq (⟨"KeepingHands$LawReader", "take", "(I)Z"⟩, 10) := ⟨⟨by decide +kernel, by decide +kernel⟩, List.mem_of_getElem? (i := 71) (by decide +kernel), List.mem_of_getElem? (i := 732) (by decide +kernel), List.mem_of_getElem? (i := 733) (by decide +kernel)⟩
theorem lw_p31 : lw_okq (⟨"KeepingHands$LawReader", "readTerms", "()Z"⟩, 10) := ⟨⟨by decide +kernel, by decide +kernel⟩, List.mem_of_getElem? (i := 71) (by decide +kernel), List.mem_of_getElem? (i := 737) (by decide +kernel), List.mem_of_getElem? (i := 738) (by decide +kernel)⟩
def lw_privs_2 : List (MethodName × Nat) := [(⟨"KeepingHands$LawReader", "wordOf", "(Ljava/lang/String;)I"⟩, 10), (⟨"KeepingHands$LawReader", "isSame", "(Ljava/lang/String;II)Z"⟩, 10), (⟨"KeepingHands$LawReader", "isWord", "(Ljava/lang/String;)Z"⟩, 10), (⟨"KeepingHands$LawReader", "fail", "(I)Z"⟩, 10), (⟨"KeepingHands$LawReader", "readMixing", "()Z"⟩, 10), (⟨"KeepingHands$LawReader", "readKeeping", "(I)Z"⟩, 10), (⟨"KeepingHands$LawReader", "readSum", "()Z"⟩, 10), (⟨"KeepingHands$LawReader", "readProduct", "()Z"⟩, 10), (⟨"KeepingHands$LawReader", "readUnit", "()Z"⟩, 10), (⟨"KeepingHands$LawReader", "enter", "()Z"⟩, 10), (⟨"KeepingHands$LawReader", "leave", "(I)Z"⟩, 10), (⟨"KeepingHands$LawReader", "readNumber", "()Z"⟩, 10), (⟨"KeepingHands$LawReader", "isNumber", "(II)Z"⟩, 10), (⟨"KeepingHands$LawReader", "readChoice", "(I)Z"⟩, 10), (⟨"KeepingHands$LawReader", "take", "(I)Z"⟩, 10), (⟨"KeepingHands$LawReader", "readTerms", "()Z"⟩, 10)]
theorem lw_r2 : ∀ q ∈ lw_privs_2, lw_okq q := List.forall_mem_cons.mpr ⟨lw_p16, List.forall_mem_cons.mpr ⟨lw_p17, List.forall_mem_cons.mpr ⟨lw_p18, List.forall_mem_cons.mpr ⟨lw_p19, List.forall_mem_cons.mpr ⟨lw_p20, List.forall_mem_cons.mpr ⟨lw_p21, List.forall_mem_cons.mpr ⟨lw_p22, List.forall_mem_cons.mpr ⟨lw_p23, List.forall_mem_cons.mpr ⟨lw_p24, List.forall_mem_cons.mpr ⟨lw_p25, List.forall_mem_cons.mpr ⟨lw_p26, List.forall_mem_cons.mpr ⟨lw_p27, List.forall_mem_cons.mpr ⟨lw_p28, List.forall_mem_cons.mpr ⟨lw_p29, List.forall_mem_cons.mpr ⟨lw_p30, List.forall_mem_cons.mpr ⟨lw_p31, fun _ h => absurd h List.not_mem_nil⟩⟩⟩⟩⟩⟩⟩⟩⟩⟩⟩⟩⟩⟩⟩⟩
theorem lw_p32 : lw_okq (⟨"KeepingHands$LawReader", "readTerm", "()Z"⟩, 10) := ⟨⟨by decide +kernel, by decide +kernel⟩, List.mem_of_getElem? (i := 71) (by decide +kernel), List.mem_of_getElem? (i := 741) (by decide +kernel), List.mem_of_getElem? (i := 742) (by decide +kernel)⟩
theorem lw_p33 : lw_okq (⟨"KeepingHands$LawReader", "readHarms", "()Z"⟩, 10) := ⟨⟨by decide +kernel, by decide +kernel⟩, List.mem_of_getElem? (i := 71) (by decide +kernel), List.mem_of_getElem? (i := 749) (by decide +kernel), List.mem_of_getElem? (i := 750) (by decide +kernel)⟩
theorem lw_p34 : lw_okq (⟨"KeepingHands$LawReader", "readHarm", "()Z"⟩, 10) := ⟨⟨by decide +kernel, by decide +kernel⟩, List.mem_of_getElem? (i := 71) (by decide +kernel), List.mem_of_getElem? (i := 753) (by decide +kernel), List.mem_of_getElem? (i := 754) (by decide +kernel)⟩
theorem lw_p35 : lw_okq (⟨"KeepingHands$LawReader", "takeWord", "(Ljava/lang/String;)Z"⟩, 10) := ⟨⟨by decide +kernel, by decide +kernel⟩, List.mem_of_getElem? (i := 71) (by decide +kernel), List.mem_of_getElem? (i := 759) (by decide +kernel), List.mem_of_getElem? (i := 760) (by decide +kernel)⟩
theorem lw_p36 : lw_okq (⟨"KeepingHands$LawReader", "readEither", "()Z"⟩, 10) := ⟨⟨by decide +kernel, by decide +kernel⟩, List.mem_of_getElem? (i := 71) (by decide +kernel), List.mem_of_getElem? (i := 763) (by decide +kernel), List.mem_of_getElem? (i := 764) (by decide +kernel)⟩
theorem lw_p37 : lw_okq (⟨"KeepingHands$LawReader", "readBoth", "()Z"⟩, 10) := ⟨⟨by decide +kernel, by decide +kernel⟩, List.mem_of_getElem? (i := 71) (by decide +kernel), List.mem_of_getElem? (i := 767) (by decide +kernel), List.mem_of_getElem? (i := 768) (by decide +kernel)⟩
theorem lw_p38 : lw_okq (⟨"KeepingHands$LawReader", "readCondition", "()Z"⟩, 10) := ⟨⟨by decide +kernel, by decide +kernel⟩, List.mem_of_getElem? (i := 71) (by decide +kernel), List.mem_of_getElem? (i := 771) (by decide +kernel), List.mem_of_getElem? (i := 772) (by decide +kernel)⟩
theorem lw_p39 : lw_okq (⟨"KeepingHands$LawReader", "readNot", "()Z"⟩, 10) := ⟨⟨by decide +kernel, by decide +kernel⟩, List.mem_of_getElem? (i := 71) (by decide +kernel), List.mem_of_getElem? (i := 776) (by decide +kernel), List.mem_of_getElem? (i := 777) (by decide +kernel)⟩
theorem lw_p40 : lw_okq (⟨"KeepingHands$LawReader", "readComparison", "()Z"⟩, 10) := ⟨⟨by decide +kernel, by decide +kernel⟩, List.mem_of_getElem? (i := 71) (by decide +kernel), List.mem_of_getElem? (i := 780) (by decide +kernel), List.mem_of_getElem? (i := 781) (by decide +kernel)⟩
theorem lw_p41 : lw_okq (⟨"KeepingHands", "nameCase", "(IIII)V"⟩, 14) := ⟨⟨by decide +kernel, by decide +kernel⟩, List.mem_of_getElem? (i := 22) (by decide +kernel), List.mem_of_getElem? (i := 800) (by decide +kernel), List.mem_of_getElem? (i := 801) (by decide +kernel)⟩
theorem lw_p42 : lw_okq (⟨"KeepingHands", "needHand", "(I)V"⟩, 14) := ⟨⟨by decide +kernel, by decide +kernel⟩, List.mem_of_getElem? (i := 22) (by decide +kernel), List.mem_of_getElem? (i := 840) (by decide +kernel), List.mem_of_getElem? (i := 841) (by decide +kernel)⟩
theorem lw_p43 : lw_okq (⟨"KeepingHands", "burdenedCases", "(I)I"⟩, 14) := ⟨⟨by decide +kernel, by decide +kernel⟩, List.mem_of_getElem? (i := 22) (by decide +kernel), List.mem_of_getElem? (i := 969) (by decide +kernel), List.mem_of_getElem? (i := 970) (by decide +kernel)⟩
theorem lw_p44 : lw_okq (⟨"KeepingHands", "isBurdened", "(II)Z"⟩, 14) := ⟨⟨by decide +kernel, by decide +kernel⟩, List.mem_of_getElem? (i := 22) (by decide +kernel), List.mem_of_getElem? (i := 973) (by decide +kernel), List.mem_of_getElem? (i := 974) (by decide +kernel)⟩
theorem lw_p45 : lw_okq (⟨"KeepingHands", "casesLikeBit", "(II)I"⟩, 14) := ⟨⟨by decide +kernel, by decide +kernel⟩, List.mem_of_getElem? (i := 22) (by decide +kernel), List.mem_of_getElem? (i := 991) (by decide +kernel), List.mem_of_getElem? (i := 992) (by decide +kernel)⟩
theorem lw_p46 : lw_okq (⟨"KeepingHandsModel", "bad", "(ZI)Z"⟩, 54) := ⟨⟨by decide +kernel, by decide +kernel⟩, List.mem_of_getElem? (i := 1071) (by decide +kernel), List.mem_of_getElem? (i := 1259) (by decide +kernel), List.mem_of_getElem? (i := 1260) (by decide +kernel)⟩
theorem lw_p47 : lw_okq (⟨"KeepingHandsModel", "walks", "()V"⟩, 54) := ⟨⟨by decide +kernel, by decide +kernel⟩, List.mem_of_getElem? (i := 1071) (by decide +kernel), List.mem_of_getElem? (i := 1263) (by decide +kernel), List.mem_of_getElem? (i := 1264) (by decide +kernel)⟩
def lw_privs_3 : List (MethodName × Nat) := [(⟨"KeepingHands$LawReader", "readTerm", "()Z"⟩, 10), (⟨"KeepingHands$LawReader", "readHarms", "()Z"⟩, 10), (⟨"KeepingHands$LawReader", "readHarm", "()Z"⟩, 10), (⟨"KeepingHands$LawReader", "takeWord", "(Ljava/lang/String;)Z"⟩, 10), (⟨"KeepingHands$LawReader", "readEither", "()Z"⟩, 10), (⟨"KeepingHands$LawReader", "readBoth", "()Z"⟩, 10), (⟨"KeepingHands$LawReader", "readCondition", "()Z"⟩, 10), (⟨"KeepingHands$LawReader", "readNot", "()Z"⟩, 10), (⟨"KeepingHands$LawReader", "readComparison", "()Z"⟩, 10), (⟨"KeepingHands", "nameCase", "(IIII)V"⟩, 14), (⟨"KeepingHands", "needHand", "(I)V"⟩, 14), (⟨"KeepingHands", "burdenedCases", "(I)I"⟩, 14), (⟨"KeepingHands", "isBurdened", "(II)Z"⟩, 14), (⟨"KeepingHands", "casesLikeBit", "(II)I"⟩, 14), (⟨"KeepingHandsModel", "bad", "(ZI)Z"⟩, 54), (⟨"KeepingHandsModel", "walks", "()V"⟩, 54)]
theorem lw_r3 : ∀ q ∈ lw_privs_3, lw_okq q := List.forall_mem_cons.mpr ⟨lw_p32, List.forall_mem_cons.mpr ⟨lw_p33, List.forall_mem_cons.mpr ⟨lw_p34, List.forall_mem_cons.mpr ⟨lw_p35, List.forall_mem_cons.mpr ⟨lw_p36, List.forall_mem_cons.mpr ⟨lw_p37, List.forall_mem_cons.mpr ⟨lw_p38, List.forall_mem_cons.mpr ⟨lw_p39, List.forall_mem_cons.mpr ⟨lw_p40, List.forall_mem_cons.mpr ⟨lw_p41, List.forall_mem_cons.mpr ⟨lw_p42, List.forall_mem_cons.mpr ⟨lw_p43, List.forall_mem_cons.mpr ⟨lw_p44, List.forall_mem_cons.mpr ⟨lw_p45, List.forall_mem_cons.mpr ⟨lw_p46, List.forall_mem_cons.mpr ⟨lw_p47, fun _ h => absurd h List.not_mem_nil⟩⟩⟩⟩⟩⟩⟩⟩⟩⟩⟩⟩⟩⟩⟩⟩
theorem lw_p48 : lw_okq (⟨"KeepingHandsModel", "blanks", "()V"⟩, 54) := ⟨⟨by decide +kernel, by decide +kernel⟩, List.mem_of_getElem? (i := 1071) (by decide +kernel), List.mem_of_getElem? (i := 1267) (by decide +kernel), List.mem_of_getElem? (i := 1268) (by decide +kernel)⟩
theorem lw_p49 : lw_okq (⟨"KeepingHandsModel", "byteAt", "(I)I"⟩, 54) := ⟨⟨by decide +kernel, by decide +kernel⟩, List.mem_of_getElem? (i := 1071) (by decide +kernel), List.mem_of_getElem? (i := 1271) (by decide +kernel), List.mem_of_getElem? (i := 1272) (by decide +kernel)⟩
theorem lw_p50 : lw_okq (⟨"KeepingHandsModel", "clause", "()V"⟩, 54) := ⟨⟨by decide +kernel, by decide +kernel⟩, List.mem_of_getElem? (i := 1071) (by decide +kernel), List.mem_of_getElem? (i := 1275) (by decide +kernel), List.mem_of_getElem? (i := 1276) (by decide +kernel)⟩
theorem lw_p51 : lw_okq (⟨"KeepingHandsModel", "keepingHere", "()I"⟩, 54) := ⟨⟨by decide +kernel, by decide +kernel⟩, List.mem_of_getElem? (i := 1071) (by decide +kernel), List.mem_of_getElem? (i := 1279) (by decide +kernel), List.mem_of_getElem? (i := 1280) (by decide +kernel)⟩
theorem lw_p52 : lw_okq (⟨"KeepingHandsModel", "isWord", "(IIIIII)Z"⟩, 54) := ⟨⟨by decide +kernel, by decide +kernel⟩, List.mem_of_getElem? (i := 1071) (by decide +kernel), List.mem_of_getElem? (i := 1283) (by decide +kernel), List.mem_of_getElem? (i := 1284) (by decide +kernel)⟩
theorem lw_p53 : lw_okq (⟨"KeepingHandsModel", "wordHere", "()I"⟩, 54) := ⟨⟨by decide +kernel, by decide +kernel⟩, List.mem_of_getElem? (i := 1071) (by decide +kernel), List.mem_of_getElem? (i := 1287) (by decide +kernel), List.mem_of_getElem? (i := 1288) (by decide +kernel)⟩
theorem lw_p54 : lw_okq (⟨"KeepingHandsModel", "isAnswers", "()Z"⟩, 54) := ⟨⟨by decide +kernel, by decide +kernel⟩, List.mem_of_getElem? (i := 1071) (by decide +kernel), List.mem_of_getElem? (i := 1291) (by decide +kernel), List.mem_of_getElem? (i := 1292) (by decide +kernel)⟩
theorem lw_p55 : lw_okq (⟨"KeepingHandsModel", "wrongAt", "(II)V"⟩, 54) := ⟨⟨by decide +kernel, by decide +kernel⟩, List.mem_of_getElem? (i := 1071) (by decide +kernel), List.mem_of_getElem? (i := 1298) (by decide +kernel), List.mem_of_getElem? (i := 1299) (by decide +kernel)⟩
theorem lw_p56 : lw_okq (⟨"KeepingHandsModel", "skipWord", "()V"⟩, 54) := ⟨⟨by decide +kernel, by decide +kernel⟩, List.mem_of_getElem? (i := 1071) (by decide +kernel), List.mem_of_getElem? (i := 1302) (by decide +kernel), List.mem_of_getElem? (i := 1303) (by decide +kernel)⟩
theorem lw_p57 : lw_okq (⟨"KeepingHandsModel", "mixes", "()V"⟩, 54) := ⟨⟨by decide +kernel, by decide +kernel⟩, List.mem_of_getElem? (i := 1071) (by decide +kernel), List.mem_of_getElem? (i := 1306) (by decide +kernel), List.mem_of_getElem? (i := 1307) (by decide +kernel)⟩
theorem lw_p58 : lw_okq (⟨"KeepingHandsModel", "says", "(Z)V"⟩, 54) := ⟨⟨by decide +kernel, by decide +kernel⟩, List.mem_of_getElem? (i := 1071) (by decide +kernel), List.mem_of_getElem? (i := 1310) (by decide +kernel), List.mem_of_getElem? (i := 1311) (by decide +kernel)⟩
theorem lw_p59 : lw_okq (⟨"KeepingHandsModel", "harms", "()Z"⟩, 54) := ⟨⟨by decide +kernel, by decide +kernel⟩, List.mem_of_getElem? (i := 1071) (by decide +kernel), List.mem_of_getElem? (i := 1314) (by decide +kernel), List.mem_of_getElem? (i := 1315) (by decide +kernel)⟩
theorem lw_p60 : lw_okq (⟨"KeepingHandsModel", "harmHere", "()I"⟩, 54) := ⟨⟨by decide +kernel, by decide +kernel⟩, List.mem_of_getElem? (i := 1071) (by decide +kernel), List.mem_of_getElem? (i := 1318) (by decide +kernel), List.mem_of_getElem? (i := 1319) (by decide +kernel)⟩
theorem lw_p61 : lw_okq (⟨"KeepingHandsModel", "ors", "()Z"⟩, 54) := ⟨⟨by decide +kernel, by decide +kernel⟩, List.mem_of_getElem? (i := 1071) (by decide +kernel), List.mem_of_getElem? (i := 1322) (by decide +kernel), List.mem_of_getElem? (i := 1323) (by decide +kernel)⟩
theorem lw_p62 : lw_okq (⟨"KeepingHandsModel", "ands", "()Z"⟩, 54) := ⟨⟨by decide +kernel, by decide +kernel⟩, List.mem_of_getElem? (i := 1071) (by decide +kernel), List.mem_of_getElem? (i := 1326) (by decide +kernel), List.mem_of_getElem? (i := 1327) (by decide +kernel)⟩
theorem lw_p63 : lw_okq (⟨"KeepingHandsModel", "test", "()Z"⟩, 54) := ⟨⟨by decide +kernel, by decide +kernel⟩, List.mem_of_getElem? (i := 1071) (by decide +kernel), List.mem_of_getElem? (i := 1330) (by decide +kernel), List.mem_of_getElem? (i := 1331) (by decide +kernel)⟩
def lw_privs_4 : List (MethodName × Nat) := [(⟨"KeepingHandsModel", "blanks", "()V"⟩, 54), (⟨"KeepingHandsModel", "byteAt", "(I)I"⟩, 54), (⟨"KeepingHandsModel", "clause", "()V"⟩, 54), (⟨"KeepingHandsModel", "keepingHere", "()I"⟩, 54), (⟨"KeepingHandsModel", "isWord", "(IIIIII)Z"⟩, 54), (⟨"KeepingHandsModel", "wordHere", "()I"⟩, 54), (⟨"KeepingHandsModel", "isAnswers", "()Z"⟩, 54), (⟨"KeepingHandsModel", "wrongAt", "(II)V"⟩, 54), (⟨"KeepingHandsModel", "skipWord", "()V"⟩, 54), (⟨"KeepingHandsModel", "mixes", "()V"⟩, 54), (⟨"KeepingHandsModel", "says", "(Z)V"⟩, 54), (⟨"KeepingHandsModel", "harms", "()Z"⟩, 54), (⟨"KeepingHandsModel", "harmHere", "()I"⟩, 54), (⟨"KeepingHandsModel", "ors", "()Z"⟩, 54), (⟨"KeepingHandsModel", "ands", "()Z"⟩, 54), (⟨"KeepingHandsModel", "test", "()Z"⟩, 54)]
theorem lw_r4 : ∀ q ∈ lw_privs_4, lw_okq q := List.forall_mem_cons.mpr ⟨lw_p48, List.forall_mem_cons.mpr ⟨lw_p49, List.forall_mem_cons.mpr ⟨lw_p50, List.forall_mem_cons.mpr ⟨lw_p51, List.forall_mem_cons.mpr ⟨lw_p52, List.forall_mem_cons.mpr ⟨lw_p53, List.forall_mem_cons.mpr ⟨lw_p54, List.forall_mem_cons.mpr ⟨lw_p55, List.forall_mem_cons.mpr ⟨lw_p56, List.forall_mem_cons.mpr ⟨lw_p57, List.forall_mem_cons.mpr ⟨lw_p58, List.forall_mem_cons.mpr ⟨lw_p59, List.forall_mem_cons.mpr ⟨lw_p60, List.forall_mem_cons.mpr ⟨lw_p61, List.forall_mem_cons.mpr ⟨lw_p62, List.forall_mem_cons.mpr ⟨lw_p63, fun _ h => absurd h List.not_mem_nil⟩⟩⟩⟩⟩⟩⟩⟩⟩⟩⟩⟩⟩⟩⟩⟩
theorem lw_p64 : lw_okq (⟨"KeepingHandsModel", "opens", "(I)V"⟩, 54) := ⟨⟨by decide +kernel, by decide +kernel⟩, List.mem_of_getElem? (i := 1071) (by decide +kernel), List.mem_of_getElem? (i := 1334) (by decide +kernel), List.mem_of_getElem? (i := 1335) (by decide +kernel)⟩
theorem lw_p65 : lw_okq (⟨"KeepingHandsModel", "sign", "(I)V"⟩, 54) := ⟨⟨by decide +kernel, by decide +kernel⟩, List.mem_of_getElem? (i := 1071) (by decide +kernel), List.mem_of_getElem? (i := 1338) (by decide +kernel), List.mem_of_getElem? (i := 1339) (by decide +kernel)⟩
theorem lw_p66 : lw_okq (⟨"KeepingHandsModel", "sum", "()I"⟩, 54) := ⟨⟨by decide +kernel, by decide +kernel⟩, List.mem_of_getElem? (i := 1071) (by decide +kernel), List.mem_of_getElem? (i := 1342) (by decide +kernel), List.mem_of_getElem? (i := 1343) (by decide +kernel)⟩
theorem lw_p67 : lw_okq (⟨"KeepingHandsModel", "product", "()I"⟩, 54) := ⟨⟨by decide +kernel, by decide +kernel⟩, List.mem_of_getElem? (i := 1071) (by decide +kernel), List.mem_of_getElem? (i := 1346) (by decide +kernel), List.mem_of_getElem? (i := 1347) (by decide +kernel)⟩
theorem lw_p68 : lw_okq (⟨"KeepingHandsModel", "unit", "()I"⟩, 54) := ⟨⟨by decide +kernel, by decide +kernel⟩, List.mem_of_getElem? (i := 1071) (by decide +kernel), List.mem_of_getElem? (i := 1350) (by decide +kernel), List.mem_of_getElem? (i := 1351) (by decide +kernel)⟩
theorem lw_p69 : lw_okq (⟨"KeepingHandsModel", "number", "(II)I"⟩, 54) := ⟨⟨by decide +kernel, by decide +kernel⟩, List.mem_of_getElem? (i := 1071) (by decide +kernel), List.mem_of_getElem? (i := 1357) (by decide +kernel), List.mem_of_getElem? (i := 1358) (by decide +kernel)⟩
theorem lw_p70 : lw_okq (⟨"KeepingHandsModel", "nameHere", "()I"⟩, 54) := ⟨⟨by decide +kernel, by decide +kernel⟩, List.mem_of_getElem? (i := 1071) (by decide +kernel), List.mem_of_getElem? (i := 1362) (by decide +kernel), List.mem_of_getElem? (i := 1363) (by decide +kernel)⟩
theorem lw_p71 : lw_okq (⟨"KeepingHandsModel", "terms", "()Z"⟩, 54) := ⟨⟨by decide +kernel, by decide +kernel⟩, List.mem_of_getElem? (i := 1071) (by decide +kernel), List.mem_of_getElem? (i := 1366) (by decide +kernel), List.mem_of_getElem? (i := 1367) (by decide +kernel)⟩
theorem lw_p72 : lw_okq (⟨"KeepingHandsModel", "tellsBits", "(I)V"⟩, 54) := ⟨⟨by decide +kernel, by decide +kernel⟩, List.mem_of_getElem? (i := 1071) (by decide +kernel), List.mem_of_getElem? (i := 1382) (by decide +kernel), List.mem_of_getElem? (i := 1383) (by decide +kernel)⟩
theorem lw_p73 : lw_okq (⟨"KeepingHandsModel", "asks", "(IIII)V"⟩, 54) := ⟨⟨by decide +kernel, by decide +kernel⟩, List.mem_of_getElem? (i := 1071) (by decide +kernel), List.mem_of_getElem? (i := 1386) (by decide +kernel), List.mem_of_getElem? (i := 1387) (by decide +kernel)⟩
theorem lw_p74 : lw_okq (⟨"KeepingHandsModel", "isHand", "(I)Z"⟩, 54) := ⟨⟨by decide +kernel, by decide +kernel⟩, List.mem_of_getElem? (i := 1071) (by decide +kernel), List.mem_of_getElem? (i := 1405) (by decide +kernel), List.mem_of_getElem? (i := 1406) (by decide +kernel)⟩
theorem lw_p75 : lw_okq (⟨"KeepingHandsModel", "findHolder", "()V"⟩, 54) := ⟨⟨by decide +kernel, by decide +kernel⟩, List.mem_of_getElem? (i := 1071) (by decide +kernel), List.mem_of_getElem? (i := 1429) (by decide +kernel), List.mem_of_getElem? (i := 1430) (by decide +kernel)⟩
theorem lw_p76 : lw_okq (⟨"KeepingHandsModel", "ends", "(I)V"⟩, 54) := ⟨⟨by decide +kernel, by decide +kernel⟩, List.mem_of_getElem? (i := 1071) (by decide +kernel), List.mem_of_getElem? (i := 1437) (by decide +kernel), List.mem_of_getElem? (i := 1438) (by decide +kernel)⟩
theorem lw_p77 : lw_okq (⟨"KeepingHandsModel", "tellsNames", "(II)V"⟩, 54) := ⟨⟨by decide +kernel, by decide +kernel⟩, List.mem_of_getElem? (i := 1071) (by decide +kernel), List.mem_of_getElem? (i := 1441) (by decide +kernel), List.mem_of_getElem? (i := 1442) (by decide +kernel)⟩
theorem lw_p78 : lw_okq (⟨"KeepingHandsModel", "hasPassed", "(I)Z"⟩, 54) := ⟨⟨by decide +kernel, by decide +kernel⟩, List.mem_of_getElem? (i := 1071) (by decide +kernel), List.mem_of_getElem? (i := 1445) (by decide +kernel), List.mem_of_getElem? (i := 1446) (by decide +kernel)⟩
theorem lw_p79 : lw_okq (⟨"KeepingHandsModel", "isWithin", "(I)Z"⟩, 54) := ⟨⟨by decide +kernel, by decide +kernel⟩, List.mem_of_getElem? (i := 1071) (by decide +kernel), List.mem_of_getElem? (i := 1449) (by decide +kernel), List.mem_of_getElem? (i := 1450) (by decide +kernel)⟩
def lw_privs_5 : List (MethodName × Nat) := [(⟨"KeepingHandsModel", "opens", "(I)V"⟩, 54), (⟨"KeepingHandsModel", "sign", "(I)V"⟩, 54), (⟨"KeepingHandsModel", "sum", "()I"⟩, 54), (⟨"KeepingHandsModel", "product", "()I"⟩, 54), (⟨"KeepingHandsModel", "unit", "()I"⟩, 54), (⟨"KeepingHandsModel", "number", "(II)I"⟩, 54), (⟨"KeepingHandsModel", "nameHere", "()I"⟩, 54), (⟨"KeepingHandsModel", "terms", "()Z"⟩, 54), (⟨"KeepingHandsModel", "tellsBits", "(I)V"⟩, 54), (⟨"KeepingHandsModel", "asks", "(IIII)V"⟩, 54), (⟨"KeepingHandsModel", "isHand", "(I)Z"⟩, 54), (⟨"KeepingHandsModel", "findHolder", "()V"⟩, 54), (⟨"KeepingHandsModel", "ends", "(I)V"⟩, 54), (⟨"KeepingHandsModel", "tellsNames", "(II)V"⟩, 54), (⟨"KeepingHandsModel", "hasPassed", "(I)Z"⟩, 54), (⟨"KeepingHandsModel", "isWithin", "(I)Z"⟩, 54)]
theorem lw_r5 : ∀ q ∈ lw_privs_5, lw_okq q := List.forall_mem_cons.mpr ⟨lw_p64, List.forall_mem_cons.mpr ⟨lw_p65, List.forall_mem_cons.mpr ⟨lw_p66, List.forall_mem_cons.mpr ⟨lw_p67, List.forall_mem_cons.mpr ⟨lw_p68, List.forall_mem_cons.mpr ⟨lw_p69, List.forall_mem_cons.mpr ⟨lw_p70, List.forall_mem_cons.mpr ⟨lw_p71, List.forall_mem_cons.mpr ⟨lw_p72, List.forall_mem_cons.mpr ⟨lw_p73, List.forall_mem_cons.mpr ⟨lw_p74, List.forall_mem_cons.mpr ⟨lw_p75, List.forall_mem_cons.mpr ⟨lw_p76, List.forall_mem_cons.mpr ⟨lw_p77, List.forall_mem_cons.mpr ⟨lw_p78, List.forall_mem_cons.mpr ⟨lw_p79, fun _ h => absurd h List.not_mem_nil⟩⟩⟩⟩⟩⟩⟩⟩⟩⟩⟩⟩⟩⟩⟩⟩
theorem lw_p80 : lw_okq (⟨"KeepingHandsModel", "caseMany", "()I"⟩, 54) := ⟨⟨by decide +kernel, by decide +kernel⟩, List.mem_of_getElem? (i := 1071) (by decide +kernel), List.mem_of_getElem? (i := 1485) (by decide +kernel), List.mem_of_getElem? (i := 1486) (by decide +kernel)⟩
theorem lw_p81 : lw_okq (⟨"KeepingHandsModel", "findCases", "()V"⟩, 54) := ⟨⟨by decide +kernel, by decide +kernel⟩, List.mem_of_getElem? (i := 1071) (by decide +kernel), List.mem_of_getElem? (i := 1489) (by decide +kernel), List.mem_of_getElem? (i := 1490) (by decide +kernel)⟩
theorem lw_p82 : lw_okq (⟨"KeepingHandsModel", "goesInto", "(I)V"⟩, 54) := ⟨⟨by decide +kernel, by decide +kernel⟩, List.mem_of_getElem? (i := 1071) (by decide +kernel), List.mem_of_getElem? (i := 1493) (by decide +kernel), List.mem_of_getElem? (i := 1494) (by decide +kernel)⟩
theorem lw_p83 : lw_okq (⟨"KeepingHandsModel", "comesBack", "()V"⟩, 54) := ⟨⟨by decide +kernel, by decide +kernel⟩, List.mem_of_getElem? (i := 1071) (by decide +kernel), List.mem_of_getElem? (i := 1497) (by decide +kernel), List.mem_of_getElem? (i := 1498) (by decide +kernel)⟩
theorem lw_p84 : lw_okq (⟨"KeepingHandsModel", "casesOf", "(I)I"⟩, 54) := ⟨⟨by decide +kernel, by decide +kernel⟩, List.mem_of_getElem? (i := 1071) (by decide +kernel), List.mem_of_getElem? (i := 1505) (by decide +kernel), List.mem_of_getElem? (i := 1506) (by decide +kernel)⟩
theorem lw_p85 : lw_okq (⟨"KeepingHandsModel", "settles", "(I)Z"⟩, 54) := ⟨⟨by decide +kernel, by decide +kernel⟩, List.mem_of_getElem? (i := 1071) (by decide +kernel), List.mem_of_getElem? (i := 1524) (by decide +kernel), List.mem_of_getElem? (i := 1525) (by decide +kernel)⟩
theorem lw_p86 : lw_okq (⟨"KeepingHandsModel", "areAlike", "(II)Z"⟩, 54) := ⟨⟨by decide +kernel, by decide +kernel⟩, List.mem_of_getElem? (i := 1071) (by decide +kernel), List.mem_of_getElem? (i := 1528) (by decide +kernel), List.mem_of_getElem? (i := 1529) (by decide +kernel)⟩
theorem lw_p87 : lw_okq (⟨"KeepingHandsModel", "titleNow", "()I"⟩, 54) := ⟨⟨by decide +kernel, by decide +kernel⟩, List.mem_of_getElem? (i := 1071) (by decide +kernel), List.mem_of_getElem? (i := 1540) (by decide +kernel), List.mem_of_getElem? (i := 1541) (by decide +kernel)⟩
theorem lw_p88 : lw_okq (⟨"KeepingHandsModel", "claimIn", "(II)I"⟩, 54) := ⟨⟨by decide +kernel, by decide +kernel⟩, List.mem_of_getElem? (i := 1071) (by decide +kernel), List.mem_of_getElem? (i := 1568) (by decide +kernel), List.mem_of_getElem? (i := 1569) (by decide +kernel)⟩
theorem lw_p89 : lw_okq (⟨"KeepingHandsModel", "movesAll", "(IZ)V"⟩, 54) := ⟨⟨by decide +kernel, by decide +kernel⟩, List.mem_of_getElem? (i := 1071) (by decide +kernel), List.mem_of_getElem? (i := 1580) (by decide +kernel), List.mem_of_getElem? (i := 1581) (by decide +kernel)⟩
theorem lw_p90 : lw_okq (⟨"KeepingHandsModel", "moves", "(IIIZ)I"⟩, 54) := ⟨⟨by decide +kernel, by decide +kernel⟩, List.mem_of_getElem? (i := 1071) (by decide +kernel), List.mem_of_getElem? (i := 1584) (by decide +kernel), List.mem_of_getElem? (i := 1585) (by decide +kernel)⟩
def lw_privs_6 : List (MethodName × Nat) := [(⟨"KeepingHandsModel", "caseMany", "()I"⟩, 54), (⟨"KeepingHandsModel", "findCases", "()V"⟩, 54), (⟨"KeepingHandsModel", "goesInto", "(I)V"⟩, 54), (⟨"KeepingHandsModel", "comesBack", "()V"⟩, 54), (⟨"KeepingHandsModel", "casesOf", "(I)I"⟩, 54), (⟨"KeepingHandsModel", "settles", "(I)Z"⟩, 54), (⟨"KeepingHandsModel", "areAlike", "(II)Z"⟩, 54), (⟨"KeepingHandsModel", "titleNow", "()I"⟩, 54), (⟨"KeepingHandsModel", "claimIn", "(II)I"⟩, 54), (⟨"KeepingHandsModel", "movesAll", "(IZ)V"⟩, 54), (⟨"KeepingHandsModel", "moves", "(IIIZ)I"⟩, 54)]
theorem lw_r6 : ∀ q ∈ lw_privs_6, lw_okq q := List.forall_mem_cons.mpr ⟨lw_p80, List.forall_mem_cons.mpr ⟨lw_p81, List.forall_mem_cons.mpr ⟨lw_p82, List.forall_mem_cons.mpr ⟨lw_p83, List.forall_mem_cons.mpr ⟨lw_p84, List.forall_mem_cons.mpr ⟨lw_p85, List.forall_mem_cons.mpr ⟨lw_p86, List.forall_mem_cons.mpr ⟨lw_p87, List.forall_mem_cons.mpr ⟨lw_p88, List.forall_mem_cons.mpr ⟨lw_p89, List.forall_mem_cons.mpr ⟨lw_p90, fun _ h => absurd h List.not_mem_nil⟩⟩⟩⟩⟩⟩⟩⟩⟩⟩⟩
def lw_privs : List (MethodName × Nat) := lw_privs_1 ++ (lw_privs_2 ++ (lw_privs_3 ++ (lw_privs_4 ++ (lw_privs_5 ++ (lw_privs_6)))))
def lw_tbl : List Cond := k2_sels lw_privs ++ tables_1
theorem lw_privs_ok : ∀ q ∈ lw_privs, lw_okq q := by
  show ∀ q ∈ lw_privs_1 ++ (lw_privs_2 ++ (lw_privs_3 ++ (lw_privs_4 ++ (lw_privs_5 ++ (lw_privs_6))))), lw_okq q
  exact List.forall_mem_append.mpr ⟨lw_r1, List.forall_mem_append.mpr ⟨lw_r2, List.forall_mem_append.mpr ⟨lw_r3, List.forall_mem_append.mpr ⟨lw_r4, List.forall_mem_append.mpr ⟨lw_r5, lw_r6⟩⟩⟩⟩⟩
def RX0 : String := "KeepingHands$Chain"
def TX0 : u_T := fun k => match k with
  | 0 => ("KeepingHands$Chain", "hands", "[LKeepingHands$Hand;", true)
  | 1 => ("KeepingHands$Chain", "handCount", "I", false)
  | 2 => ("KeepingHands$Chain", "value", "I", false)
  | 3 => ("KeepingHands$Chain", "harm", "I", false)
  | 4 => ("KeepingHands$Chain", "harmDay", "I", false)
  | 5 => ("KeepingHands$Chain", "inForce", "I", false)
  | 6 => ("KeepingHands$Chain", "questions", "[LKeepingHands$Question;", true)
  | 7 => ("KeepingHands$Chain", "questionCount", "I", false)
  | _ => ("KeepingHands$Chain", "goods", "LKeepingHands$Goods;", true)
def tyX0 : Nat → FieldType := fun k => match k with
  | 0 => .array (.object "KeepingHands$Hand")
  | 1 => .int
  | 2 => .int
  | 3 => .int
  | 4 => .int
  | 5 => .int
  | 6 => .array (.object "KeepingHands$Question")
  | 7 => .int
  | _ => .object "KeepingHands$Goods"
abbrev wsX00 : List Cond := u_ws RX0 TX0 9
theorem nmX0 : ∀ a, a < 9 → ∀ b, b < 9 → a ≠ b → (TX0 a).2.1 ≠ (TX0 b).2.1 := by decide +kernel
theorem tyX0_ok : ∀ k, k < 9 → parseFieldDescriptor (TX0 k).2.2.1 = some (tyX0 k) := by decide +kernel
abbrev cX0_init : ByteArray := prog_2_method_1_code
def yX0_init : MethodName := ⟨RX0, "<init>", "()V"⟩
abbrev cX0_setTo : ByteArray := prog_2_method_2_code
def yX0_setTo : MethodName := ⟨RX0, "setTo", "(LKeepingHands$Chain;)V"⟩
abbrev cX0_latestHolder : ByteArray := prog_2_method_3_code
def yX0_latestHolder : MethodName := ⟨RX0, "latestHolder", "()I"⟩
abbrev cX0_hasPassed : ByteArray := prog_2_method_4_code
def yX0_hasPassed : MethodName := ⟨RX0, "hasPassed", "(II)Z"⟩
abbrev cX0_nameHand : ByteArray := prog_2_method_5_code
def yX0_nameHand : MethodName := ⟨RX0, "nameHand", "(IILKeepingHands$Law;[I)V"⟩
abbrev cX0_ask : ByteArray := prog_2_method_6_code
def yX0_ask : MethodName := ⟨RX0, "ask", "(III)I"⟩
abbrev cX0_dropQuestion : ByteArray := prog_2_method_7_code
def yX0_dropQuestion : MethodName := ⟨RX0, "dropQuestion", "(I)V"⟩
abbrev cX0_suppose : ByteArray := prog_2_method_8_code
def yX0_suppose : MethodName := ⟨RX0, "suppose", "(LKeepingHands$Chain;I)V"⟩
abbrev cX0_tell : ByteArray := prog_2_method_9_code
def yX0_tell : MethodName := ⟨RX0, "tell", "(LKeepingHands$Question;ZLKeepingHands$Chain;)V"⟩
def RX1 : String := "KeepingHands$End"
def TX1 : u_T := fun k => match k with
  | 0 => ("KeepingHands$End", "claims", "[I", true)
  | 1 => ("KeepingHands$End", "whoms", "[I", true)
  | 2 => ("KeepingHands$End", "payments", "[I", true)
  | 3 => ("KeepingHands$End", "burdens", "[I", true)
  | 4 => ("KeepingHands$End", "mustSwear", "[Z", true)
  | 5 => ("KeepingHands$End", "gains", "[I", true)
  | 6 => ("KeepingHands$End", "names", "[I", true)
  | _ => ("KeepingHands$End", "holder", "I", false)
def tyX1 : Nat → FieldType := fun k => match k with
  | 0 => .array .int
  | 1 => .array .int
  | 2 => .array .int
  | 3 => .array .int
  | 4 => .array .boolean
  | 5 => .array .int
  | 6 => .array .int
  | _ => .int
abbrev wsX10 : List Cond := u_ws RX1 TX1 8
theorem nmX1 : ∀ a, a < 8 → ∀ b, b < 8 → a ≠ b → (TX1 a).2.1 ≠ (TX1 b).2.1 := by decide +kernel
theorem tyX1_ok : ∀ k, k < 8 → parseFieldDescriptor (TX1 k).2.2.1 = some (tyX1 k) := by decide +kernel
abbrev cX1_init : ByteArray := prog_3_method_1_code
def yX1_init : MethodName := ⟨RX1, "<init>", "()V"⟩
abbrev cX1_reckon : ByteArray := prog_3_method_2_code
def yX1_reckon : MethodName := ⟨RX1, "reckon", "(LKeepingHands$Chain;LKeepingHands$Law;)V"⟩
abbrev cX1_clear : ByteArray := prog_3_method_3_code
def yX1_clear : MethodName := ⟨RX1, "clear", "()V"⟩
abbrev cX1_claimOn : ByteArray := prog_3_method_4_code
def yX1_claimOn : MethodName := ⟨RX1, "claimOn", "(ILKeepingHands$Chain;LKeepingHands$Law;)V"⟩
abbrev cX1_payUp : ByteArray := prog_3_method_5_code
def yX1_payUp : MethodName := ⟨RX1, "payUp", "(LKeepingHands$Chain;)V"⟩
abbrev cX1_payOwner : ByteArray := prog_3_method_6_code
def yX1_payOwner : MethodName := ⟨RX1, "payOwner", "(I)V"⟩
abbrev cX1_titleFor : ByteArray := prog_3_method_7_code
def yX1_titleFor : MethodName := ⟨RX1, "titleFor", "(I)I"⟩
def RX2 : String := "KeepingHands$Goods"
def TX2 : u_T := fun k => match k with
  | 0 => ("KeepingHands$Goods", "puttings", "I", false)
  | 1 => ("KeepingHands$Goods", "owners", "[I", true)
  | _ => ("KeepingHands$Goods", "many", "[I", true)
def tyX2 : Nat → FieldType := fun k => match k with
  | 0 => .int
  | 1 => .array .int
  | _ => .array .int
abbrev wsX20 : List Cond := u_ws RX2 TX2 3
theorem nmX2 : ∀ a, a < 3 → ∀ b, b < 3 → a ≠ b → (TX2 a).2.1 ≠ (TX2 b).2.1 := by decide +kernel
theorem tyX2_ok : ∀ k, k < 3 → parseFieldDescriptor (TX2 k).2.2.1 = some (tyX2 k) := by decide +kernel
abbrev cX2_init : ByteArray := prog_4_method_1_code
def yX2_init : MethodName := ⟨RX2, "<init>", "()V"⟩
abbrev cX2_setTo : ByteArray := prog_4_method_2_code
def yX2_setTo : MethodName := ⟨RX2, "setTo", "(LKeepingHands$Goods;)V"⟩
abbrev cX2_add : ByteArray := prog_4_method_3_code
def yX2_add : MethodName := ⟨RX2, "add", "(II)Z"⟩
abbrev cX2_all : ByteArray := prog_4_method_4_code
def yX2_all : MethodName := ⟨RX2, "all", "()I"⟩
abbrev cX2_allOf : ByteArray := prog_4_method_5_code
def yX2_allOf : MethodName := ⟨RX2, "allOf", "(I)I"⟩
abbrev cX2_lostLast : ByteArray := prog_4_method_6_code
def yX2_lostLast : MethodName := ⟨RX2, "lostLast", "(II)I"⟩
def RX3 : String := "KeepingHands$Hand"
def TX3 : u_T := fun k => match k with
  | 0 => ("KeepingHands$Hand", "keeping", "I", false)
  | 1 => ("KeepingHands$Hand", "day", "I", false)
  | 2 => ("KeepingHands$Hand", "till", "I", false)
  | 3 => ("KeepingHands$Hand", "term", "I", false)
  | 4 => ("KeepingHands$Hand", "leave", "I", false)
  | 5 => ("KeepingHands$Hand", "purse", "I", false)
  | 6 => ("KeepingHands$Hand", "judged", "I", false)
  | _ => ("KeepingHands$Hand", "facts", "I", false)
def tyX3 : Nat → FieldType := fun k => match k with
  | 0 => .int
  | 1 => .int
  | 2 => .int
  | 3 => .int
  | 4 => .int
  | 5 => .int
  | 6 => .int
  | _ => .int
abbrev wsX30 : List Cond := u_ws RX3 TX3 8
theorem nmX3 : ∀ a, a < 8 → ∀ b, b < 8 → a ≠ b → (TX3 a).2.1 ≠ (TX3 b).2.1 := by decide +kernel
theorem tyX3_ok : ∀ k, k < 8 → parseFieldDescriptor (TX3 k).2.2.1 = some (tyX3 k) := by decide +kernel
abbrev cX3_init : ByteArray := prog_5_method_1_code
def yX3_init : MethodName := ⟨RX3, "<init>", "()V"⟩
abbrev cX3_clear : ByteArray := prog_5_method_2_code
def yX3_clear : MethodName := ⟨RX3, "clear", "()V"⟩
abbrev cX3_setTo : ByteArray := prog_5_method_3_code
def yX3_setTo : MethodName := ⟨RX3, "setTo", "(LKeepingHands$Hand;)V"⟩
abbrev cX3_entry : ByteArray := prog_5_method_4_code
def yX3_entry : MethodName := ⟨RX3, "entry", "(I)I"⟩
abbrev cX3_hasFact : ByteArray := prog_5_method_5_code
def yX3_hasFact : MethodName := ⟨RX3, "hasFact", "(I)Z"⟩
abbrev cX3_tellFact : ByteArray := prog_5_method_6_code
def yX3_tellFact : MethodName := ⟨RX3, "tellFact", "(IZ)V"⟩
def RX4 : String := "KeepingHands$Law"
def TX4 : u_T := fun k => match k with
  | 0 => ("KeepingHands$Law", "mixing", "I", false)
  | 1 => ("KeepingHands$Law", "clauses", "I", false)
  | 2 => ("KeepingHands$Law", "sorts", "[I", true)
  | 3 => ("KeepingHands$Law", "keepings", "[I", true)
  | 4 => ("KeepingHands$Law", "things", "[I", true)
  | 5 => ("KeepingHands$Law", "starts", "[I", true)
  | 6 => ("KeepingHands$Law", "ends", "[I", true)
  | 7 => ("KeepingHands$Law", "steps", "[I", true)
  | 8 => ("KeepingHands$Law", "stepCount", "I", false)
  | _ => ("KeepingHands$Law", "stack", "[I", true)
def tyX4 : Nat → FieldType := fun k => match k with
  | 0 => .int
  | 1 => .int
  | 2 => .array .int
  | 3 => .array .int
  | 4 => .array .int
  | 5 => .array .int
  | 6 => .array .int
  | 7 => .array .int
  | 8 => .int
  | _ => .array .int
abbrev wsX40 : List Cond := u_ws RX4 TX4 10
theorem nmX4 : ∀ a, a < 10 → ∀ b, b < 10 → a ≠ b → (TX4 a).2.1 ≠ (TX4 b).2.1 := by decide +kernel
theorem tyX4_ok : ∀ k, k < 10 → parseFieldDescriptor (TX4 k).2.2.1 = some (tyX4 k) := by decide +kernel
abbrev cX4_init : ByteArray := prog_6_method_1_code
def yX4_init : MethodName := ⟨RX4, "<init>", "()V"⟩
abbrev cX4_clear : ByteArray := prog_6_method_2_code
def yX4_clear : MethodName := ⟨RX4, "clear", "()V"⟩
abbrev cX4_isFull : ByteArray := prog_6_method_3_code
def yX4_isFull : MethodName := ⟨RX4, "isFull", "()Z"⟩
abbrev cX4_beginClause : ByteArray := prog_6_method_4_code
def yX4_beginClause : MethodName := ⟨RX4, "beginClause", "(II)V"⟩
abbrev cX4_include : ByteArray := prog_6_method_5_code
def yX4_include : MethodName := ⟨RX4, "include", "(I)V"⟩
abbrev cX4_addStep : ByteArray := prog_6_method_6_code
def yX4_addStep : MethodName := ⟨RX4, "addStep", "(I)V"⟩
abbrev cX4_holdsFor : ByteArray := prog_6_method_7_code
def yX4_holdsFor : MethodName := ⟨RX4, "holdsFor", "(III[I)Z"⟩
abbrev cX4_owedFor : ByteArray := prog_6_method_8_code
def yX4_owedFor : MethodName := ⟨RX4, "owedFor", "(I[I)I"⟩
abbrev cX4_claimFor : ByteArray := prog_6_method_9_code
def yX4_claimFor : MethodName := ⟨RX4, "claimFor", "(II[I)I"⟩
abbrev cX4_allows : ByteArray := prog_6_method_10_code
def yX4_allows : MethodName := ⟨RX4, "allows", "(II)Z"⟩
abbrev cX4_doubles : ByteArray := prog_6_method_11_code
def yX4_doubles : MethodName := ⟨RX4, "doubles", "(I)Z"⟩
abbrev cX4_isFor : ByteArray := prog_6_method_12_code
def yX4_isFor : MethodName := ⟨RX4, "isFor", "(III)Z"⟩
abbrev cX4_has : ByteArray := prog_6_method_13_code
def yX4_has : MethodName := ⟨RX4, "has", "(II)Z"⟩
abbrev cX4_work : ByteArray := prog_6_method_14_code
def yX4_work : MethodName := ⟨RX4, "work", "(I[I)I"⟩
abbrev cX4_join : ByteArray := prog_6_method_15_code
def yX4_join : MethodName := ⟨RX4, "join", "(III)I"⟩
def RX5 : String := "KeepingHands$LawReader"
def TX5 : u_T := fun k => match k with
  | 0 => ("KeepingHands$LawReader", "place", "I", false)
  | 1 => ("KeepingHands$LawReader", "fault", "I", false)
  | 2 => ("KeepingHands$LawReader", "text", "[I", false)
  | 3 => ("KeepingHands$LawReader", "length", "I", false)
  | 4 => ("KeepingHands$LawReader", "law", "LKeepingHands$Law;", false)
  | 5 => ("KeepingHands$LawReader", "kind", "I", false)
  | 6 => ("KeepingHands$LawReader", "from", "I", false)
  | 7 => ("KeepingHands$LawReader", "to", "I", false)
  | 8 => ("KeepingHands$LawReader", "number", "I", false)
  | _ => ("KeepingHands$LawReader", "open", "I", false)
def tyX5 : Nat → FieldType := fun k => match k with
  | 0 => .int
  | 1 => .int
  | 2 => .array .int
  | 3 => .int
  | 4 => .object "KeepingHands$Law"
  | 5 => .int
  | 6 => .int
  | 7 => .int
  | 8 => .int
  | _ => .int
abbrev wsX50 : List Cond := u_ws RX5 TX5 10
theorem nmX5 : ∀ a, a < 10 → ∀ b, b < 10 → a ≠ b → (TX5 a).2.1 ≠ (TX5 b).2.1 := by decide +kernel
theorem tyX5_ok : ∀ k, k < 10 → parseFieldDescriptor (TX5 k).2.2.1 = some (tyX5 k) := by decide +kernel
abbrev cX5_init : ByteArray := prog_7_method_1_code
def yX5_init : MethodName := ⟨RX5, "<init>", "()V"⟩
abbrev cX5_readLaw : ByteArray := prog_7_method_2_code
def yX5_readLaw : MethodName := ⟨RX5, "readLaw", "([IILKeepingHands$Law;)I"⟩
abbrev cX5_readClause : ByteArray := prog_7_method_3_code
def yX5_readClause : MethodName := ⟨RX5, "readClause", "()Z"⟩
abbrev cX5_readMixing : ByteArray := prog_7_method_4_code
def yX5_readMixing : MethodName := ⟨RX5, "readMixing", "()Z"⟩
abbrev cX5_readKeeping : ByteArray := prog_7_method_5_code
def yX5_readKeeping : MethodName := ⟨RX5, "readKeeping", "(I)Z"⟩
abbrev cX5_readHarms : ByteArray := prog_7_method_6_code
def yX5_readHarms : MethodName := ⟨RX5, "readHarms", "()Z"⟩
abbrev cX5_readHarm : ByteArray := prog_7_method_7_code
def yX5_readHarm : MethodName := ⟨RX5, "readHarm", "()Z"⟩
abbrev cX5_readTerms : ByteArray := prog_7_method_8_code
def yX5_readTerms : MethodName := ⟨RX5, "readTerms", "()Z"⟩
abbrev cX5_readTerm : ByteArray := prog_7_method_9_code
def yX5_readTerm : MethodName := ⟨RX5, "readTerm", "()Z"⟩
abbrev cX5_readEither : ByteArray := prog_7_method_10_code
def yX5_readEither : MethodName := ⟨RX5, "readEither", "()Z"⟩
abbrev cX5_readBoth : ByteArray := prog_7_method_11_code
def yX5_readBoth : MethodName := ⟨RX5, "readBoth", "()Z"⟩
abbrev cX5_readCondition : ByteArray := prog_7_method_12_code
def yX5_readCondition : MethodName := ⟨RX5, "readCondition", "()Z"⟩
abbrev cX5_readNot : ByteArray := prog_7_method_13_code
def yX5_readNot : MethodName := ⟨RX5, "readNot", "()Z"⟩
abbrev cX5_readComparison : ByteArray := prog_7_method_14_code
def yX5_readComparison : MethodName := ⟨RX5, "readComparison", "()Z"⟩
abbrev cX5_readSum : ByteArray := prog_7_method_15_code
def yX5_readSum : MethodName := ⟨RX5, "readSum", "()Z"⟩
abbrev cX5_readProduct : ByteArray := prog_7_method_16_code
def yX5_readProduct : MethodName := ⟨RX5, "readProduct", "()Z"⟩
abbrev cX5_readUnit : ByteArray := prog_7_method_17_code
def yX5_readUnit : MethodName := ⟨RX5, "readUnit", "()Z"⟩
abbrev cX5_readNumber : ByteArray := prog_7_method_18_code
def yX5_readNumber : MethodName := ⟨RX5, "readNumber", "()Z"⟩
abbrev cX5_readChoice : ByteArray := prog_7_method_19_code
def yX5_readChoice : MethodName := ⟨RX5, "readChoice", "(I)Z"⟩
abbrev cX5_enter : ByteArray := prog_7_method_20_code
def yX5_enter : MethodName := ⟨RX5, "enter", "()Z"⟩
abbrev cX5_leave : ByteArray := prog_7_method_21_code
def yX5_leave : MethodName := ⟨RX5, "leave", "(I)Z"⟩
abbrev cX5_take : ByteArray := prog_7_method_22_code
def yX5_take : MethodName := ⟨RX5, "take", "(I)Z"⟩
abbrev cX5_takeWord : ByteArray := prog_7_method_23_code
def yX5_takeWord : MethodName := ⟨RX5, "takeWord", "(Ljava/lang/String;)Z"⟩
abbrev cX5_isNumber : ByteArray := prog_7_method_24_code
def yX5_isNumber : MethodName := ⟨RX5, "isNumber", "(II)Z"⟩
abbrev cX5_fail : ByteArray := prog_7_method_25_code
def yX5_fail : MethodName := ⟨RX5, "fail", "(I)Z"⟩
abbrev cX5_nextToken : ByteArray := prog_7_method_26_code
def yX5_nextToken : MethodName := ⟨RX5, "nextToken", "()V"⟩
abbrev cX5_isLetter : ByteArray := prog_7_method_27_code
def yX5_isLetter : MethodName := ⟨RX5, "isLetter", "(I)Z"⟩
abbrev cX5_isDigit : ByteArray := prog_7_method_28_code
def yX5_isDigit : MethodName := ⟨RX5, "isDigit", "(I)Z"⟩
abbrev cX5_isWord : ByteArray := prog_7_method_29_code
def yX5_isWord : MethodName := ⟨RX5, "isWord", "(Ljava/lang/String;)Z"⟩
abbrev cX5_wordOf : ByteArray := prog_7_method_30_code
def yX5_wordOf : MethodName := ⟨RX5, "wordOf", "(Ljava/lang/String;)I"⟩
abbrev cX5_isSame : ByteArray := prog_7_method_31_code
def yX5_isSame : MethodName := ⟨RX5, "isSame", "(Ljava/lang/String;II)Z"⟩
abbrev cX5_bitsOf : ByteArray := prog_7_method_32_code
def yX5_bitsOf : MethodName := ⟨RX5, "bitsOf", "(II)I"⟩
def RX6 : String := "KeepingHands$Question"
def TX6 : u_T := fun k => match k with
  | 0 => ("KeepingHands$Question", "sort", "I", false)
  | 1 => ("KeepingHands$Question", "hand", "I", false)
  | _ => ("KeepingHands$Question", "other", "I", false)
def tyX6 : Nat → FieldType := fun k => match k with
  | 0 => .int
  | 1 => .int
  | _ => .int
abbrev wsX60 : List Cond := u_ws RX6 TX6 3
theorem nmX6 : ∀ a, a < 3 → ∀ b, b < 3 → a ≠ b → (TX6 a).2.1 ≠ (TX6 b).2.1 := by decide +kernel
theorem tyX6_ok : ∀ k, k < 3 → parseFieldDescriptor (TX6 k).2.2.1 = some (tyX6 k) := by decide +kernel
abbrev cX6_init : ByteArray := prog_8_method_1_code
def yX6_init : MethodName := ⟨RX6, "<init>", "()V"⟩
abbrev cX6_setTo : ByteArray := prog_8_method_2_code
def yX6_setTo : MethodName := ⟨RX6, "setTo", "(LKeepingHands$Question;)V"⟩
def RX7 : String := "KeepingHands"
def TX7 : u_T := fun k => match k with
  | 0 => ("KeepingHands", "tape", "[I", true)
  | 1 => ("KeepingHands", "tapeLength", "I", false)
  | 2 => ("KeepingHands", "laws", "[LKeepingHands$Law;", true)
  | 3 => ("KeepingHands", "lawCount", "I", false)
  | 4 => ("KeepingHands", "noLaw", "LKeepingHands$Law;", true)
  | 5 => ("KeepingHands", "reader", "LKeepingHands$LawReader;", true)
  | 6 => ("KeepingHands", "faultPlace", "I", false)
  | 7 => ("KeepingHands", "names", "[I", true)
  | 8 => ("KeepingHands", "chain", "LKeepingHands$Chain;", true)
  | 9 => ("KeepingHands", "trial", "LKeepingHands$Chain;", true)
  | 10 => ("KeepingHands", "images", "[LKeepingHands$Chain;", true)
  | 11 => ("KeepingHands", "imageCount", "I", false)
  | 12 => ("KeepingHands", "end", "LKeepingHands$End;", true)
  | _ => ("KeepingHands", "caseBears", "[I", true)
def tyX7 : Nat → FieldType := fun k => match k with
  | 0 => .array .int
  | 1 => .int
  | 2 => .array (.object "KeepingHands$Law")
  | 3 => .int
  | 4 => .object "KeepingHands$Law"
  | 5 => .object "KeepingHands$LawReader"
  | 6 => .int
  | 7 => .array .int
  | 8 => .object "KeepingHands$Chain"
  | 9 => .object "KeepingHands$Chain"
  | 10 => .array (.object "KeepingHands$Chain")
  | 11 => .int
  | 12 => .object "KeepingHands$End"
  | _ => .array .int
abbrev wsX70 : List Cond := u_ws RX7 TX7 14
theorem nmX7 : ∀ a, a < 14 → ∀ b, b < 14 → a ≠ b → (TX7 a).2.1 ≠ (TX7 b).2.1 := by decide +kernel
theorem tyX7_ok : ∀ k, k < 14 → parseFieldDescriptor (TX7 k).2.2.1 = some (tyX7 k) := by decide +kernel
abbrev cX7_init : ByteArray := prog_1_method_1_code
def yX7_init : MethodName := ⟨RX7, "<init>", "()V"⟩
abbrev cX7_feed : ByteArray := prog_1_method_2_code
def yX7_feed : MethodName := ⟨RX7, "feed", "(IIIII)I"⟩
abbrev cX7_law : ByteArray := prog_1_method_3_code
def yX7_law : MethodName := ⟨RX7, "law", "(I)I"⟩
abbrev cX7_fault : ByteArray := prog_1_method_4_code
def yX7_fault : MethodName := ⟨RX7, "fault", "()I"⟩
abbrev cX7_force : ByteArray := prog_1_method_5_code
def yX7_force : MethodName := ⟨RX7, "force", "(I)I"⟩
abbrev cX7_words : ByteArray := prog_1_method_6_code
def yX7_words : MethodName := ⟨RX7, "words", "(IIIIII)I"⟩
abbrev cX7_lets : ByteArray := prog_1_method_7_code
def yX7_lets : MethodName := ⟨RX7, "lets", "(III)Z"⟩
abbrev cX7_pass : ByteArray := prog_1_method_8_code
def yX7_pass : MethodName := ⟨RX7, "pass", "(IIIIZ)I"⟩
abbrev cX7_hand : ByteArray := prog_1_method_9_code
def yX7_hand : MethodName := ⟨RX7, "hand", "(II)I"⟩
abbrev cX7_value : ByteArray := prog_1_method_10_code
def yX7_value : MethodName := ⟨RX7, "value", "(I)I"⟩
abbrev cX7_purse : ByteArray := prog_1_method_11_code
def yX7_purse : MethodName := ⟨RX7, "purse", "(II)I"⟩
abbrev cX7_fact : ByteArray := prog_1_method_12_code
def yX7_fact : MethodName := ⟨RX7, "fact", "(IIZ)Z"⟩
abbrev cX7_harm : ByteArray := prog_1_method_13_code
def yX7_harm : MethodName := ⟨RX7, "harm", "(II)I"⟩
abbrev cX7_holder : ByteArray := prog_1_method_14_code
def yX7_holder : MethodName := ⟨RX7, "holder", "()I"⟩
abbrev cX7_name : ByteArray := prog_1_method_15_code
def yX7_name : MethodName := ⟨RX7, "name", "(II)I"⟩
abbrev cX7_claim : ByteArray := prog_1_method_16_code
def yX7_claim : MethodName := ⟨RX7, "claim", "(I)I"⟩
abbrev cX7_whom : ByteArray := prog_1_method_17_code
def yX7_whom : MethodName := ⟨RX7, "whom", "(I)I"⟩
abbrev cX7_pays : ByteArray := prog_1_method_18_code
def yX7_pays : MethodName := ⟨RX7, "pays", "(I)I"⟩
abbrev cX7_bears : ByteArray := prog_1_method_19_code
def yX7_bears : MethodName := ⟨RX7, "bears", "(I)I"⟩
abbrev cX7_must : ByteArray := prog_1_method_20_code
def yX7_must : MethodName := ⟨RX7, "must", "(I)Z"⟩
abbrev cX7_frees : ByteArray := prog_1_method_21_code
def yX7_frees : MethodName := ⟨RX7, "frees", "(I)I"⟩
abbrev cX7_question : ByteArray := prog_1_method_22_code
def yX7_question : MethodName := ⟨RX7, "question", "(III)I"⟩
abbrev cX7_inCase : ByteArray := prog_1_method_23_code
def yX7_inCase : MethodName := ⟨RX7, "inCase", "(II)I"⟩
abbrev cX7_sure : ByteArray := prog_1_method_24_code
def yX7_sure : MethodName := ⟨RX7, "sure", "(I)I"⟩
abbrev cX7_cases : ByteArray := prog_1_method_25_code
def yX7_cases : MethodName := ⟨RX7, "cases", "(I)I"⟩
abbrev cX7_hangs : ByteArray := prog_1_method_26_code
def yX7_hangs : MethodName := ⟨RX7, "hangs", "(I)I"⟩
abbrev cX7_least : ByteArray := prog_1_method_27_code
def yX7_least : MethodName := ⟨RX7, "least", "()I"⟩
abbrev cX7_find : ByteArray := prog_1_method_28_code
def yX7_find : MethodName := ⟨RX7, "find", "(IZ)I"⟩
abbrev cX7_title : ByteArray := prog_1_method_29_code
def yX7_title : MethodName := ⟨RX7, "title", "()I"⟩
abbrev cX7_found : ByteArray := prog_1_method_30_code
def yX7_found : MethodName := ⟨RX7, "found", "(II)I"⟩
abbrev cX7_put : ByteArray := prog_1_method_31_code
def yX7_put : MethodName := ⟨RX7, "put", "(II)I"⟩
abbrev cX7_share : ByteArray := prog_1_method_32_code
def yX7_share : MethodName := ⟨RX7, "share", "(II)I"⟩
abbrev cX7_judge : ByteArray := prog_1_method_33_code
def yX7_judge : MethodName := ⟨RX7, "judge", "(II)I"⟩
abbrev cX7_wrong : ByteArray := prog_1_method_34_code
def yX7_wrong : MethodName := ⟨RX7, "wrong", "()I"⟩
abbrev cX7_parting : ByteArray := prog_1_method_35_code
def yX7_parting : MethodName := ⟨RX7, "parting", "(II)I"⟩
abbrev cX7_beside : ByteArray := prog_1_method_36_code
def yX7_beside : MethodName := ⟨RX7, "beside", "(II)I"⟩
abbrev cX7_image : ByteArray := prog_1_method_37_code
def yX7_image : MethodName := ⟨RX7, "image", "()I"⟩
abbrev cX7_restore : ByteArray := prog_1_method_38_code
def yX7_restore : MethodName := ⟨RX7, "restore", "()I"⟩
abbrev cX7_count : ByteArray := prog_1_method_39_code
def yX7_count : MethodName := ⟨RX7, "count", "(I)I"⟩
abbrev cX7_need : ByteArray := prog_1_method_40_code
def yX7_need : MethodName := ⟨RX7, "need", "(Z)V"⟩
abbrev cX7_needHand : ByteArray := prog_1_method_41_code
def yX7_needHand : MethodName := ⟨RX7, "needHand", "(I)V"⟩
abbrev cX7_isWithin : ByteArray := prog_1_method_42_code
def yX7_isWithin : MethodName := ⟨RX7, "isWithin", "(II)Z"⟩
abbrev cX7_isLaw : ByteArray := prog_1_method_43_code
def yX7_isLaw : MethodName := ⟨RX7, "isLaw", "(I)Z"⟩
abbrev cX7_lawInForce : ByteArray := prog_1_method_44_code
def yX7_lawInForce : MethodName := ⟨RX7, "lawInForce", "()LKeepingHands$Law;"⟩
abbrev cX7_layOnTape : ByteArray := prog_1_method_45_code
def yX7_layOnTape : MethodName := ⟨RX7, "layOnTape", "(I)V"⟩
abbrev cX7_keepingOfCase : ByteArray := prog_1_method_46_code
def yX7_keepingOfCase : MethodName := ⟨RX7, "keepingOfCase", "(I)I"⟩
abbrev cX7_harmOfCase : ByteArray := prog_1_method_47_code
def yX7_harmOfCase : MethodName := ⟨RX7, "harmOfCase", "(I)I"⟩
abbrev cX7_nameCase : ByteArray := prog_1_method_48_code
def yX7_nameCase : MethodName := ⟨RX7, "nameCase", "(IIII)V"⟩
abbrev cX7_allCases : ByteArray := prog_1_method_49_code
def yX7_allCases : MethodName := ⟨RX7, "allCases", "()I"⟩
abbrev cX7_reckonCases : ByteArray := prog_1_method_50_code
def yX7_reckonCases : MethodName := ⟨RX7, "reckonCases", "()V"⟩
abbrev cX7_isBurdened : ByteArray := prog_1_method_51_code
def yX7_isBurdened : MethodName := ⟨RX7, "isBurdened", "(II)Z"⟩
abbrev cX7_burdenedCases : ByteArray := prog_1_method_52_code
def yX7_burdenedCases : MethodName := ⟨RX7, "burdenedCases", "(I)I"⟩
abbrev cX7_casesLikeBit : ByteArray := prog_1_method_53_code
def yX7_casesLikeBit : MethodName := ⟨RX7, "casesLikeBit", "(II)I"⟩
abbrev cX7_matters : ByteArray := prog_1_method_54_code
def yX7_matters : MethodName := ⟨RX7, "matters", "(I)Z"⟩
abbrev cX7_areBorneAlike : ByteArray := prog_1_method_55_code
def yX7_areBorneAlike : MethodName := ⟨RX7, "areBorneAlike", "(II)Z"⟩
def RX8 : String := "KeepingHandsModel"
def TX8 : u_T := fun k => match k with
  | 0 => ("KeepingHandsModel", "thrown", "I", false)
  | 1 => ("KeepingHandsModel", "tape", "I", false)
  | 2 => ("KeepingHandsModel", "size", "I", false)
  | 3 => ("KeepingHandsModel", "place", "I", false)
  | 4 => ("KeepingHandsModel", "at", "I", false)
  | 5 => ("KeepingHandsModel", "open", "I", false)
  | 6 => ("KeepingHandsModel", "fault", "I", false)
  | 7 => ("KeepingHandsModel", "faultAt", "I", false)
  | 8 => ("KeepingHandsModel", "which", "I", false)
  | 9 => ("KeepingHandsModel", "fed", "[I", true)
  | 10 => ("KeepingHandsModel", "text", "[[I", true)
  | 11 => ("KeepingHandsModel", "textSize", "[I", true)
  | 12 => ("KeepingHandsModel", "laws", "I", false)
  | 13 => ("KeepingHandsModel", "inForce", "I", false)
  | 14 => ("KeepingHandsModel", "names", "[I", true)
  | 15 => ("KeepingHandsModel", "keeping", "I", false)
  | 16 => ("KeepingHandsModel", "harmAsked", "I", false)
  | 17 => ("KeepingHandsModel", "termAsked", "I", false)
  | 18 => ("KeepingHandsModel", "clauses", "I", false)
  | 19 => ("KeepingHandsModel", "owed", "I", false)
  | 20 => ("KeepingHandsModel", "mixed", "I", false)
  | 21 => ("KeepingHandsModel", "answers", "Z", false)
  | 22 => ("KeepingHandsModel", "swears", "Z", false)
  | 23 => ("KeepingHandsModel", "isOwed", "Z", false)
  | 24 => ("KeepingHandsModel", "isLet", "Z", false)
  | 25 => ("KeepingHandsModel", "isTwice", "Z", false)
  | 26 => ("KeepingHandsModel", "hands", "I", false)
  | 27 => ("KeepingHandsModel", "value", "I", false)
  | 28 => ("KeepingHandsModel", "harm", "I", false)
  | 29 => ("KeepingHandsModel", "harmDay", "I", false)
  | 30 => ("KeepingHandsModel", "hand", "[[I", true)
  | 31 => ("KeepingHandsModel", "purse", "[I", true)
  | 32 => ("KeepingHandsModel", "judged", "[I", true)
  | 33 => ("KeepingHandsModel", "fact", "[[Z", true)
  | 34 => ("KeepingHandsModel", "holder", "I", false)
  | 35 => ("KeepingHandsModel", "claim", "[I", true)
  | 36 => ("KeepingHandsModel", "whom", "[I", true)
  | 37 => ("KeepingHandsModel", "pays", "[I", true)
  | 38 => ("KeepingHandsModel", "gets", "[I", true)
  | 39 => ("KeepingHandsModel", "bears", "[I", true)
  | 40 => ("KeepingHandsModel", "byOath", "[Z", true)
  | 41 => ("KeepingHandsModel", "isTwiceOf", "[Z", true)
  | 42 => ("KeepingHandsModel", "nameOf", "[[I", true)
  | 43 => ("KeepingHandsModel", "questions", "I", false)
  | 44 => ("KeepingHandsModel", "question", "[[I", true)
  | 45 => ("KeepingHandsModel", "keptFact", "[[Z", true)
  | 46 => ("KeepingHandsModel", "keptHarm", "I", false)
  | 47 => ("KeepingHandsModel", "keptDay", "I", false)
  | 48 => ("KeepingHandsModel", "inCases", "[[I", true)
  | 49 => ("KeepingHandsModel", "puttings", "I", false)
  | 50 => ("KeepingHandsModel", "goods", "I", false)
  | 51 => ("KeepingHandsModel", "putting", "[[I", true)
  | 52 => ("KeepingHandsModel", "images", "I", false)
  | _ => ("KeepingHandsModel", "kept", "[[I", true)
def tyX8 : Nat → FieldType := fun k => match k with
  | 0 => .int
  | 1 => .int
  | 2 => .int
  | 3 => .int
  | 4 => .int
  | 5 => .int
  | 6 => .int
  | 7 => .int
  | 8 => .int
  | 9 => .array .int
  | 10 => .array (.array .int)
  | 11 => .array .int
  | 12 => .int
  | 13 => .int
  | 14 => .array .int
  | 15 => .int
  | 16 => .int
  | 17 => .int
  | 18 => .int
  | 19 => .int
  | 20 => .int
  | 21 => .boolean
  | 22 => .boolean
  | 23 => .boolean
  | 24 => .boolean
  | 25 => .boolean
  | 26 => .int
  | 27 => .int
  | 28 => .int
  | 29 => .int
  | 30 => .array (.array .int)
  | 31 => .array .int
  | 32 => .array .int
  | 33 => .array (.array .boolean)
  | 34 => .int
  | 35 => .array .int
  | 36 => .array .int
  | 37 => .array .int
  | 38 => .array .int
  | 39 => .array .int
  | 40 => .array .boolean
  | 41 => .array .boolean
  | 42 => .array (.array .int)
  | 43 => .int
  | 44 => .array (.array .int)
  | 45 => .array (.array .boolean)
  | 46 => .int
  | 47 => .int
  | 48 => .array (.array .int)
  | 49 => .int
  | 50 => .int
  | 51 => .array (.array .int)
  | 52 => .int
  | _ => .array (.array .int)
abbrev wsX80 : List Cond := u_ws RX8 TX8 54
theorem nmX8 : ∀ a, a < 54 → ∀ b, b < 54 → a ≠ b → (TX8 a).2.1 ≠ (TX8 b).2.1 := by decide +kernel
theorem tyX8_ok : ∀ k, k < 54 → parseFieldDescriptor (TX8 k).2.2.1 = some (tyX8 k) := by decide +kernel
abbrev cX8_init : ByteArray := prog_10_method_1_code
def yX8_init : MethodName := ⟨RX8, "<init>", "()V"⟩
abbrev cX8_thrown : ByteArray := prog_10_method_2_code
def yX8_thrown : MethodName := ⟨RX8, "thrown", "()I"⟩
abbrev cX8_bad : ByteArray := prog_10_method_3_code
def yX8_bad : MethodName := ⟨RX8, "bad", "(ZI)Z"⟩
abbrev cX8_in : ByteArray := prog_10_method_4_code
def yX8_in : MethodName := ⟨RX8, "in", "(III)Z"⟩
abbrev cX8_less : ByteArray := prog_10_method_5_code
def yX8_less : MethodName := ⟨RX8, "less", "(II)I"⟩
abbrev cX8_feed : ByteArray := prog_10_method_6_code
def yX8_feed : MethodName := ⟨RX8, "feed", "(IIIII)I"⟩
abbrev cX8_byteAt : ByteArray := prog_10_method_7_code
def yX8_byteAt : MethodName := ⟨RX8, "byteAt", "(I)I"⟩
abbrev cX8_blanks : ByteArray := prog_10_method_8_code
def yX8_blanks : MethodName := ⟨RX8, "blanks", "()V"⟩
abbrev cX8_wrongAt : ByteArray := prog_10_method_9_code
def yX8_wrongAt : MethodName := ⟨RX8, "wrongAt", "(II)V"⟩
abbrev cX8_isDigit : ByteArray := prog_10_method_10_code
def yX8_isDigit : MethodName := ⟨RX8, "isDigit", "(I)Z"⟩
abbrev cX8_number : ByteArray := prog_10_method_11_code
def yX8_number : MethodName := ⟨RX8, "number", "(II)I"⟩
abbrev cX8_wordHere : ByteArray := prog_10_method_12_code
def yX8_wordHere : MethodName := ⟨RX8, "wordHere", "()I"⟩
abbrev cX8_isAnswers : ByteArray := prog_10_method_13_code
def yX8_isAnswers : MethodName := ⟨RX8, "isAnswers", "()Z"⟩
abbrev cX8_word : ByteArray := prog_10_method_14_code
def yX8_word : MethodName := ⟨RX8, "word", "(IIIIII)I"⟩
abbrev cX8_isWord : ByteArray := prog_10_method_15_code
def yX8_isWord : MethodName := ⟨RX8, "isWord", "(IIIIII)Z"⟩
abbrev cX8_skipWord : ByteArray := prog_10_method_16_code
def yX8_skipWord : MethodName := ⟨RX8, "skipWord", "()V"⟩
abbrev cX8_sign : ByteArray := prog_10_method_17_code
def yX8_sign : MethodName := ⟨RX8, "sign", "(I)V"⟩
abbrev cX8_opens : ByteArray := prog_10_method_18_code
def yX8_opens : MethodName := ⟨RX8, "opens", "(I)V"⟩
abbrev cX8_nameHere : ByteArray := prog_10_method_19_code
def yX8_nameHere : MethodName := ⟨RX8, "nameHere", "()I"⟩
abbrev cX8_unit : ByteArray := prog_10_method_20_code
def yX8_unit : MethodName := ⟨RX8, "unit", "()I"⟩
abbrev cX8_product : ByteArray := prog_10_method_21_code
def yX8_product : MethodName := ⟨RX8, "product", "()I"⟩
abbrev cX8_sum : ByteArray := prog_10_method_22_code
def yX8_sum : MethodName := ⟨RX8, "sum", "()I"⟩
abbrev cX8_test : ByteArray := prog_10_method_23_code
def yX8_test : MethodName := ⟨RX8, "test", "()Z"⟩
abbrev cX8_ands : ByteArray := prog_10_method_24_code
def yX8_ands : MethodName := ⟨RX8, "ands", "()Z"⟩
abbrev cX8_ors : ByteArray := prog_10_method_25_code
def yX8_ors : MethodName := ⟨RX8, "ors", "()Z"⟩
abbrev cX8_keepingHere : ByteArray := prog_10_method_26_code
def yX8_keepingHere : MethodName := ⟨RX8, "keepingHere", "()I"⟩
abbrev cX8_harmHere : ByteArray := prog_10_method_27_code
def yX8_harmHere : MethodName := ⟨RX8, "harmHere", "()I"⟩
abbrev cX8_harms : ByteArray := prog_10_method_28_code
def yX8_harms : MethodName := ⟨RX8, "harms", "()Z"⟩
abbrev cX8_terms : ByteArray := prog_10_method_29_code
def yX8_terms : MethodName := ⟨RX8, "terms", "()Z"⟩
abbrev cX8_clause : ByteArray := prog_10_method_30_code
def yX8_clause : MethodName := ⟨RX8, "clause", "()V"⟩
abbrev cX8_mixes : ByteArray := prog_10_method_31_code
def yX8_mixes : MethodName := ⟨RX8, "mixes", "()V"⟩
abbrev cX8_says : ByteArray := prog_10_method_32_code
def yX8_says : MethodName := ⟨RX8, "says", "(Z)V"⟩
abbrev cX8_walks : ByteArray := prog_10_method_33_code
def yX8_walks : MethodName := ⟨RX8, "walks", "()V"⟩
abbrev cX8_law : ByteArray := prog_10_method_34_code
def yX8_law : MethodName := ⟨RX8, "law", "(I)I"⟩
abbrev cX8_fault : ByteArray := prog_10_method_35_code
def yX8_fault : MethodName := ⟨RX8, "fault", "()I"⟩
abbrev cX8_force : ByteArray := prog_10_method_36_code
def yX8_force : MethodName := ⟨RX8, "force", "(I)I"⟩
abbrev cX8_asks : ByteArray := prog_10_method_37_code
def yX8_asks : MethodName := ⟨RX8, "asks", "(IIII)V"⟩
abbrev cX8_tellsBits : ByteArray := prog_10_method_38_code
def yX8_tellsBits : MethodName := ⟨RX8, "tellsBits", "(I)V"⟩
abbrev cX8_words : ByteArray := prog_10_method_39_code
def yX8_words : MethodName := ⟨RX8, "words", "(IIIIII)I"⟩
abbrev cX8_lets : ByteArray := prog_10_method_40_code
def yX8_lets : MethodName := ⟨RX8, "lets", "(III)Z"⟩
abbrev cX8_pass : ByteArray := prog_10_method_41_code
def yX8_pass : MethodName := ⟨RX8, "pass", "(IIIIZ)I"⟩
abbrev cX8_isHand : ByteArray := prog_10_method_42_code
def yX8_isHand : MethodName := ⟨RX8, "isHand", "(I)Z"⟩
abbrev cX8_hand : ByteArray := prog_10_method_43_code
def yX8_hand : MethodName := ⟨RX8, "hand", "(II)I"⟩
abbrev cX8_value : ByteArray := prog_10_method_44_code
def yX8_value : MethodName := ⟨RX8, "value", "(I)I"⟩
abbrev cX8_purse : ByteArray := prog_10_method_45_code
def yX8_purse : MethodName := ⟨RX8, "purse", "(II)I"⟩
abbrev cX8_fact : ByteArray := prog_10_method_46_code
def yX8_fact : MethodName := ⟨RX8, "fact", "(IIZ)Z"⟩
abbrev cX8_harm : ByteArray := prog_10_method_47_code
def yX8_harm : MethodName := ⟨RX8, "harm", "(II)I"⟩
abbrev cX8_findHolder : ByteArray := prog_10_method_48_code
def yX8_findHolder : MethodName := ⟨RX8, "findHolder", "()V"⟩
abbrev cX8_hasPassed : ByteArray := prog_10_method_49_code
def yX8_hasPassed : MethodName := ⟨RX8, "hasPassed", "(I)Z"⟩
abbrev cX8_tellsNames : ByteArray := prog_10_method_50_code
def yX8_tellsNames : MethodName := ⟨RX8, "tellsNames", "(II)V"⟩
abbrev cX8_ends : ByteArray := prog_10_method_51_code
def yX8_ends : MethodName := ⟨RX8, "ends", "(I)V"⟩
abbrev cX8_holder : ByteArray := prog_10_method_52_code
def yX8_holder : MethodName := ⟨RX8, "holder", "()I"⟩
abbrev cX8_isWithin : ByteArray := prog_10_method_53_code
def yX8_isWithin : MethodName := ⟨RX8, "isWithin", "(I)Z"⟩
abbrev cX8_name : ByteArray := prog_10_method_54_code
def yX8_name : MethodName := ⟨RX8, "name", "(II)I"⟩
abbrev cX8_claim : ByteArray := prog_10_method_55_code
def yX8_claim : MethodName := ⟨RX8, "claim", "(I)I"⟩
abbrev cX8_whom : ByteArray := prog_10_method_56_code
def yX8_whom : MethodName := ⟨RX8, "whom", "(I)I"⟩
abbrev cX8_pays : ByteArray := prog_10_method_57_code
def yX8_pays : MethodName := ⟨RX8, "pays", "(I)I"⟩
abbrev cX8_bears : ByteArray := prog_10_method_58_code
def yX8_bears : MethodName := ⟨RX8, "bears", "(I)I"⟩
abbrev cX8_must : ByteArray := prog_10_method_59_code
def yX8_must : MethodName := ⟨RX8, "must", "(I)Z"⟩
abbrev cX8_frees : ByteArray := prog_10_method_60_code
def yX8_frees : MethodName := ⟨RX8, "frees", "(I)I"⟩
abbrev cX8_question : ByteArray := prog_10_method_61_code
def yX8_question : MethodName := ⟨RX8, "question", "(III)I"⟩
abbrev cX8_goesInto : ByteArray := prog_10_method_62_code
def yX8_goesInto : MethodName := ⟨RX8, "goesInto", "(I)V"⟩
abbrev cX8_comesBack : ByteArray := prog_10_method_63_code
def yX8_comesBack : MethodName := ⟨RX8, "comesBack", "()V"⟩
abbrev cX8_caseMany : ByteArray := prog_10_method_64_code
def yX8_caseMany : MethodName := ⟨RX8, "caseMany", "()I"⟩
abbrev cX8_findCases : ByteArray := prog_10_method_65_code
def yX8_findCases : MethodName := ⟨RX8, "findCases", "()V"⟩
abbrev cX8_inCase : ByteArray := prog_10_method_66_code
def yX8_inCase : MethodName := ⟨RX8, "inCase", "(II)I"⟩
abbrev cX8_casesOf : ByteArray := prog_10_method_67_code
def yX8_casesOf : MethodName := ⟨RX8, "casesOf", "(I)I"⟩
abbrev cX8_sure : ByteArray := prog_10_method_68_code
def yX8_sure : MethodName := ⟨RX8, "sure", "(I)I"⟩
abbrev cX8_cases : ByteArray := prog_10_method_69_code
def yX8_cases : MethodName := ⟨RX8, "cases", "(I)I"⟩
abbrev cX8_hangs : ByteArray := prog_10_method_70_code
def yX8_hangs : MethodName := ⟨RX8, "hangs", "(I)I"⟩
abbrev cX8_ones : ByteArray := prog_10_method_71_code
def yX8_ones : MethodName := ⟨RX8, "ones", "(I)I"⟩
abbrev cX8_areAlike : ByteArray := prog_10_method_72_code
def yX8_areAlike : MethodName := ⟨RX8, "areAlike", "(II)Z"⟩
abbrev cX8_settles : ByteArray := prog_10_method_73_code
def yX8_settles : MethodName := ⟨RX8, "settles", "(I)Z"⟩
abbrev cX8_least : ByteArray := prog_10_method_74_code
def yX8_least : MethodName := ⟨RX8, "least", "()I"⟩
abbrev cX8_find : ByteArray := prog_10_method_75_code
def yX8_find : MethodName := ⟨RX8, "find", "(IZ)I"⟩
abbrev cX8_titleNow : ByteArray := prog_10_method_76_code
def yX8_titleNow : MethodName := ⟨RX8, "titleNow", "()I"⟩
abbrev cX8_title : ByteArray := prog_10_method_77_code
def yX8_title : MethodName := ⟨RX8, "title", "()I"⟩
abbrev cX8_found : ByteArray := prog_10_method_78_code
def yX8_found : MethodName := ⟨RX8, "found", "(II)I"⟩
abbrev cX8_put : ByteArray := prog_10_method_79_code
def yX8_put : MethodName := ⟨RX8, "put", "(II)I"⟩
abbrev cX8_share : ByteArray := prog_10_method_80_code
def yX8_share : MethodName := ⟨RX8, "share", "(II)I"⟩
abbrev cX8_judge : ByteArray := prog_10_method_81_code
def yX8_judge : MethodName := ⟨RX8, "judge", "(II)I"⟩
abbrev cX8_wrong : ByteArray := prog_10_method_82_code
def yX8_wrong : MethodName := ⟨RX8, "wrong", "()I"⟩
abbrev cX8_claimIn : ByteArray := prog_10_method_83_code
def yX8_claimIn : MethodName := ⟨RX8, "claimIn", "(II)I"⟩
abbrev cX8_parting : ByteArray := prog_10_method_84_code
def yX8_parting : MethodName := ⟨RX8, "parting", "(II)I"⟩
abbrev cX8_beside : ByteArray := prog_10_method_85_code
def yX8_beside : MethodName := ⟨RX8, "beside", "(II)I"⟩
abbrev cX8_moves : ByteArray := prog_10_method_86_code
def yX8_moves : MethodName := ⟨RX8, "moves", "(IIIZ)I"⟩
abbrev cX8_movesAll : ByteArray := prog_10_method_87_code
def yX8_movesAll : MethodName := ⟨RX8, "movesAll", "(IZ)V"⟩
abbrev cX8_image : ByteArray := prog_10_method_88_code
def yX8_image : MethodName := ⟨RX8, "image", "()I"⟩
abbrev cX8_restore : ByteArray := prog_10_method_89_code
def yX8_restore : MethodName := ⟨RX8, "restore", "()I"⟩
abbrev cX8_count : ByteArray := prog_10_method_90_code
def yX8_count : MethodName := ⟨RX8, "count", "(I)I"⟩
def RJx145de : String := "java/io/Serializable"
def TJx145de : u_T := fun k => match k with
  | _ => ("", "", "", false)
def tyJx145de : Nat → FieldType := fun k => match k with
  | _ => .int
abbrev wsJx145de0 : List Cond := u_ws RJx145de TJx145de 0
theorem nmJx145de : ∀ a, a < 0 → ∀ b, b < 0 → a ≠ b → (TJx145de a).2.1 ≠ (TJx145de b).2.1 := by decide +kernel
theorem tyJx145de_ok : ∀ k, k < 0 → parseFieldDescriptor (TJx145de k).2.2.1 = some (tyJx145de k) := by decide +kernel
def RJx9f9b0 : String := "java/lang/CharSequence"
def TJx9f9b0 : u_T := fun k => match k with
  | _ => ("", "", "", false)
def tyJx9f9b0 : Nat → FieldType := fun k => match k with
  | _ => .int
abbrev wsJx9f9b00 : List Cond := u_ws RJx9f9b0 TJx9f9b0 0
theorem nmJx9f9b0 : ∀ a, a < 0 → ∀ b, b < 0 → a ≠ b → (TJx9f9b0 a).2.1 ≠ (TJx9f9b0 b).2.1 := by decide +kernel
theorem tyJx9f9b0_ok : ∀ k, k < 0 → parseFieldDescriptor (TJx9f9b0 k).2.2.1 = some (tyJx9f9b0 k) := by decide +kernel
def RJxb160c : String := "java/lang/Comparable"
def TJxb160c : u_T := fun k => match k with
  | _ => ("", "", "", false)
def tyJxb160c : Nat → FieldType := fun k => match k with
  | _ => .int
abbrev wsJxb160c0 : List Cond := u_ws RJxb160c TJxb160c 0
theorem nmJxb160c : ∀ a, a < 0 → ∀ b, b < 0 → a ≠ b → (TJxb160c a).2.1 ≠ (TJxb160c b).2.1 := by decide +kernel
theorem tyJxb160c_ok : ∀ k, k < 0 → parseFieldDescriptor (TJxb160c k).2.2.1 = some (tyJxb160c k) := by decide +kernel
def RJ9 : String := "java/lang/Math"
def TJ9 : u_T := fun k => match k with
  | _ => ("", "", "", false)
def tyJ9 : Nat → FieldType := fun k => match k with
  | _ => .int
abbrev wsJ90 : List Cond := u_ws RJ9 TJ9 0
theorem nmJ9 : ∀ a, a < 0 → ∀ b, b < 0 → a ≠ b → (TJ9 a).2.1 ≠ (TJ9 b).2.1 := by decide +kernel
theorem tyJ9_ok : ∀ k, k < 0 → parseFieldDescriptor (TJ9 k).2.2.1 = some (tyJ9 k) := by decide +kernel
abbrev cJ9_max_7cf53 : ByteArray := prog_16_method_65_code
def yJ9_max_7cf53 : MethodName := ⟨RJ9, "max", "(II)I"⟩
abbrev cJ9_min_7cf53 : ByteArray := prog_16_method_69_code
def yJ9_min_7cf53 : MethodName := ⟨RJ9, "min", "(II)I"⟩
def RJ0 : String := "java/lang/String"
def TJ0 : u_T := fun k => match k with
  | _ => ("", "", "", false)
def tyJ0 : Nat → FieldType := fun k => match k with
  | _ => .int
abbrev wsJ00 : List Cond := u_ws RJ0 TJ0 0
theorem nmJ0 : ∀ a, a < 0 → ∀ b, b < 0 → a ≠ b → (TJ0 a).2.1 ≠ (TJ0 b).2.1 := by decide +kernel
theorem tyJ0_ok : ∀ k, k < 0 → parseFieldDescriptor (TJ0 k).2.2.1 = some (tyJ0 k) := by decide +kernel
abbrev cJ0_length_8abf5 : ByteArray := prog_18_method_54_code
def yJ0_length_8abf5 : MethodName := ⟨RJ0, "length", "()I"⟩
abbrev cJ0_charAt_5068e : ByteArray := prog_18_method_56_code
def yJ0_charAt_5068e : MethodName := ⟨RJ0, "charAt", "(I)C"⟩
abbrev cJ0_coder_7d493 : ByteArray := prog_18_method_152_code
def yJ0_coder_7d493 : MethodName := ⟨RJ0, "coder", "()B"⟩
abbrev cJ0_isLatin1_aae02 : ByteArray := prog_18_method_154_code
def yJ0_isLatin1_aae02 : MethodName := ⟨RJ0, "isLatin1", "()Z"⟩
abbrev cJ0_checkIndex_df160 : ByteArray := prog_18_method_155_code
def yJ0_checkIndex_df160 : MethodName := ⟨RJ0, "checkIndex", "(II)V"⟩
def RJ1 : String := "java/lang/StringLatin1"
def TJ1 : u_T := fun k => match k with
  | _ => ("", "", "", false)
def tyJ1 : Nat → FieldType := fun k => match k with
  | _ => .int
abbrev wsJ10 : List Cond := u_ws RJ1 TJ1 0
theorem nmJ1 : ∀ a, a < 0 → ∀ b, b < 0 → a ≠ b → (TJ1 a).2.1 ≠ (TJ1 b).2.1 := by decide +kernel
theorem tyJ1_ok : ∀ k, k < 0 → parseFieldDescriptor (TJ1 k).2.2.1 = some (tyJ1 k) := by decide +kernel
abbrev cJ1_charAt_3b067 : ByteArray := prog_19_method_2_code
def yJ1_charAt_3b067 : MethodName := ⟨RJ1, "charAt", "([BI)C"⟩
def RJ2 : String := "java/lang/StringUTF16"
def TJ2 : u_T := fun k => match k with
  | _ => ("", "", "", false)
def tyJ2 : Nat → FieldType := fun k => match k with
  | _ => .int
abbrev wsJ20 : List Cond := u_ws RJ2 TJ2 0
theorem nmJ2 : ∀ a, a < 0 → ∀ b, b < 0 → a ≠ b → (TJ2 a).2.1 ≠ (TJ2 b).2.1 := by decide +kernel
theorem tyJ2_ok : ∀ k, k < 0 → parseFieldDescriptor (TJ2 k).2.2.1 = some (tyJ2 k) := by decide +kernel
abbrev cJ2_getChar_3b067 : ByteArray := prog_20_method_5_code
def yJ2_getChar_3b067 : MethodName := ⟨RJ2, "getChar", "([BI)C"⟩
abbrev cJ2_length_9d52b : ByteArray := prog_20_method_6_code
def yJ2_length_9d52b : MethodName := ⟨RJ2, "length", "([B)I"⟩
abbrev cJ2_charAt_3b067 : ByteArray := prog_20_method_83_code
def yJ2_charAt_3b067 : MethodName := ⟨RJ2, "charAt", "([BI)C"⟩
abbrev cJ2_checkIndex_2214a : ByteArray := prog_20_method_91_code
def yJ2_checkIndex_2214a : MethodName := ⟨RJ2, "checkIndex", "(I[B)V"⟩
def RJ10 : String := "java/lang/System"
def TJ10 : u_T := fun k => match k with
  | _ => ("", "", "", false)
def tyJ10 : Nat → FieldType := fun k => match k with
  | _ => .int
abbrev wsJ100 : List Cond := u_ws RJ10 TJ10 0
theorem nmJ10 : ∀ a, a < 0 → ∀ b, b < 0 → a ≠ b → (TJ10 a).2.1 ≠ (TJ10 b).2.1 := by decide +kernel
theorem tyJ10_ok : ∀ k, k < 0 → parseFieldDescriptor (TJ10 k).2.2.1 = some (tyJ10 k) := by decide +kernel
def RJxfd54e : String := "java/lang/constant/Constable"
def TJxfd54e : u_T := fun k => match k with
  | _ => ("", "", "", false)
def tyJxfd54e : Nat → FieldType := fun k => match k with
  | _ => .int
abbrev wsJxfd54e0 : List Cond := u_ws RJxfd54e TJxfd54e 0
theorem nmJxfd54e : ∀ a, a < 0 → ∀ b, b < 0 → a ≠ b → (TJxfd54e a).2.1 ≠ (TJxfd54e b).2.1 := by decide +kernel
theorem tyJxfd54e_ok : ∀ k, k < 0 → parseFieldDescriptor (TJxfd54e k).2.2.1 = some (tyJxfd54e k) := by decide +kernel
def RJx3cf43 : String := "java/lang/constant/ConstantDesc"
def TJx3cf43 : u_T := fun k => match k with
  | _ => ("", "", "", false)
def tyJx3cf43 : Nat → FieldType := fun k => match k with
  | _ => .int
abbrev wsJx3cf430 : List Cond := u_ws RJx3cf43 TJx3cf43 0
theorem nmJx3cf43 : ∀ a, a < 0 → ∀ b, b < 0 → a ≠ b → (TJx3cf43 a).2.1 ≠ (TJx3cf43 b).2.1 := by decide +kernel
theorem tyJx3cf43_ok : ∀ k, k < 0 → parseFieldDescriptor (TJx3cf43 k).2.2.1 = some (tyJx3cf43 k) := by decide +kernel
def RJ3 : String := "jdk/internal/util/Preconditions"
def TJ3 : u_T := fun k => match k with
  | _ => ("", "", "", false)
def tyJ3 : Nat → FieldType := fun k => match k with
  | _ => .int
abbrev wsJ30 : List Cond := u_ws RJ3 TJ3 0
theorem nmJ3 : ∀ a, a < 0 → ∀ b, b < 0 → a ≠ b → (TJ3 a).2.1 ≠ (TJ3 b).2.1 := by decide +kernel
theorem tyJ3_ok : ∀ k, k < 0 → parseFieldDescriptor (TJ3 k).2.2.1 = some (tyJ3 k) := by decide +kernel
abbrev cJ3_checkIndex_8e157 : ByteArray := prog_26_method_11_code
def yJ3_checkIndex_8e157 : MethodName := ⟨RJ3, "checkIndex", "(IILjava/util/function/BiFunction;)I"⟩
def RL : String := "KeepingHandsLaw"
abbrev cL_law : ByteArray := method_3_code
def yL_law : MethodName := ⟨RL, "law", "(LKeepingHands;I[J)I"⟩
abbrev cL_force : ByteArray := method_4_code
def yL_force : MethodName := ⟨RL, "force", "(LKeepingHands;I[J)I"⟩
abbrev cL_words : ByteArray := method_5_code
def yL_words : MethodName := ⟨RL, "words", "(LKeepingHands;IIIIII[J)I"⟩
abbrev cL_lets : ByteArray := method_6_code
def yL_lets : MethodName := ⟨RL, "lets", "(LKeepingHands;III[J)I"⟩
abbrev cL_pass : ByteArray := method_7_code
def yL_pass : MethodName := ⟨RL, "pass", "(LKeepingHands;IIIIZ[J)I"⟩
abbrev cL_hand : ByteArray := method_8_code
def yL_hand : MethodName := ⟨RL, "hand", "(LKeepingHands;II[J)I"⟩
abbrev cL_value : ByteArray := method_9_code
def yL_value : MethodName := ⟨RL, "value", "(LKeepingHands;I[J)I"⟩
abbrev cL_purse : ByteArray := method_10_code
def yL_purse : MethodName := ⟨RL, "purse", "(LKeepingHands;II[J)I"⟩
abbrev cL_fact : ByteArray := method_11_code
def yL_fact : MethodName := ⟨RL, "fact", "(LKeepingHands;IIZ[J)I"⟩
abbrev cL_harm : ByteArray := method_12_code
def yL_harm : MethodName := ⟨RL, "harm", "(LKeepingHands;II[J)I"⟩
abbrev cL_name : ByteArray := method_13_code
def yL_name : MethodName := ⟨RL, "name", "(LKeepingHands;II[J)I"⟩
abbrev cL_claim : ByteArray := method_14_code
def yL_claim : MethodName := ⟨RL, "claim", "(LKeepingHands;I[J)I"⟩
abbrev cL_whom : ByteArray := method_15_code
def yL_whom : MethodName := ⟨RL, "whom", "(LKeepingHands;I[J)I"⟩
abbrev cL_pays : ByteArray := method_16_code
def yL_pays : MethodName := ⟨RL, "pays", "(LKeepingHands;I[J)I"⟩
abbrev cL_bears : ByteArray := method_17_code
def yL_bears : MethodName := ⟨RL, "bears", "(LKeepingHands;I[J)I"⟩
abbrev cL_must : ByteArray := method_18_code
def yL_must : MethodName := ⟨RL, "must", "(LKeepingHands;I[J)I"⟩
abbrev cL_frees : ByteArray := method_19_code
def yL_frees : MethodName := ⟨RL, "frees", "(LKeepingHands;I[J)I"⟩
abbrev cL_question : ByteArray := method_20_code
def yL_question : MethodName := ⟨RL, "question", "(LKeepingHands;III[J)I"⟩
abbrev cL_inCase : ByteArray := method_21_code
def yL_inCase : MethodName := ⟨RL, "inCase", "(LKeepingHands;II[J)I"⟩
abbrev cL_sure : ByteArray := method_22_code
def yL_sure : MethodName := ⟨RL, "sure", "(LKeepingHands;I[J)I"⟩
abbrev cL_cases : ByteArray := method_23_code
def yL_cases : MethodName := ⟨RL, "cases", "(LKeepingHands;I[J)I"⟩
abbrev cL_hangs : ByteArray := method_24_code
def yL_hangs : MethodName := ⟨RL, "hangs", "(LKeepingHands;I[J)I"⟩
abbrev cL_find : ByteArray := method_25_code
def yL_find : MethodName := ⟨RL, "find", "(LKeepingHands;IZ[J)I"⟩
abbrev cL_found : ByteArray := method_26_code
def yL_found : MethodName := ⟨RL, "found", "(LKeepingHands;II[J)I"⟩
abbrev cL_put : ByteArray := method_27_code
def yL_put : MethodName := ⟨RL, "put", "(LKeepingHands;II[J)I"⟩
abbrev cL_share : ByteArray := method_28_code
def yL_share : MethodName := ⟨RL, "share", "(LKeepingHands;II[J)I"⟩
abbrev cL_judge : ByteArray := method_29_code
def yL_judge : MethodName := ⟨RL, "judge", "(LKeepingHands;II[J)I"⟩
abbrev cL_parting : ByteArray := method_30_code
def yL_parting : MethodName := ⟨RL, "parting", "(LKeepingHands;II[J)I"⟩
abbrev cL_beside : ByteArray := method_31_code
def yL_beside : MethodName := ⟨RL, "beside", "(LKeepingHands;II[J)I"⟩
abbrev cL_law_ : ByteArray := code
def yL_law_ : MethodName := ⟨RL, "law", "([I)Z"⟩
abbrev vwCl : List vw_C := [(RX0, TX0, 9), (RX1, TX1, 8), (RX2, TX2, 3), (RX3, TX3, 8), (RX4, TX4, 10), (RX5, TX5, 10), (RX6, TX6, 3), (RX7, TX7, 14), (RX8, TX8, 54)]
end
section
/-! A SMALL MACHINE of our own: a method is a list of instructions of ours, its cells are numbered from 0 on in the order of their making; a run is a function. Part 05 and on tie it to the bytecode. -/
/-- a cell: an array (its kind, its length and contents; references by the cells' numbers), or an object (its class, its fields) -/
abbrev m_C : Type := (Nat × vp_A) ⊕ (Nat × List Value)
/-- the memory: the cells, how many there are, how many were made in all, how many slots they took -/
abbrev m_M : Type := (Nat → m_C) × (Nat × (Nat × Nat))
abbrev m_L : Type := List (Option Value)
abbrev m_R : Type := (Option Value ⊕ Nat) × m_M
abbrev m_B : Type := Nat → List Value → m_M → Option m_R
abbrev m_N : Type := (Nat × (m_L × (List Value × m_M))) ⊕ m_R
/-- an instruction: which one, two numbers, an int, targets -/
abbrev m_I : Type := Nat × (Nat × (Nat × (Int32 × List (Int32 × Nat))))
/-- the script: its length and contents -/
abbrev m_X : Type := Nat × (Nat → Int32)
def m_put (M : m_M) (k : Nat) (c : m_C) : m_M := (fun j => if j = k then c else M.1 j, M.2)
def m_add (M : m_M) (c : m_C) (n : Nat) : m_M := (fun j => if j = M.2.1 then c else M.1 j, (M.2.1 + 1, (M.2.2.1 + 1, M.2.2.2 + n)))
def m_go (i : Nat) (ls : m_L) (st : List Value) (M : m_M) : Option m_N := some (.inl (i, (ls, (st, M))))
def m_end (v : Option Value ⊕ Nat) (M : m_M) : Option m_N := some (.inr (v, M))
def m_in (j : Int32) (n : Nat) : Bool := decide (¬ (j < 0 ∨ n ≤ j.toNatClampNeg))
def m_isb (x : Int32) : Bool := x == 0 || x == 1
/-- what a field may take: 0 an int, 1 a boolean, else a reference -/
def m_fit (kind : Nat) (v : Value) : Bool := match v with
  | .int x => kind == 0 || (kind == 1 && m_isb x)
  | .ref _ => kind == 2
  | .null => kind == 2
  | _ => false
def m_cond (c : Nat) (x y : Int32) : Bool := match c with
  | 0 => decide (x = y)
  | 1 => decide (¬ x = y)
  | 2 => decide (x < y)
  | 3 => decide (y ≤ x)
  | 4 => decide (y < x)
  | _ => decide (x ≤ y)
def m_bin (o : Nat) (x y : Int32) : Option Int32 := match o with
  | 0 => some (x + y)
  | 1 => some (x - y)
  | 2 => some (x * y)
  | 3 => if y = 0 then none else some (x / y)
  | 4 => if y = 0 then none else some (x - x / y * y)
  | 5 => some (x <<< (y &&& 31))
  | 6 => some (x >>> (y &&& 31))
  | 7 => some (x &&& y)
  | 8 => some (x ||| y)
  | _ => some (x ^^^ y)
def m_cat1 (v : Value) : Bool := match v with
  | .int _ => true
  | .ref _ => true
  | .null => true
  | _ => false
def m_cats (st : List Value) : Nat := (st.map fun v => v.category).sum
/-- numbers of cells that lie outside: 1000000 the script, behind it the texts -/
def m_T0 : Nat := 1000001
def s_const (v : Int32) (i : Nat) (ls : m_L) (st : List Value) (M : m_M) : Option m_N := m_go (i + 1) ls (.int v :: st) M
def s_iload (a i : Nat) (ls : m_L) (st : List Value) (M : m_M) : Option m_N := match ls[a]? with
  | some (some (.int x)) => m_go (i + 1) ls (.int x :: st) M
  | _ => none
def s_aload (a i : Nat) (ls : m_L) (st : List Value) (M : m_M) : Option m_N := match ls[a]? with
  | some (some (.ref x)) => m_go (i + 1) ls (.ref x :: st) M
  | _ => none
def s_istore (a i : Nat) (ls : m_L) (st : List Value) (M : m_M) : Option m_N := match st with
  | .int x :: r => if a < ls.length then m_go (i + 1) (ls.set a (some (.int x))) r M else none
  | _ => none
def s_astore (a i : Nat) (ls : m_L) (st : List Value) (M : m_M) : Option m_N := match st with
  | .ref x :: r => if a < ls.length then m_go (i + 1) (ls.set a (some (.ref x))) r M else none
  | _ => none
def s_iinc (a : Nat) (n : Int32) (i : Nat) (ls : m_L) (st : List Value) (M : m_M) : Option m_N := match ls[a]? with
  | some (some (.int x)) => m_go (i + 1) (ls.set a (some (.int (x + n)))) st M
  | _ => none
def s_getf (ci k i : Nat) (ls : m_L) (st : List Value) (M : m_M) : Option m_N := match st with
  | .ref r :: st => match M.1 r with
    | .inr (c, fs) => if r < M.2.1 ∧ c = ci then match fs[k]? with
      | some v => m_go (i + 1) ls (v :: st) M
      | none => none else none
    | _ => none
  | _ => none
def s_putf (ci k kind i : Nat) (ls : m_L) (st : List Value) (M : m_M) : Option m_N := match st with
  | v :: .ref r :: st => match M.1 r with
    | .inr (c, fs) => if r < M.2.1 ∧ c = ci ∧ k < fs.length ∧ m_fit kind v = true then m_go (i + 1) ls st (m_put M r (.inr (c, fs.set k v))) else none
    | _ => none
  | _ => none
def s_iald (X : m_X) (i : Nat) (ls : m_L) (st : List Value) (M : m_M) : Option m_N := match st with
  | .int j :: .ref r :: st => if r = 1000000 then (if m_in j X.1 = true then m_go (i + 1) ls (.int (X.2 j.toNatClampNeg) :: st) M else none) else match M.1 r with
    | .inl (0, (n, .inl f)) => if r < M.2.1 ∧ m_in j n = true then m_go (i + 1) ls (.int (f j.toNatClampNeg) :: st) M else none
    | _ => none
  | _ => none
def s_bald (i : Nat) (ls : m_L) (st : List Value) (M : m_M) : Option m_N := match st with
  | .int j :: .ref r :: st => match M.1 r with
    | .inl (1, (n, .inl f)) => if r < M.2.1 ∧ m_in j n = true then m_go (i + 1) ls (.int (f j.toNatClampNeg) :: st) M else none
    | _ => none
  | _ => none
def s_lald (i : Nat) (ls : m_L) (st : List Value) (M : m_M) : Option m_N := match st with
  | .int j :: .ref r :: st => match M.1 r with
    | .inl (2, (n, .inr (.inl f))) => if r < M.2.1 ∧ m_in j n = true then m_go (i + 1) ls (.long (f j.toNatClampNeg) :: st) M else none
    | _ => none
  | _ => none
def s_aald (i : Nat) (ls : m_L) (st : List Value) (M : m_M) : Option m_N := match st with
  | .int j :: .ref r :: st => match M.1 r with
    | .inl (t, (n, .inr (.inr (.inr (.inr f))))) => if r < M.2.1 ∧ 3 ≤ t ∧ t < 9 ∧ m_in j n = true then (match f j.toNatClampNeg with
      | some k => m_go (i + 1) ls (.ref k :: st) M
      | none => none) else none
    | _ => none
  | _ => none
def s_iast (i : Nat) (ls : m_L) (st : List Value) (M : m_M) : Option m_N := match st with
  | .int x :: .int j :: .ref r :: st => match M.1 r with
    | .inl (0, (n, .inl f)) => if r < M.2.1 ∧ m_in j n = true then m_go (i + 1) ls st (m_put M r (.inl (0, (n, .inl (upd f j.toNatClampNeg x))))) else none
    | _ => none
  | _ => none
def s_bast (i : Nat) (ls : m_L) (st : List Value) (M : m_M) : Option m_N := match st with
  | .int x :: .int j :: .ref r :: st => match M.1 r with
    | .inl (1, (n, .inl f)) => if r < M.2.1 ∧ m_in j n = true ∧ m_isb x = true then m_go (i + 1) ls st (m_put M r (.inl (1, (n, .inl (upd f j.toNatClampNeg x))))) else none
    | _ => none
  | _ => none
def s_last (i : Nat) (ls : m_L) (st : List Value) (M : m_M) : Option m_N := match st with
  | .long x :: .int j :: .ref r :: st => match M.1 r with
    | .inl (2, (n, .inr (.inl f))) => if r < M.2.1 ∧ m_in j n = true then m_go (i + 1) ls st (m_put M r (.inl (2, (n, .inr (.inl (vp_updL f j.toNatClampNeg x)))))) else none
    | _ => none
  | _ => none
/-- of an array of objects: kind t holds objects of class m_el t -/
def m_el (t : Nat) : Nat := match t with
  | 5 => 4
  | 6 => 3
  | 7 => 6
  | _ => 0
def s_aast (i : Nat) (ls : m_L) (st : List Value) (M : m_M) : Option m_N := match st with
  | .ref v :: .int j :: .ref r :: st => match M.1 r, M.1 v with
    | .inl (t, (n, .inr (.inr (.inr (.inr f))))), .inr (c, _) => if r < M.2.1 ∧ v < M.2.1 ∧ 5 ≤ t ∧ t < 9 ∧ c = m_el t ∧ m_in j n = true then m_go (i + 1) ls st (m_put M r (.inl (t, (n, .inr (.inr (.inr (.inr (va_up f j.toNatClampNeg (some v)))))))))
      else none
    | _, _ => none
  | _ => none
def s_alen (X : m_X) (i : Nat) (ls : m_L) (st : List Value) (M : m_M) : Option m_N := match st with
  | .ref r :: st => if r = 1000000 then m_go (i + 1) ls (.int (Int32.ofNat X.1) :: st) M else match M.1 r with
    | .inl (t, a) => if r < M.2.1 ∧ t < 9 then m_go (i + 1) ls (.int (Int32.ofNat a.1) :: st) M else none
    | _ => none
  | _ => none
def s_bin (o i : Nat) (ls : m_L) (st : List Value) (M : m_M) : Option m_N := match st with
  | .int y :: .int x :: st => match m_bin o x y with
    | some z => m_go (i + 1) ls (.int z :: st) M
    | none => none
  | _ => none
def s_if (c t i : Nat) (ls : m_L) (st : List Value) (M : m_M) : Option m_N := match st with
  | .int x :: st => if m_cond c x 0 = true then m_go t ls st M else m_go (i + 1) ls st M
  | _ => none
def s_cmp (c t i : Nat) (ls : m_L) (st : List Value) (M : m_M) : Option m_N := match st with
  | .int y :: .int x :: st => if m_cond c x y = true then m_go t ls st M else m_go (i + 1) ls st M
  | _ => none
def m_sw (d : Nat) (x : Int32) : List (Int32 × Nat) → Nat
  | [] => d
  | q :: l => if x = q.1 then q.2 else m_sw d x l
def s_switch (d : Nat) (l : List (Int32 × Nat)) (ls : m_L) (st : List Value) (M : m_M) : Option m_N := match st with
  | .int x :: st => m_go (m_sw d x l) ls st M
  | _ => none
def s_dup (i : Nat) (ls : m_L) (st : List Value) (M : m_M) : Option m_N := match st with
  | v :: st => if m_cat1 v = true then m_go (i + 1) ls (v :: v :: st) M else none
  | _ => none
def s_dup2 (i : Nat) (ls : m_L) (st : List Value) (M : m_M) : Option m_N := match st with
  | v :: w :: st => if m_cat1 v = true ∧ m_cat1 w = true then m_go (i + 1) ls (v :: w :: v :: w :: st) M else none
  | _ => none
def s_i2l (i : Nat) (ls : m_L) (st : List Value) (M : m_M) : Option m_N := match st with
  | .int x :: st => m_go (i + 1) ls (.long x.toInt64 :: st) M
  | _ => none
def s_lconst (n i : Nat) (ls : m_L) (st : List Value) (M : m_M) : Option m_N := m_go (i + 1) ls (.long (Int64.ofNat n) :: st) M
def s_lcmp (i : Nat) (ls : m_L) (st : List Value) (M : m_M) : Option m_N := match st with
  | .long y :: .long x :: st => m_go (i + 1) ls (.int (lg_cmp x y) :: st) M
  | _ => none
/-- 0: an int is returned, 1: a boolean -/
def s_iret (kind : Nat) (st : List Value) (M : m_M) : Option m_N := match st with
  | [.int x] => if kind = 0 ∨ m_isb x = true then m_end (.inl (some (.int x))) M else none
  | _ => none
def s_aret (st : List Value) (M : m_M) : Option m_N := match st with
  | [.ref r] => m_end (.inl (some (.ref r))) M
  | _ => none
def s_ret (st : List Value) (M : m_M) : Option m_N := match st with
  | [] => m_end (.inl none) M
  | _ => none
/-- where a call throws e at pc: by the method's own handlers (from, to, what, answer) -/
def m_thr (pc e : Nat) (M : m_M) : List (Nat × (Nat × (Nat × Int32))) → Option m_N
  | [] => m_end (.inr e) M
  | h :: hs => if h.1 ≤ pc ∧ pc < h.2.1 ∧ h.2.2.1 = e then m_end (.inl (some (.int h.2.2.2))) M else m_thr pc e M hs
/-- the receiver is an object of class c - 1 (0: there is none to look at) -/
def m_recv (c : Nat) (As : List Value) (M : m_M) : Bool := match c with
  | 0 => true
  | c + 1 => match As with
    | .ref r :: _ => (match M.1 r with
      | .inr (k, _) => decide (r < M.2.1 ∧ k = c)
      | _ => false)
    | _ => false
def s_call (hs : List (Nat × (Nat × (Nat × Int32)))) (cb : m_B) (pc y na rc i : Nat) (ls : m_L) (st : List Value) (M : m_M) : Option m_N :=
  if na ≤ st.length ∧ m_cats (st.drop na) ≤ 8 ∧ (st.take na).all m_cat1 = true ∧ m_recv rc (st.take na).reverse M = true then
    match cb y (st.take na).reverse M with
    | none => none
    | some (.inl none, M1) => m_go (i + 1) ls (st.drop na) M1
    | some (.inl (some v), M1) => m_go (i + 1) ls (v :: st.drop na) M1
    | some (.inr e, M1) => m_thr pc e M1 hs
  else none
def s_min (i : Nat) (ls : m_L) (st : List Value) (M : m_M) : Option m_N := match st with
  | .int y :: .int x :: st => if m_cats st ≤ 8 then m_go (i + 1) ls (.int (if y < x then y else x) :: st) M else none
  | _ => none
def s_max (i : Nat) (ls : m_L) (st : List Value) (M : m_M) : Option m_N := match st with
  | .int y :: .int x :: st => if m_cats st ≤ 8 then m_go (i + 1) ls (.int (if x < y then y else x) :: st) M else none
  | _ => none
def s_copy (i : Nat) (ls : m_L) (st : List Value) (M : m_M) : Option m_N := match st with
  | .int n :: .int dp :: .ref a :: .int sp :: .ref b :: st => match M.1 b, M.1 a with
    | .inl (0, (n0, .inl f)), .inl (0, (n1, .inl g)) => if b < M.2.1 ∧ a < M.2.1 ∧ m_cats st ≤ 8 ∧ ¬ sp < 0 ∧ ¬ dp < 0 ∧ ¬ n < 0 ∧ sp.toNatClampNeg + n.toNatClampNeg ≤ n0 ∧ dp.toNatClampNeg + n.toNatClampNeg ≤ n1 then
        m_go (i + 1) ls st (m_put M a (.inl (0, (n1, .inl (va_cpy f g sp.toNatClampNeg dp.toNatClampNeg n.toNatClampNeg))))) else none
    | _, _ => none
  | _ => none
def s_slen (tx : List (List Nat)) (i : Nat) (ls : m_L) (st : List Value) (M : m_M) : Option m_N := match st with
  | .ref r :: st => if m_T0 ≤ r ∧ r < m_T0 + tx.length ∧ m_cats st ≤ 8 then m_go (i + 1) ls (.int (nI (tx.getD (r - m_T0) []).length) :: st) M else none
  | _ => none
def s_char (tx : List (List Nat)) (i : Nat) (ls : m_L) (st : List Value) (M : m_M) : Option m_N := match st with
  | .int j :: .ref r :: st => if m_T0 ≤ r ∧ r < m_T0 + tx.length ∧ m_cats st ≤ 8 ∧ m_in j (tx.getD (r - m_T0) []).length = true then m_go (i + 1) ls (.int (nI ((tx.getD (r - m_T0) []).getD j.toNatClampNeg 0)) :: st) M else none
  | _ => none
def s_ldc (k i : Nat) (ls : m_L) (st : List Value) (M : m_M) : Option m_N := m_go (i + 1) ls (.ref (m_T0 + k) :: st) M
def s_throw (e : Nat) (st : List Value) (M : m_M) : Option m_N := if m_cats st ≤ 8 then some (.inr (.inr e, (M.1, (M.2.1, (M.2.2.1 + 1, M.2.2.2 + 6))))) else none
/-- a new object: its class, how many fields, what they hold at first -/
def s_new (ci : Nat) (fs : List Value) (i : Nat) (ls : m_L) (st : List Value) (M : m_M) : Option m_N :=
  if M.2.2.1 = M.2.1 ∧ M.2.1 < 900000 then m_go (i + 1) ls (.ref M.2.1 :: st) (m_add M (.inr (ci, fs)) fs.length) else none
def m_zero (t n : Nat) : m_C := match t with
  | 0 => .inl (0, (n, .inl (fun _ => 0)))
  | 1 => .inl (1, (n, .inl (fun _ => 0)))
  | 2 => .inl (2, (n, .inr (.inl (fun _ => 0))))
  | t => .inl (t, (n, .inr (.inr (.inr (.inr (fun _ => none))))))
def s_newa (t i : Nat) (ls : m_L) (st : List Value) (M : m_M) : Option m_N := match st with
  | .int n :: st => if M.2.2.1 = M.2.1 ∧ M.2.1 < 900000 ∧ t < 9 ∧ ¬ n < 0 ∧ n.toNatClampNeg ≤ 100000 then m_go (i + 1) ls (.ref M.2.1 :: st) (m_add M (m_zero t n.toNatClampNeg) n.toNatClampNeg) else none
  | _ => none
def m_rows (t k : Nat) (M : m_M) : Nat → m_M
  | 0 => M
  | n + 1 => m_add (m_rows t k M n) (m_zero t k) k
/-- rows of kind t, in an outer array of kind t + 3 -/
def s_newg (t i : Nat) (ls : m_L) (st : List Value) (M : m_M) : Option m_N := match st with
  | .int k :: .int n :: st => if M.2.2.1 = M.2.1 ∧ M.2.1 < 900000 ∧ t < 2 ∧ ¬ n < 0 ∧ ¬ k < 0 ∧ n.toNatClampNeg ≤ 1000 ∧ k.toNatClampNeg ≤ 1000 then
      m_go (i + 1) ls (.ref M.2.1 :: st) (m_rows t k.toNatClampNeg (m_add M (.inl (t + 3, (n.toNatClampNeg, .inr (.inr (.inr (.inr (fun j => if j < n.toNatClampNeg then some (M.2.1 + 1 + j) else none))))))) n.toNatClampNeg) n.toNatClampNeg) else none
  | _ => none
def s_pop (i : Nat) (ls : m_L) (st : List Value) (M : m_M) : Option m_N := match st with
  | .ref _ :: st => if m_cats st ≤ 8 then m_go (i + 1) ls st M else none
  | _ => none
/-- what an object of a class holds at first: 0 an int, 1 a reference -/
def m_born (l : List Nat) : List Value := l.map fun k => if k = 0 then .int 0 else .null
/-- one instruction (o, (a, (b, (n, l)))) of a method with handlers hs, at place i, byte pc, with d frames left -/
def m_sem (X : m_X) (tx : List (List Nat)) (bn : List (List Nat)) (hs : List (Nat × (Nat × (Nat × Int32)))) (d : Nat) (cb : m_B) (pc i : Nat) (I : m_I) (ls : m_L) (st : List Value) (M : m_M) : Option m_N :=
  match I with
  | (o, (a, (b, (n, l)))) => match o with
    | 0 => s_const n i ls st M
    | 1 => s_iload a i ls st M
    | 2 => s_aload a i ls st M
    | 3 => s_istore a i ls st M
    | 4 => s_astore a i ls st M
    | 5 => s_iinc a n i ls st M
    | 6 => s_getf a b i ls st M
    | 7 => s_putf a b n.toNatClampNeg i ls st M
    | 8 => s_iald X i ls st M
    | 9 => s_iast i ls st M
    | 10 => s_bald i ls st M
    | 11 => s_bast i ls st M
    | 12 => s_aald i ls st M
    | 13 => s_aast i ls st M
    | 14 => s_lald i ls st M
    | 15 => s_last i ls st M
    | 16 => s_alen X i ls st M
    | 17 => s_bin a i ls st M
    | 18 => s_if a b i ls st M
    | 19 => s_cmp a b i ls st M
    | 20 => m_go b ls st M
    | 21 => s_switch b l ls st M
    | 22 => s_dup i ls st M
    | 23 => s_dup2 i ls st M
    | 24 => s_i2l i ls st M
    | 25 => s_lconst a i ls st M
    | 26 => s_lcmp i ls st M
    | 27 => s_iret a st M
    | 28 => s_aret st M
    | 29 => s_ret st M
    | 30 => s_call hs cb pc a b n.toNatClampNeg i ls st M
    | 31 => if 12 ≤ d then s_min i ls st M else none
    | 32 => if 12 ≤ d then s_max i ls st M else none
    | 33 => if 12 ≤ d then s_copy i ls st M else none
    | 34 => if 12 ≤ d then s_slen tx i ls st M else none
    | 35 => if 12 ≤ d then s_char tx i ls st M else none
    | 36 => if 12 ≤ d then s_throw a st M else none
    | 37 => s_new a (m_born (bn.getD a [])) i ls st M
    | 38 => s_newa a i ls st M
    | 39 => s_newg a i ls st M
    | 40 => if 12 ≤ d then s_pop i ls st M else none
    | 41 => s_ldc a i ls st M
    | _ => none
/-- a method: its instructions with their bytes' places; its handlers; how many locals -/
abbrev m_Md : Type := List (Nat × m_I) × (List (Nat × (Nat × (Nat × Int32))) × Nat)
abbrev m_P : Type := m_X × (List (List Nat) × (List (List Nat) × (Nat → m_Md)))
def m_lin (nL : Nat) (As : List Value) : m_L := As.map some ++ List.replicate (nL - As.length) none
def m_run (P : m_P) : Nat → Nat → Nat → Nat → m_L → List Value → m_M → Option m_R
  | 0, _, _, _, _, _, _ => none
  | n + 1, d, m, i, ls, st, M => match (P.2.2.2 m).1[i]? with
    | none => none
    | some q => match m_sem P.1 P.2.1 P.2.2.1 (P.2.2.2 m).2.1 d (fun y As M => match d with
        | 0 => none
        | d + 1 => if As.length ≤ (P.2.2.2 y).2.2 then m_run P n d y 0 (m_lin (P.2.2.2 y).2.2 As) [] M else none) q.1 i q.2 ls st M with
      | none => none
      | some (.inl (i1, (ls1, (st1, M1)))) => m_run P n d m i1 ls1 st1 M1
      | some (.inr r) => some r
end
section
/-! THE CODE of the class, the reference and the law as lists of our instructions, written by a program (wip/whole/gen_04.py) out of the printed decode rows and the tables' words. A method's number is its place in m_all. -/
set_option maxRecDepth 100000 in
noncomputable def m_X0_init : m_Md := ([(0, (2, (0, (0, (0, []))))), (1, (40, (0, (0, (0, [(0, 3)]))))), (4, (2, (0, (0, (0, []))))), (5, (0, (0, (0, (13, []))))), (7, (38, (6, (0, (0, [(0, 9)]))))), (10, (7, (0, (0, (2, [(0, 11)]))))), (13, (2, (0, (0, (0, []))))), (14, (0, (0, (0, (1, []))))), (15, (7, (0, (1, (0, [(0, 17)]))))), (18, (2, (0, (0, (0, []))))), (19, (0, (0, (0, (100, []))))), (21, (7, (0, (2, (0, [(0, 21)]))))), (24, (2, (0, (0, (0, []))))), (25, (0, (0, (0, ((-1), []))))), (26, (7, (0, (3, (0, [(0, 24)]))))), (29, (2, (0, (0, (0, []))))), (30, (0, (0, (0, ((-1), []))))), (31, (7, (0, (5, (0, [(0, 27)]))))), (34, (2, (0, (0, (0, []))))), (35, (0, (0, (0, (8, []))))), (37, (38, (7, (0, (0, [(0, 30)]))))), (40, (7, (0, (6, (2, [(0, 32)]))))), (43, (2, (0, (0, (0, []))))), (44, (37, (2, (0, (0, [(0, 36)]))))), (47, (22, (0, (0, (0, []))))), (48, (30, (16, (1, (0, [(5, 38)]))))), (51, (7, (0, (8, (2, [(0, 39)]))))), (54, (0, (0, (0, (0, []))))), (55, (3, (1, (0, (0, []))))), (56, (1, (1, (0, (0, []))))), (57, (0, (0, (0, (13, []))))), (59, (19, (3, (41, (0, []))))), (62, (2, (0, (0, (0, []))))), (63, (6, (0, (0, (0, [(0, 11)]))))), (66, (1, (1, (0, (0, []))))), (67, (37, (3, (0, (0, [(0, 9)]))))), (70, (22, (0, (0, (0, []))))), (71, (30, (22, (1, (0, [(2, 43)]))))), (74, (13, (0, (0, (0, []))))), (75, (5, (1, (0, (1, []))))), (78, (20, (0, (29, (0, []))))), (81, (0, (0, (0, (0, []))))), (82, (3, (1, (0, (0, []))))), (83, (1, (1, (0, (0, []))))), (84, (0, (0, (0, (8, []))))), (86, (19, (3, (55, (0, []))))), (89, (2, (0, (0, (0, []))))), (90, (6, (0, (6, (0, [(0, 32)]))))), (93, (1, (1, (0, (0, []))))), (94, (37, (6, (0, (0, [(0, 30)]))))), (97, (22, (0, (0, (0, []))))), (98, (30, (75, (1, (0, [(5, 44)]))))), (101, (13, (0, (0, (0, []))))), (102, (5, (1, (0, (1, []))))), (105, (20, (0, (43, (0, []))))), (108, (29, (0, (0, (0, [])))))], ([], 2))
set_option maxRecDepth 100000 in
noncomputable def m_X0_setTo : m_Md := ([(0, (0, (0, (0, (0, []))))), (1, (3, (2, (0, (0, []))))), (2, (1, (2, (0, (0, []))))), (3, (2, (1, (0, (0, []))))), (4, (6, (0, (1, (0, [(0, 17)]))))), (7, (19, (3, (17, (0, []))))), (10, (2, (0, (0, (0, []))))), (11, (6, (0, (0, (0, [(0, 11)]))))), (14, (1, (2, (0, (0, []))))), (15, (12, (0, (0, (0, []))))), (16, (2, (1, (0, (0, []))))), (17, (6, (0, (0, (0, [(0, 11)]))))), (20, (1, (2, (0, (0, []))))), (21, (12, (0, (0, (0, []))))), (22, (30, (24, (2, (4, [(0, 45)]))))), (25, (5, (2, (0, (1, []))))), (28, (20, (0, (2, (0, []))))), (31, (0, (0, (0, (0, []))))), (32, (3, (2, (0, (0, []))))), (33, (1, (2, (0, (0, []))))), (34, (2, (1, (0, (0, []))))), (35, (6, (0, (7, (0, [(0, 49)]))))), (38, (19, (3, (34, (0, []))))), (41, (2, (0, (0, (0, []))))), (42, (6, (0, (6, (0, [(0, 32)]))))), (45, (1, (2, (0, (0, []))))), (46, (12, (0, (0, (0, []))))), (47, (2, (1, (0, (0, []))))), (48, (6, (0, (6, (0, [(0, 32)]))))), (51, (1, (2, (0, (0, []))))), (52, (12, (0, (0, (0, []))))), (53, (30, (76, (2, (7, [(0, 52)]))))), (56, (5, (2, (0, (1, []))))), (59, (20, (0, (19, (0, []))))), (62, (2, (0, (0, (0, []))))), (63, (6, (0, (8, (0, [(0, 39)]))))), (66, (2, (1, (0, (0, []))))), (67, (6, (0, (8, (0, [(0, 39)]))))), (70, (30, (17, (2, (3, [(0, 55)]))))), (73, (2, (0, (0, (0, []))))), (74, (2, (1, (0, (0, []))))), (75, (6, (0, (1, (0, [(0, 17)]))))), (78, (7, (0, (1, (0, [(0, 17)]))))), (81, (2, (0, (0, (0, []))))), (82, (2, (1, (0, (0, []))))), (83, (6, (0, (2, (0, [(0, 21)]))))), (86, (7, (0, (2, (0, [(0, 21)]))))), (89, (2, (0, (0, (0, []))))), (90, (2, (1, (0, (0, []))))), (91, (6, (0, (3, (0, [(0, 24)]))))), (94, (7, (0, (3, (0, [(0, 24)]))))), (97, (2, (0, (0, (0, []))))), (98, (2, (1, (0, (0, []))))), (99, (6, (0, (4, (0, [(0, 58)]))))), (102, (7, (0, (4, (0, [(0, 58)]))))), (105, (2, (0, (0, (0, []))))), (106, (2, (1, (0, (0, []))))), (107, (6, (0, (5, (0, [(0, 27)]))))), (110, (7, (0, (5, (0, [(0, 27)]))))), (113, (2, (0, (0, (0, []))))), (114, (2, (1, (0, (0, []))))), (115, (6, (0, (7, (0, [(0, 49)]))))), (118, (7, (0, (7, (0, [(0, 49)]))))), (121, (29, (0, (0, (0, [])))))], ([], 3))
set_option maxRecDepth 100000 in
noncomputable def m_X0_latestHolder : m_Md := ([(0, (2, (0, (0, (0, []))))), (1, (6, (0, (3, (0, [(0, 24)]))))), (4, (0, (0, (0, ((-1), []))))), (5, (19, (1, (6, (0, []))))), (8, (0, (0, (0, ((-1), []))))), (9, (27, (0, (0, (0, []))))), (10, (0, (0, (0, (0, []))))), (11, (3, (1, (0, (0, []))))), (12, (0, (0, (0, (1, []))))), (13, (3, (2, (0, (0, []))))), (14, (1, (2, (0, (0, []))))), (15, (2, (0, (0, (0, []))))), (16, (6, (0, (1, (0, [(0, 17)]))))), (19, (19, (3, (26, (0, []))))), (22, (2, (0, (0, (0, []))))), (23, (6, (0, (0, (0, [(0, 11)]))))), (26, (1, (2, (0, (0, []))))), (27, (12, (0, (0, (0, []))))), (28, (6, (3, (1, (0, [(0, 61)]))))), (31, (2, (0, (0, (0, []))))), (32, (6, (0, (4, (0, [(0, 58)]))))), (35, (19, (4, (24, (0, []))))), (38, (1, (2, (0, (0, []))))), (39, (3, (1, (0, (0, []))))), (40, (5, (2, (0, (1, []))))), (43, (20, (0, (10, (0, []))))), (46, (1, (1, (0, (0, []))))), (47, (27, (0, (0, (0, [])))))], ([], 3))
set_option maxRecDepth 100000 in
noncomputable def m_X0_hasPassed : m_Md := ([(0, (1, (1, (0, (0, []))))), (1, (1, (2, (0, (0, []))))), (2, (19, (3, (11, (0, []))))), (5, (2, (0, (0, (0, []))))), (6, (6, (0, (0, (0, [(0, 11)]))))), (9, (1, (1, (0, (0, []))))), (10, (12, (0, (0, (0, []))))), (11, (6, (3, (4, (0, [(0, 64)]))))), (14, (18, (1, (11, (0, []))))), (17, (0, (0, (0, (1, []))))), (18, (20, (0, (12, (0, []))))), (21, (0, (0, (0, (0, []))))), (22, (27, (1, (0, (0, [])))))], ([], 3))
set_option maxRecDepth 100000 in
noncomputable def m_X0_nameHand : m_Md := ([(0, (2, (0, (0, (0, []))))), (1, (6, (0, (0, (0, [(0, 11)]))))), (4, (1, (1, (0, (0, []))))), (5, (12, (0, (0, (0, []))))), (6, (4, (5, (0, (0, []))))), (8, (0, (0, (0, (0, []))))), (9, (3, (6, (0, (0, []))))), (11, (1, (6, (0, (0, []))))), (13, (0, (0, (0, (3, []))))), (14, (19, (3, (22, (0, []))))), (17, (2, (4, (0, (0, []))))), (19, (1, (6, (0, (0, []))))), (21, (2, (5, (0, (0, []))))), (23, (1, (6, (0, (0, []))))), (25, (30, (26, (2, (4, [(0, 67)]))))), (28, (18, (0, (18, (0, []))))), (31, (0, (0, (0, (1, []))))), (32, (20, (0, (19, (0, []))))), (35, (0, (0, (0, (0, []))))), (36, (9, (0, (0, (0, []))))), (37, (5, (6, (0, (1, []))))), (40, (20, (0, (7, (0, []))))), (43, (2, (4, (0, (0, []))))), (45, (0, (0, (0, (3, []))))), (46, (2, (0, (0, (0, []))))), (47, (6, (0, (4, (0, [(0, 58)]))))), (50, (2, (5, (0, (0, []))))), (52, (6, (3, (2, (0, [(0, 71)]))))), (55, (19, (5, (31, (0, []))))), (58, (0, (0, (0, (1, []))))), (59, (20, (0, (32, (0, []))))), (62, (0, (0, (0, (0, []))))), (63, (9, (0, (0, (0, []))))), (64, (2, (4, (0, (0, []))))), (66, (0, (0, (0, (4, []))))), (67, (2, (0, (0, (0, []))))), (68, (1, (1, (0, (0, []))))), (69, (1, (2, (0, (0, []))))), (70, (30, (3, (3, (1, [(0, 74)]))))), (73, (18, (0, (42, (0, []))))), (76, (0, (0, (0, (1, []))))), (77, (20, (0, (43, (0, []))))), (80, (0, (0, (0, (0, []))))), (81, (9, (0, (0, (0, []))))), (82, (2, (4, (0, (0, []))))), (84, (0, (0, (0, (5, []))))), (85, (2, (3, (0, (0, []))))), (86, (2, (5, (0, (0, []))))), (88, (6, (3, (0, (0, [(0, 78)]))))), (91, (2, (5, (0, (0, []))))), (93, (6, (3, (3, (0, [(0, 81)]))))), (96, (30, (37, (3, (5, [(0, 84)]))))), (99, (18, (0, (56, (0, []))))), (102, (2, (5, (0, (0, []))))), (104, (6, (3, (3, (0, [(0, 81)]))))), (107, (20, (0, (57, (0, []))))), (110, (0, (0, (0, (0, []))))), (111, (9, (0, (0, (0, []))))), (112, (2, (4, (0, (0, []))))), (114, (0, (0, (0, (6, []))))), (116, (2, (0, (0, (0, []))))), (117, (6, (0, (2, (0, [(0, 21)]))))), (120, (9, (0, (0, (0, []))))), (121, (2, (4, (0, (0, []))))), (123, (0, (0, (0, (7, []))))), (125, (2, (0, (0, (0, []))))), (126, (6, (0, (4, (0, [(0, 58)]))))), (129, (2, (5, (0, (0, []))))), (131, (6, (3, (1, (0, [(0, 61)]))))), (134, (17, (1, (0, (0, []))))), (135, (9, (0, (0, (0, []))))), (136, (29, (0, (0, (0, [])))))], ([], 7))
set_option maxRecDepth 100000 in
noncomputable def m_X0_ask : m_Md := ([(0, (2, (0, (0, (0, []))))), (1, (6, (0, (7, (0, [(0, 49)]))))), (4, (0, (0, (0, (8, []))))), (6, (19, (2, (6, (0, []))))), (9, (0, (0, (0, ((-1), []))))), (10, (27, (0, (0, (0, []))))), (11, (2, (0, (0, (0, []))))), (12, (6, (0, (6, (0, [(0, 32)]))))), (15, (2, (0, (0, (0, []))))), (16, (6, (0, (7, (0, [(0, 49)]))))), (19, (12, (0, (0, (0, []))))), (20, (4, (4, (0, (0, []))))), (22, (2, (4, (0, (0, []))))), (24, (1, (1, (0, (0, []))))), (25, (7, (6, (0, (0, [(0, 89)]))))), (28, (2, (4, (0, (0, []))))), (30, (1, (2, (0, (0, []))))), (31, (7, (6, (1, (0, [(0, 92)]))))), (34, (2, (4, (0, (0, []))))), (36, (1, (3, (0, (0, []))))), (37, (7, (6, (2, (0, [(0, 95)]))))), (40, (2, (0, (0, (0, []))))), (41, (22, (0, (0, (0, []))))), (42, (6, (0, (7, (0, [(0, 49)]))))), (45, (0, (0, (0, (1, []))))), (46, (17, (0, (0, (0, []))))), (47, (7, (0, (7, (0, [(0, 49)]))))), (50, (2, (0, (0, (0, []))))), (51, (6, (0, (7, (0, [(0, 49)]))))), (54, (0, (0, (0, (1, []))))), (55, (17, (1, (0, (0, []))))), (56, (27, (0, (0, (0, [])))))], ([], 5))
set_option maxRecDepth 100000 in
noncomputable def m_X0_dropQuestion : m_Md := ([(0, (2, (0, (0, (0, []))))), (1, (22, (0, (0, (0, []))))), (2, (6, (0, (7, (0, [(0, 49)]))))), (5, (0, (0, (0, (1, []))))), (6, (17, (1, (0, (0, []))))), (7, (7, (0, (7, (0, [(0, 49)]))))), (10, (1, (1, (0, (0, []))))), (11, (3, (2, (0, (0, []))))), (12, (1, (2, (0, (0, []))))), (13, (2, (0, (0, (0, []))))), (14, (6, (0, (7, (0, [(0, 49)]))))), (17, (19, (3, (25, (0, []))))), (20, (2, (0, (0, (0, []))))), (21, (6, (0, (6, (0, [(0, 32)]))))), (24, (1, (2, (0, (0, []))))), (25, (12, (0, (0, (0, []))))), (26, (2, (0, (0, (0, []))))), (27, (6, (0, (6, (0, [(0, 32)]))))), (30, (1, (2, (0, (0, []))))), (31, (0, (0, (0, (1, []))))), (32, (17, (0, (0, (0, []))))), (33, (12, (0, (0, (0, []))))), (34, (30, (76, (2, (7, [(0, 52)]))))), (37, (5, (2, (0, (1, []))))), (40, (20, (0, (8, (0, []))))), (43, (29, (0, (0, (0, [])))))], ([], 3))
set_option maxRecDepth 100000 in
noncomputable def m_X0_suppose : m_Md := ([(0, (0, (0, (0, (0, []))))), (1, (3, (3, (0, (0, []))))), (2, (1, (3, (0, (0, []))))), (3, (2, (0, (0, (0, []))))), (4, (6, (0, (7, (0, [(0, 49)]))))), (7, (19, (3, (25, (0, []))))), (10, (2, (0, (0, (0, []))))), (11, (2, (0, (0, (0, []))))), (12, (6, (0, (6, (0, [(0, 32)]))))), (15, (1, (3, (0, (0, []))))), (16, (12, (0, (0, (0, []))))), (17, (1, (2, (0, (0, []))))), (18, (1, (3, (0, (0, []))))), (19, (17, (6, (0, (0, []))))), (20, (0, (0, (0, (1, []))))), (21, (17, (7, (0, (0, []))))), (22, (0, (0, (0, (1, []))))), (23, (19, (1, (20, (0, []))))), (26, (0, (0, (0, (1, []))))), (27, (20, (0, (21, (0, []))))), (30, (0, (0, (0, (0, []))))), (31, (2, (1, (0, (0, []))))), (32, (30, (8, (4, (1, [(0, 98)]))))), (35, (5, (3, (0, (1, []))))), (38, (20, (0, (2, (0, []))))), (41, (29, (0, (0, (0, [])))))], ([], 4))
set_option maxRecDepth 100000 in
noncomputable def m_X0_tell : m_Md := ([(0, (2, (1, (0, (0, []))))), (1, (6, (6, (0, (0, [(0, 89)]))))), (4, (0, (0, (0, (4, []))))), (5, (19, (1, (14, (0, []))))), (8, (2, (0, (0, (0, []))))), (9, (1, (2, (0, (0, []))))), (10, (18, (0, (10, (0, []))))), (13, (2, (1, (0, (0, []))))), (14, (6, (6, (2, (0, [(0, 95)]))))), (17, (20, (0, (12, (0, []))))), (20, (2, (3, (0, (0, []))))), (21, (6, (0, (3, (0, [(0, 24)]))))), (24, (7, (0, (3, (0, [(0, 24)]))))), (27, (20, (0, (42, (0, []))))), (30, (2, (1, (0, (0, []))))), (31, (6, (6, (0, (0, [(0, 89)]))))), (34, (0, (0, (0, (5, []))))), (35, (19, (1, (28, (0, []))))), (38, (2, (0, (0, (0, []))))), (39, (1, (2, (0, (0, []))))), (40, (18, (0, (24, (0, []))))), (43, (2, (1, (0, (0, []))))), (44, (6, (6, (2, (0, [(0, 95)]))))), (47, (20, (0, (26, (0, []))))), (50, (2, (3, (0, (0, []))))), (51, (6, (0, (4, (0, [(0, 58)]))))), (54, (7, (0, (4, (0, [(0, 58)]))))), (57, (20, (0, (42, (0, []))))), (60, (2, (1, (0, (0, []))))), (61, (6, (6, (1, (0, [(0, 92)]))))), (64, (0, (0, (0, (12, []))))), (66, (30, (118, (2, (0, [(4, 102)]))))), (69, (18, (0, (42, (0, []))))), (72, (2, (0, (0, (0, []))))), (73, (6, (0, (0, (0, [(0, 11)]))))), (76, (2, (1, (0, (0, []))))), (77, (6, (6, (1, (0, [(0, 92)]))))), (80, (12, (0, (0, (0, []))))), (81, (2, (1, (0, (0, []))))), (82, (6, (6, (0, (0, [(0, 89)]))))), (85, (1, (2, (0, (0, []))))), (86, (30, (27, (3, (4, [(0, 105)]))))), (89, (29, (0, (0, (0, [])))))], ([], 4))
set_option maxRecDepth 100000 in
noncomputable def m_X1_init : m_Md := ([(0, (2, (0, (0, (0, []))))), (1, (40, (0, (0, (0, [(0, 3)]))))), (4, (2, (0, (0, (0, []))))), (5, (0, (0, (0, (13, []))))), (7, (38, (0, (0, (0, []))))), (9, (7, (1, (0, (2, [(0, 9)]))))), (12, (2, (0, (0, (0, []))))), (13, (0, (0, (0, (13, []))))), (15, (38, (0, (0, (0, []))))), (17, (7, (1, (1, (2, [(0, 15)]))))), (20, (2, (0, (0, (0, []))))), (21, (0, (0, (0, (13, []))))), (23, (38, (0, (0, (0, []))))), (25, (7, (1, (2, (2, [(0, 18)]))))), (28, (2, (0, (0, (0, []))))), (29, (0, (0, (0, (13, []))))), (31, (38, (0, (0, (0, []))))), (33, (7, (1, (3, (2, [(0, 21)]))))), (36, (2, (0, (0, (0, []))))), (37, (0, (0, (0, (13, []))))), (39, (38, (1, (0, (0, []))))), (41, (7, (1, (4, (2, [(0, 24)]))))), (44, (2, (0, (0, (0, []))))), (45, (0, (0, (0, (13, []))))), (47, (38, (0, (0, (0, []))))), (49, (7, (1, (5, (2, [(0, 28)]))))), (52, (2, (0, (0, (0, []))))), (53, (0, (0, (0, (8, []))))), (55, (38, (0, (0, (0, []))))), (57, (7, (1, (6, (2, [(0, 31)]))))), (60, (29, (0, (0, (0, [])))))], ([], 1))
set_option maxRecDepth 100000 in
noncomputable def m_X1_reckon : m_Md := ([(0, (2, (0, (0, (0, []))))), (1, (30, (11, (1, (2, [(0, 34)]))))), (4, (2, (0, (0, (0, []))))), (5, (2, (1, (0, (0, []))))), (6, (30, (2, (1, (1, [(0, 37)]))))), (9, (7, (1, (7, (0, [(0, 43)]))))), (12, (2, (0, (0, (0, []))))), (13, (6, (1, (7, (0, [(0, 43)]))))), (16, (0, (0, (0, ((-1), []))))), (17, (19, (1, (11, (0, []))))), (20, (29, (0, (0, (0, []))))), (21, (0, (0, (0, (1, []))))), (22, (3, (3, (0, (0, []))))), (23, (1, (3, (0, (0, []))))), (24, (2, (0, (0, (0, []))))), (25, (6, (1, (7, (0, [(0, 43)]))))), (28, (19, (4, (24, (0, []))))), (31, (2, (0, (0, (0, []))))), (32, (1, (3, (0, (0, []))))), (33, (2, (1, (0, (0, []))))), (34, (2, (2, (0, (0, []))))), (35, (30, (12, (4, (2, [(0, 47)]))))), (38, (5, (3, (0, (1, []))))), (41, (20, (0, (13, (0, []))))), (44, (2, (0, (0, (0, []))))), (45, (2, (1, (0, (0, []))))), (46, (30, (13, (2, (2, [(0, 51)]))))), (49, (2, (0, (0, (0, []))))), (50, (2, (1, (0, (0, []))))), (51, (6, (0, (2, (0, [(0, 55)]))))), (54, (30, (14, (2, (2, [(0, 58)]))))), (57, (2, (0, (0, (0, []))))), (58, (6, (1, (3, (0, [(0, 21)]))))), (61, (0, (0, (0, (0, []))))), (62, (2, (1, (0, (0, []))))), (63, (6, (0, (2, (0, [(0, 55)]))))), (66, (2, (0, (0, (0, []))))), (67, (6, (1, (5, (0, [(0, 28)]))))), (70, (0, (0, (0, (0, []))))), (71, (8, (0, (0, (0, []))))), (72, (17, (1, (0, (0, []))))), (73, (9, (0, (0, (0, []))))), (74, (0, (0, (0, (1, []))))), (75, (3, (3, (0, (0, []))))), (76, (1, (3, (0, (0, []))))), (77, (2, (0, (0, (0, []))))), (78, (6, (1, (7, (0, [(0, 43)]))))), (81, (19, (4, (63, (0, []))))), (84, (2, (0, (0, (0, []))))), (85, (6, (1, (3, (0, [(0, 21)]))))), (88, (1, (3, (0, (0, []))))), (89, (2, (0, (0, (0, []))))), (90, (6, (1, (2, (0, [(0, 18)]))))), (93, (1, (3, (0, (0, []))))), (94, (8, (0, (0, (0, []))))), (95, (2, (0, (0, (0, []))))), (96, (6, (1, (5, (0, [(0, 28)]))))), (99, (1, (3, (0, (0, []))))), (100, (8, (0, (0, (0, []))))), (101, (17, (1, (0, (0, []))))), (102, (9, (0, (0, (0, []))))), (103, (5, (3, (0, (1, []))))), (106, (20, (0, (44, (0, []))))), (109, (29, (0, (0, (0, [])))))], ([], 4))
set_option maxRecDepth 100000 in
noncomputable def m_X1_clear : m_Md := ([(0, (0, (0, (0, (0, []))))), (1, (3, (1, (0, (0, []))))), (2, (1, (1, (0, (0, []))))), (3, (0, (0, (0, (13, []))))), (5, (19, (3, (37, (0, []))))), (8, (2, (0, (0, (0, []))))), (9, (6, (1, (0, (0, [(0, 9)]))))), (12, (1, (1, (0, (0, []))))), (13, (0, (0, (0, (0, []))))), (14, (9, (0, (0, (0, []))))), (15, (2, (0, (0, (0, []))))), (16, (6, (1, (1, (0, [(0, 15)]))))), (19, (1, (1, (0, (0, []))))), (20, (0, (0, (0, ((-1), []))))), (21, (9, (0, (0, (0, []))))), (22, (2, (0, (0, (0, []))))), (23, (6, (1, (2, (0, [(0, 18)]))))), (26, (1, (1, (0, (0, []))))), (27, (0, (0, (0, (0, []))))), (28, (9, (0, (0, (0, []))))), (29, (2, (0, (0, (0, []))))), (30, (6, (1, (3, (0, [(0, 21)]))))), (33, (1, (1, (0, (0, []))))), (34, (0, (0, (0, (0, []))))), (35, (9, (0, (0, (0, []))))), (36, (2, (0, (0, (0, []))))), (37, (6, (1, (5, (0, [(0, 28)]))))), (40, (1, (1, (0, (0, []))))), (41, (0, (0, (0, (0, []))))), (42, (9, (0, (0, (0, []))))), (43, (2, (0, (0, (0, []))))), (44, (6, (1, (4, (0, [(0, 24)]))))), (47, (1, (1, (0, (0, []))))), (48, (0, (0, (0, (0, []))))), (49, (11, (0, (0, (0, []))))), (50, (5, (1, (0, (1, []))))), (53, (20, (0, (2, (0, []))))), (56, (29, (0, (0, (0, [])))))], ([], 2))
set_option maxRecDepth 100000 in
noncomputable def m_X1_claimOn : m_Md := ([(0, (2, (2, (0, (0, []))))), (1, (6, (0, (0, (0, [(0, 62)]))))), (4, (1, (1, (0, (0, []))))), (5, (12, (0, (0, (0, []))))), (6, (4, (4, (0, (0, []))))), (8, (2, (2, (0, (0, []))))), (9, (1, (1, (0, (0, []))))), (10, (2, (0, (0, (0, []))))), (11, (6, (1, (7, (0, [(0, 43)]))))), (14, (2, (3, (0, (0, []))))), (15, (2, (0, (0, (0, []))))), (16, (6, (1, (6, (0, [(0, 31)]))))), (19, (30, (4, (5, (1, [(0, 66)]))))), (22, (2, (3, (0, (0, []))))), (23, (0, (0, (0, (0, []))))), (24, (2, (4, (0, (0, []))))), (26, (6, (3, (0, (0, [(0, 72)]))))), (29, (2, (2, (0, (0, []))))), (30, (6, (0, (3, (0, [(0, 77)]))))), (33, (2, (0, (0, (0, []))))), (34, (6, (1, (6, (0, [(0, 31)]))))), (37, (30, (34, (5, (5, [(0, 80)]))))), (40, (3, (5, (0, (0, []))))), (42, (2, (0, (0, (0, []))))), (43, (6, (1, (4, (0, [(0, 24)]))))), (46, (1, (1, (0, (0, []))))), (47, (1, (5, (0, (0, []))))), (49, (18, (1, (44, (0, []))))), (52, (2, (4, (0, (0, []))))), (54, (0, (0, (0, (3, []))))), (55, (30, (26, (2, (4, [(0, 84)]))))), (58, (18, (1, (44, (0, []))))), (61, (2, (3, (0, (0, []))))), (62, (0, (0, (0, (1, []))))), (63, (2, (4, (0, (0, []))))), (65, (6, (3, (0, (0, [(0, 72)]))))), (68, (2, (2, (0, (0, []))))), (69, (6, (0, (3, (0, [(0, 77)]))))), (72, (2, (0, (0, (0, []))))), (73, (6, (1, (6, (0, [(0, 31)]))))), (76, (30, (34, (5, (5, [(0, 80)]))))), (79, (18, (0, (44, (0, []))))), (82, (0, (0, (0, (1, []))))), (83, (20, (0, (45, (0, []))))), (86, (0, (0, (0, (0, []))))), (87, (11, (0, (0, (0, []))))), (88, (2, (0, (0, (0, []))))), (89, (6, (1, (0, (0, [(0, 9)]))))), (92, (1, (1, (0, (0, []))))), (93, (1, (5, (0, (0, []))))), (95, (18, (1, (56, (0, []))))), (98, (2, (0, (0, (0, []))))), (99, (6, (1, (4, (0, [(0, 24)]))))), (102, (1, (1, (0, (0, []))))), (103, (10, (0, (0, (0, []))))), (104, (18, (0, (63, (0, []))))), (107, (2, (3, (0, (0, []))))), (108, (2, (4, (0, (0, []))))), (110, (6, (3, (0, (0, [(0, 72)]))))), (113, (2, (0, (0, (0, []))))), (114, (6, (1, (6, (0, [(0, 31)]))))), (117, (30, (35, (3, (5, [(0, 88)]))))), (120, (20, (0, (64, (0, []))))), (123, (0, (0, (0, (0, []))))), (124, (9, (0, (0, (0, []))))), (125, (2, (0, (0, (0, []))))), (126, (6, (1, (1, (0, [(0, 15)]))))), (129, (1, (1, (0, (0, []))))), (130, (2, (2, (0, (0, []))))), (131, (1, (1, (0, (0, []))))), (132, (0, (0, (0, (1, []))))), (133, (17, (1, (0, (0, []))))), (134, (2, (0, (0, (0, []))))), (135, (6, (1, (7, (0, [(0, 43)]))))), (138, (30, (3, (3, (1, [(0, 92)]))))), (141, (18, (0, (78, (0, []))))), (144, (0, (0, (0, (0, []))))), (145, (20, (0, (81, (0, []))))), (148, (1, (1, (0, (0, []))))), (149, (0, (0, (0, (1, []))))), (150, (17, (1, (0, (0, []))))), (151, (9, (0, (0, (0, []))))), (152, (29, (0, (0, (0, [])))))], ([], 6))
set_option maxRecDepth 100000 in
noncomputable def m_X1_payUp : m_Md := ([(0, (2, (0, (0, (0, []))))), (1, (6, (1, (7, (0, [(0, 43)]))))), (4, (3, (2, (0, (0, []))))), (5, (1, (2, (0, (0, []))))), (6, (0, (0, (0, (1, []))))), (7, (19, (2, (46, (0, []))))), (10, (2, (0, (0, (0, []))))), (11, (6, (1, (2, (0, [(0, 18)]))))), (14, (1, (2, (0, (0, []))))), (15, (2, (0, (0, (0, []))))), (16, (6, (1, (0, (0, [(0, 9)]))))), (19, (1, (2, (0, (0, []))))), (20, (8, (0, (0, (0, []))))), (21, (2, (1, (0, (0, []))))), (22, (6, (0, (0, (0, [(0, 62)]))))), (25, (1, (2, (0, (0, []))))), (26, (12, (0, (0, (0, []))))), (27, (6, (3, (5, (0, [(0, 96)]))))), (30, (2, (0, (0, (0, []))))), (31, (6, (1, (5, (0, [(0, 28)]))))), (34, (1, (2, (0, (0, []))))), (35, (8, (0, (0, (0, []))))), (36, (17, (0, (0, (0, []))))), (37, (31, (0, (0, (0, [(0, 99)]))))), (40, (9, (0, (0, (0, []))))), (41, (2, (0, (0, (0, []))))), (42, (6, (1, (1, (0, [(0, 15)]))))), (45, (1, (2, (0, (0, []))))), (46, (8, (0, (0, (0, []))))), (47, (18, (5, (44, (0, []))))), (50, (2, (0, (0, (0, []))))), (51, (6, (1, (5, (0, [(0, 28)]))))), (54, (2, (0, (0, (0, []))))), (55, (6, (1, (1, (0, [(0, 15)]))))), (58, (1, (2, (0, (0, []))))), (59, (8, (0, (0, (0, []))))), (60, (23, (0, (0, (0, []))))), (61, (8, (0, (0, (0, []))))), (62, (2, (0, (0, (0, []))))), (63, (6, (1, (2, (0, [(0, 18)]))))), (66, (1, (2, (0, (0, []))))), (67, (8, (0, (0, (0, []))))), (68, (17, (0, (0, (0, []))))), (69, (9, (0, (0, (0, []))))), (70, (5, (2, (0, ((-1), []))))), (73, (20, (0, (3, (0, []))))), (76, (29, (0, (0, (0, [])))))], ([], 3))
set_option maxRecDepth 100000 in
noncomputable def m_X1_payOwner : m_Md := ([(0, (0, (0, (0, (1, []))))), (1, (3, (2, (0, (0, []))))), (2, (1, (2, (0, (0, []))))), (3, (2, (0, (0, (0, []))))), (4, (6, (1, (7, (0, [(0, 43)]))))), (7, (19, (4, (39, (0, []))))), (10, (2, (0, (0, (0, []))))), (11, (6, (1, (1, (0, [(0, 15)]))))), (14, (1, (2, (0, (0, []))))), (15, (8, (0, (0, (0, []))))), (16, (18, (1, (37, (0, []))))), (19, (2, (0, (0, (0, []))))), (20, (6, (1, (2, (0, [(0, 18)]))))), (23, (1, (2, (0, (0, []))))), (24, (2, (0, (0, (0, []))))), (25, (6, (1, (2, (0, [(0, 18)]))))), (28, (1, (2, (0, (0, []))))), (29, (8, (0, (0, (0, []))))), (30, (1, (1, (0, (0, []))))), (31, (2, (0, (0, (0, []))))), (32, (6, (1, (5, (0, [(0, 28)]))))), (35, (0, (0, (0, (0, []))))), (36, (8, (0, (0, (0, []))))), (37, (17, (1, (0, (0, []))))), (38, (31, (0, (0, (0, [(0, 99)]))))), (41, (9, (0, (0, (0, []))))), (42, (2, (0, (0, (0, []))))), (43, (6, (1, (5, (0, [(0, 28)]))))), (46, (0, (0, (0, (0, []))))), (47, (23, (0, (0, (0, []))))), (48, (8, (0, (0, (0, []))))), (49, (2, (0, (0, (0, []))))), (50, (6, (1, (2, (0, [(0, 18)]))))), (53, (1, (2, (0, (0, []))))), (54, (8, (0, (0, (0, []))))), (55, (17, (0, (0, (0, []))))), (56, (9, (0, (0, (0, []))))), (57, (5, (2, (0, (1, []))))), (60, (20, (0, (2, (0, []))))), (63, (29, (0, (0, (0, [])))))], ([], 3))
set_option maxRecDepth 100000 in
noncomputable def m_X1_titleFor : m_Md := ([(0, (0, (0, (0, (0, []))))), (1, (3, (2, (0, (0, []))))), (2, (0, (0, (0, (1, []))))), (3, (3, (3, (0, (0, []))))), (4, (1, (3, (0, (0, []))))), (5, (2, (0, (0, (0, []))))), (6, (6, (1, (7, (0, [(0, 43)]))))), (9, (19, (4, (44, (0, []))))), (12, (2, (0, (0, (0, []))))), (13, (6, (1, (0, (0, [(0, 9)]))))), (16, (1, (3, (0, (0, []))))), (17, (8, (0, (0, (0, []))))), (18, (18, (5, (30, (0, []))))), (21, (2, (0, (0, (0, []))))), (22, (6, (1, (0, (0, [(0, 9)]))))), (25, (1, (3, (0, (0, []))))), (26, (8, (0, (0, (0, []))))), (27, (1, (1, (0, (0, []))))), (28, (19, (2, (30, (0, []))))), (31, (2, (0, (0, (0, []))))), (32, (6, (1, (2, (0, [(0, 18)]))))), (35, (1, (3, (0, (0, []))))), (36, (8, (0, (0, (0, []))))), (37, (2, (0, (0, (0, []))))), (38, (6, (1, (0, (0, [(0, 9)]))))), (41, (1, (3, (0, (0, []))))), (42, (8, (0, (0, (0, []))))), (43, (19, (1, (30, (0, []))))), (46, (0, (0, (0, (1, []))))), (47, (20, (0, (31, (0, []))))), (50, (0, (0, (0, (0, []))))), (51, (3, (4, (0, (0, []))))), (53, (1, (4, (0, (0, []))))), (55, (18, (0, (42, (0, []))))), (58, (2, (0, (0, (0, []))))), (59, (6, (1, (1, (0, [(0, 15)]))))), (62, (1, (3, (0, (0, []))))), (63, (8, (0, (0, (0, []))))), (64, (1, (2, (0, (0, []))))), (65, (19, (1, (42, (0, []))))), (68, (1, (3, (0, (0, []))))), (69, (3, (2, (0, (0, []))))), (70, (5, (3, (0, (1, []))))), (73, (20, (0, (4, (0, []))))), (76, (1, (2, (0, (0, []))))), (77, (27, (0, (0, (0, [])))))], ([], 5))
set_option maxRecDepth 100000 in
noncomputable def m_X2_init : m_Md := ([(0, (2, (0, (0, (0, []))))), (1, (40, (0, (0, (0, [(0, 3)]))))), (4, (2, (0, (0, (0, []))))), (5, (0, (0, (0, (20, []))))), (7, (38, (0, (0, (0, []))))), (9, (7, (2, (1, (2, [(0, 9)]))))), (12, (2, (0, (0, (0, []))))), (13, (0, (0, (0, (20, []))))), (15, (38, (0, (0, (0, []))))), (17, (7, (2, (2, (2, [(0, 15)]))))), (20, (29, (0, (0, (0, [])))))], ([], 1))
set_option maxRecDepth 100000 in
noncomputable def m_X2_setTo : m_Md := ([(0, (2, (0, (0, (0, []))))), (1, (2, (1, (0, (0, []))))), (2, (6, (2, (0, (0, [(0, 18)]))))), (5, (7, (2, (0, (0, [(0, 18)]))))), (8, (2, (1, (0, (0, []))))), (9, (6, (2, (1, (0, [(0, 9)]))))), (12, (0, (0, (0, (0, []))))), (13, (2, (0, (0, (0, []))))), (14, (6, (2, (1, (0, [(0, 9)]))))), (17, (0, (0, (0, (0, []))))), (18, (0, (0, (0, (20, []))))), (20, (33, (0, (0, (0, [(0, 22)]))))), (23, (2, (1, (0, (0, []))))), (24, (6, (2, (2, (0, [(0, 15)]))))), (27, (0, (0, (0, (0, []))))), (28, (2, (0, (0, (0, []))))), (29, (6, (2, (2, (0, [(0, 15)]))))), (32, (0, (0, (0, (0, []))))), (33, (0, (0, (0, (20, []))))), (35, (33, (0, (0, (0, [(0, 22)]))))), (38, (29, (0, (0, (0, [])))))], ([], 2))
set_option maxRecDepth 100000 in
noncomputable def m_X2_add : m_Md := ([(0, (2, (0, (0, (0, []))))), (1, (6, (2, (0, (0, [(0, 18)]))))), (4, (0, (0, (0, (20, []))))), (6, (19, (2, (6, (0, []))))), (9, (0, (0, (0, (0, []))))), (10, (27, (1, (0, (0, []))))), (11, (2, (0, (0, (0, []))))), (12, (6, (2, (1, (0, [(0, 9)]))))), (15, (2, (0, (0, (0, []))))), (16, (6, (2, (0, (0, [(0, 18)]))))), (19, (1, (1, (0, (0, []))))), (20, (9, (0, (0, (0, []))))), (21, (2, (0, (0, (0, []))))), (22, (6, (2, (2, (0, [(0, 15)]))))), (25, (2, (0, (0, (0, []))))), (26, (6, (2, (0, (0, [(0, 18)]))))), (29, (1, (2, (0, (0, []))))), (30, (9, (0, (0, (0, []))))), (31, (2, (0, (0, (0, []))))), (32, (22, (0, (0, (0, []))))), (33, (6, (2, (0, (0, [(0, 18)]))))), (36, (0, (0, (0, (1, []))))), (37, (17, (0, (0, (0, []))))), (38, (7, (2, (0, (0, [(0, 18)]))))), (41, (0, (0, (0, (1, []))))), (42, (27, (1, (0, (0, [])))))], ([], 3))
set_option maxRecDepth 100000 in
noncomputable def m_X2_all : m_Md := ([(0, (0, (0, (0, (0, []))))), (1, (3, (1, (0, (0, []))))), (2, (0, (0, (0, (0, []))))), (3, (3, (2, (0, (0, []))))), (4, (1, (2, (0, (0, []))))), (5, (2, (0, (0, (0, []))))), (6, (6, (2, (0, (0, [(0, 18)]))))), (9, (19, (3, (17, (0, []))))), (12, (1, (1, (0, (0, []))))), (13, (2, (0, (0, (0, []))))), (14, (6, (2, (2, (0, [(0, 15)]))))), (17, (1, (2, (0, (0, []))))), (18, (8, (0, (0, (0, []))))), (19, (17, (0, (0, (0, []))))), (20, (3, (1, (0, (0, []))))), (21, (5, (2, (0, (1, []))))), (24, (20, (0, (4, (0, []))))), (27, (1, (1, (0, (0, []))))), (28, (27, (0, (0, (0, [])))))], ([], 3))
set_option maxRecDepth 100000 in
noncomputable def m_X2_allOf : m_Md := ([(0, (2, (0, (0, (0, []))))), (1, (1, (1, (0, (0, []))))), (2, (2, (0, (0, (0, []))))), (3, (30, (19, (1, (3, [(0, 28)]))))), (6, (30, (21, (3, (3, [(0, 32)]))))), (9, (27, (0, (0, (0, [])))))], ([], 2))
set_option maxRecDepth 100000 in
noncomputable def m_X2_lostLast : m_Md := ([(0, (1, (2, (0, (0, []))))), (1, (3, (3, (0, (0, []))))), (2, (0, (0, (0, (0, []))))), (3, (3, (4, (0, (0, []))))), (5, (2, (0, (0, (0, []))))), (6, (6, (2, (0, (0, [(0, 18)]))))), (9, (0, (0, (0, (1, []))))), (10, (17, (1, (0, (0, []))))), (11, (3, (5, (0, (0, []))))), (13, (1, (5, (0, (0, []))))), (15, (18, (2, (34, (0, []))))), (18, (1, (3, (0, (0, []))))), (19, (2, (0, (0, (0, []))))), (20, (6, (2, (2, (0, [(0, 15)]))))), (23, (1, (5, (0, (0, []))))), (25, (8, (0, (0, (0, []))))), (26, (31, (0, (0, (0, [(0, 36)]))))), (29, (3, (6, (0, (0, []))))), (31, (1, (3, (0, (0, []))))), (32, (1, (6, (0, (0, []))))), (34, (17, (1, (0, (0, []))))), (35, (3, (3, (0, (0, []))))), (36, (2, (0, (0, (0, []))))), (37, (6, (2, (1, (0, [(0, 9)]))))), (40, (1, (5, (0, (0, []))))), (42, (8, (0, (0, (0, []))))), (43, (1, (1, (0, (0, []))))), (44, (19, (1, (32, (0, []))))), (47, (1, (4, (0, (0, []))))), (49, (1, (6, (0, (0, []))))), (51, (17, (0, (0, (0, []))))), (52, (3, (4, (0, (0, []))))), (54, (5, (5, (0, ((-1), []))))), (57, (20, (0, (9, (0, []))))), (60, (1, (4, (0, (0, []))))), (62, (27, (0, (0, (0, [])))))], ([], 7))
set_option maxRecDepth 100000 in
noncomputable def m_X3_init : m_Md := ([(0, (2, (0, (0, (0, []))))), (1, (40, (0, (0, (0, [(0, 3)]))))), (4, (2, (0, (0, (0, []))))), (5, (30, (23, (1, (4, [(0, 9)]))))), (8, (29, (0, (0, (0, [])))))], ([], 1))
set_option maxRecDepth 100000 in
noncomputable def m_X3_clear : m_Md := ([(0, (2, (0, (0, (0, []))))), (1, (0, (0, (0, ((-1), []))))), (2, (7, (3, (0, (0, [(0, 14)]))))), (5, (2, (0, (0, (0, []))))), (6, (0, (0, (0, ((-1), []))))), (7, (7, (3, (1, (0, [(0, 18)]))))), (10, (2, (0, (0, (0, []))))), (11, (0, (0, (0, ((-1), []))))), (12, (7, (3, (2, (0, [(0, 21)]))))), (15, (2, (0, (0, (0, []))))), (16, (0, (0, (0, ((-1), []))))), (17, (7, (3, (3, (0, [(0, 24)]))))), (20, (2, (0, (0, (0, []))))), (21, (0, (0, (0, ((-1), []))))), (22, (7, (3, (4, (0, [(0, 27)]))))), (25, (2, (0, (0, (0, []))))), (26, (0, (0, (0, (9999, []))))), (29, (7, (3, (5, (0, [(0, 30)]))))), (32, (2, (0, (0, (0, []))))), (33, (0, (0, (0, (0, []))))), (34, (7, (3, (6, (0, [(0, 33)]))))), (37, (2, (0, (0, (0, []))))), (38, (0, (0, (0, (0, []))))), (39, (7, (3, (7, (0, [(0, 36)]))))), (42, (29, (0, (0, (0, [])))))], ([], 1))
set_option maxRecDepth 100000 in
noncomputable def m_X3_setTo : m_Md := ([(0, (2, (0, (0, (0, []))))), (1, (2, (1, (0, (0, []))))), (2, (6, (3, (0, (0, [(0, 14)]))))), (5, (7, (3, (0, (0, [(0, 14)]))))), (8, (2, (0, (0, (0, []))))), (9, (2, (1, (0, (0, []))))), (10, (6, (3, (1, (0, [(0, 18)]))))), (13, (7, (3, (1, (0, [(0, 18)]))))), (16, (2, (0, (0, (0, []))))), (17, (2, (1, (0, (0, []))))), (18, (6, (3, (2, (0, [(0, 21)]))))), (21, (7, (3, (2, (0, [(0, 21)]))))), (24, (2, (0, (0, (0, []))))), (25, (2, (1, (0, (0, []))))), (26, (6, (3, (3, (0, [(0, 24)]))))), (29, (7, (3, (3, (0, [(0, 24)]))))), (32, (2, (0, (0, (0, []))))), (33, (2, (1, (0, (0, []))))), (34, (6, (3, (4, (0, [(0, 27)]))))), (37, (7, (3, (4, (0, [(0, 27)]))))), (40, (2, (0, (0, (0, []))))), (41, (2, (1, (0, (0, []))))), (42, (6, (3, (5, (0, [(0, 30)]))))), (45, (7, (3, (5, (0, [(0, 30)]))))), (48, (2, (0, (0, (0, []))))), (49, (2, (1, (0, (0, []))))), (50, (6, (3, (6, (0, [(0, 33)]))))), (53, (7, (3, (6, (0, [(0, 33)]))))), (56, (2, (0, (0, (0, []))))), (57, (2, (1, (0, (0, []))))), (58, (6, (3, (7, (0, [(0, 36)]))))), (61, (7, (3, (7, (0, [(0, 36)]))))), (64, (29, (0, (0, (0, [])))))], ([], 2))
set_option maxRecDepth 100000 in
noncomputable def m_X3_entry : m_Md := ([(0, (1, (1, (0, (0, []))))), (1, (21, (0, (17, (0, [(0, 2), (1, 5), (2, 8), (3, 11), (4, 14)]))))), (36, (2, (0, (0, (0, []))))), (37, (6, (3, (0, (0, [(0, 14)]))))), (40, (27, (0, (0, (0, []))))), (41, (2, (0, (0, (0, []))))), (42, (6, (3, (1, (0, [(0, 18)]))))), (45, (27, (0, (0, (0, []))))), (46, (2, (0, (0, (0, []))))), (47, (6, (3, (2, (0, [(0, 21)]))))), (50, (27, (0, (0, (0, []))))), (51, (2, (0, (0, (0, []))))), (52, (6, (3, (3, (0, [(0, 24)]))))), (55, (27, (0, (0, (0, []))))), (56, (2, (0, (0, (0, []))))), (57, (6, (3, (4, (0, [(0, 27)]))))), (60, (27, (0, (0, (0, []))))), (61, (2, (0, (0, (0, []))))), (62, (6, (3, (5, (0, [(0, 30)]))))), (65, (27, (0, (0, (0, [])))))], ([], 2))
set_option maxRecDepth 100000 in
noncomputable def m_X3_hasFact : m_Md := ([(0, (2, (0, (0, (0, []))))), (1, (6, (3, (7, (0, [(0, 36)]))))), (4, (1, (1, (0, (0, []))))), (5, (17, (6, (0, (0, []))))), (6, (0, (0, (0, (1, []))))), (7, (17, (7, (0, (0, []))))), (8, (0, (0, (0, (1, []))))), (9, (19, (1, (10, (0, []))))), (12, (0, (0, (0, (1, []))))), (13, (20, (0, (11, (0, []))))), (16, (0, (0, (0, (0, []))))), (17, (27, (1, (0, (0, [])))))], ([], 2))
set_option maxRecDepth 100000 in
noncomputable def m_X3_tellFact : m_Md := ([(0, (0, (0, (0, (1, []))))), (1, (1, (1, (0, (0, []))))), (2, (17, (5, (0, (0, []))))), (3, (3, (3, (0, (0, []))))), (4, (2, (0, (0, (0, []))))), (5, (1, (2, (0, (0, []))))), (6, (18, (0, (12, (0, []))))), (9, (2, (0, (0, (0, []))))), (10, (6, (3, (7, (0, [(0, 36)]))))), (13, (1, (3, (0, (0, []))))), (14, (17, (8, (0, (0, []))))), (15, (20, (0, (18, (0, []))))), (18, (2, (0, (0, (0, []))))), (19, (6, (3, (7, (0, [(0, 36)]))))), (22, (1, (3, (0, (0, []))))), (23, (0, (0, (0, ((-1), []))))), (24, (17, (9, (0, (0, []))))), (25, (17, (7, (0, (0, []))))), (26, (7, (3, (7, (0, [(0, 36)]))))), (29, (29, (0, (0, (0, [])))))], ([], 4))
set_option maxRecDepth 100000 in
noncomputable def m_X4_init : m_Md := ([(0, (2, (0, (0, (0, []))))), (1, (40, (0, (0, (0, [(0, 3)]))))), (4, (2, (0, (0, (0, []))))), (5, (0, (0, (0, ((-1), []))))), (6, (7, (4, (0, (0, [(0, 9)]))))), (9, (2, (0, (0, (0, []))))), (10, (0, (0, (0, (24, []))))), (12, (38, (0, (0, (0, []))))), (14, (7, (4, (2, (2, [(0, 15)]))))), (17, (2, (0, (0, (0, []))))), (18, (0, (0, (0, (24, []))))), (20, (38, (0, (0, (0, []))))), (22, (7, (4, (3, (2, [(0, 19)]))))), (25, (2, (0, (0, (0, []))))), (26, (0, (0, (0, (24, []))))), (28, (38, (0, (0, (0, []))))), (30, (7, (4, (4, (2, [(0, 22)]))))), (33, (2, (0, (0, (0, []))))), (34, (0, (0, (0, (24, []))))), (36, (38, (0, (0, (0, []))))), (38, (7, (4, (5, (2, [(0, 25)]))))), (41, (2, (0, (0, (0, []))))), (42, (0, (0, (0, (24, []))))), (44, (38, (0, (0, (0, []))))), (46, (7, (4, (6, (2, [(0, 28)]))))), (49, (2, (0, (0, (0, []))))), (50, (0, (0, (0, (500, []))))), (53, (38, (0, (0, (0, []))))), (55, (7, (4, (7, (2, [(0, 31)]))))), (58, (2, (0, (0, (0, []))))), (59, (0, (0, (0, (24, []))))), (61, (38, (0, (0, (0, []))))), (63, (7, (4, (9, (2, [(0, 34)]))))), (66, (29, (0, (0, (0, [])))))], ([], 1))
set_option maxRecDepth 100000 in
noncomputable def m_X4_clear : m_Md := ([(0, (2, (0, (0, (0, []))))), (1, (0, (0, (0, (0, []))))), (2, (7, (4, (1, (0, [(0, 37)]))))), (5, (2, (0, (0, (0, []))))), (6, (0, (0, (0, (0, []))))), (7, (7, (4, (8, (0, [(0, 40)]))))), (10, (2, (0, (0, (0, []))))), (11, (0, (0, (0, ((-1), []))))), (12, (7, (4, (0, (0, [(0, 9)]))))), (15, (29, (0, (0, (0, [])))))], ([], 1))
set_option maxRecDepth 100000 in
noncomputable def m_X4_isFull : m_Md := ([(0, (2, (0, (0, (0, []))))), (1, (6, (4, (1, (0, [(0, 37)]))))), (4, (0, (0, (0, (24, []))))), (6, (19, (2, (6, (0, []))))), (9, (0, (0, (0, (1, []))))), (10, (20, (0, (7, (0, []))))), (13, (0, (0, (0, (0, []))))), (14, (27, (1, (0, (0, [])))))], ([], 1))
set_option maxRecDepth 100000 in
noncomputable def m_X4_beginClause : m_Md := ([(0, (2, (0, (0, (0, []))))), (1, (30, (30, (1, (5, [(0, 43)]))))), (4, (18, (0, (4, (0, []))))), (7, (29, (0, (0, (0, []))))), (8, (2, (0, (0, (0, []))))), (9, (6, (4, (2, (0, [(0, 15)]))))), (12, (2, (0, (0, (0, []))))), (13, (6, (4, (1, (0, [(0, 37)]))))), (16, (1, (1, (0, (0, []))))), (17, (9, (0, (0, (0, []))))), (18, (2, (0, (0, (0, []))))), (19, (6, (4, (3, (0, [(0, 19)]))))), (22, (2, (0, (0, (0, []))))), (23, (6, (4, (1, (0, [(0, 37)]))))), (26, (1, (2, (0, (0, []))))), (27, (9, (0, (0, (0, []))))), (28, (2, (0, (0, (0, []))))), (29, (6, (4, (4, (0, [(0, 22)]))))), (32, (2, (0, (0, (0, []))))), (33, (6, (4, (1, (0, [(0, 37)]))))), (36, (0, (0, (0, (0, []))))), (37, (9, (0, (0, (0, []))))), (38, (2, (0, (0, (0, []))))), (39, (6, (4, (5, (0, [(0, 25)]))))), (42, (2, (0, (0, (0, []))))), (43, (6, (4, (1, (0, [(0, 37)]))))), (46, (2, (0, (0, (0, []))))), (47, (6, (4, (8, (0, [(0, 40)]))))), (50, (9, (0, (0, (0, []))))), (51, (2, (0, (0, (0, []))))), (52, (6, (4, (6, (0, [(0, 28)]))))), (55, (2, (0, (0, (0, []))))), (56, (6, (4, (1, (0, [(0, 37)]))))), (59, (2, (0, (0, (0, []))))), (60, (6, (4, (8, (0, [(0, 40)]))))), (63, (9, (0, (0, (0, []))))), (64, (2, (0, (0, (0, []))))), (65, (22, (0, (0, (0, []))))), (66, (6, (4, (1, (0, [(0, 37)]))))), (69, (0, (0, (0, (1, []))))), (70, (17, (0, (0, (0, []))))), (71, (7, (4, (1, (0, [(0, 37)]))))), (74, (29, (0, (0, (0, [])))))], ([], 3))
set_option maxRecDepth 100000 in
noncomputable def m_X4_include : m_Md := ([(0, (2, (0, (0, (0, []))))), (1, (6, (4, (1, (0, [(0, 37)]))))), (4, (18, (5, (14, (0, []))))), (7, (2, (0, (0, (0, []))))), (8, (6, (4, (4, (0, [(0, 22)]))))), (11, (2, (0, (0, (0, []))))), (12, (6, (4, (1, (0, [(0, 37)]))))), (15, (0, (0, (0, (1, []))))), (16, (17, (1, (0, (0, []))))), (17, (23, (0, (0, (0, []))))), (18, (8, (0, (0, (0, []))))), (19, (1, (1, (0, (0, []))))), (20, (17, (8, (0, (0, []))))), (21, (9, (0, (0, (0, []))))), (22, (29, (0, (0, (0, [])))))], ([], 2))
set_option maxRecDepth 100000 in
noncomputable def m_X4_addStep : m_Md := ([(0, (2, (0, (0, (0, []))))), (1, (6, (4, (1, (0, [(0, 37)]))))), (4, (18, (5, (28, (0, []))))), (7, (2, (0, (0, (0, []))))), (8, (6, (4, (8, (0, [(0, 40)]))))), (11, (0, (0, (0, (500, []))))), (14, (19, (3, (28, (0, []))))), (17, (2, (0, (0, (0, []))))), (18, (6, (4, (7, (0, [(0, 31)]))))), (21, (2, (0, (0, (0, []))))), (22, (6, (4, (8, (0, [(0, 40)]))))), (25, (1, (1, (0, (0, []))))), (26, (9, (0, (0, (0, []))))), (27, (2, (0, (0, (0, []))))), (28, (22, (0, (0, (0, []))))), (29, (6, (4, (8, (0, [(0, 40)]))))), (32, (0, (0, (0, (1, []))))), (33, (17, (0, (0, (0, []))))), (34, (7, (4, (8, (0, [(0, 40)]))))), (37, (2, (0, (0, (0, []))))), (38, (6, (4, (6, (0, [(0, 28)]))))), (41, (2, (0, (0, (0, []))))), (42, (6, (4, (1, (0, [(0, 37)]))))), (45, (0, (0, (0, (1, []))))), (46, (17, (1, (0, (0, []))))), (47, (2, (0, (0, (0, []))))), (48, (6, (4, (8, (0, [(0, 40)]))))), (51, (9, (0, (0, (0, []))))), (52, (29, (0, (0, (0, [])))))], ([], 2))
set_option maxRecDepth 100000 in
noncomputable def m_X4_holdsFor : m_Md := ([(0, (0, (0, (0, (0, []))))), (1, (3, (5, (0, (0, []))))), (3, (1, (5, (0, (0, []))))), (5, (2, (0, (0, (0, []))))), (6, (6, (4, (1, (0, [(0, 37)]))))), (9, (19, (3, (37, (0, []))))), (12, (2, (0, (0, (0, []))))), (13, (1, (5, (0, (0, []))))), (15, (1, (1, (0, (0, []))))), (16, (1, (2, (0, (0, []))))), (17, (30, (39, (4, (5, [(0, 47)]))))), (20, (18, (0, (35, (0, []))))), (23, (2, (0, (0, (0, []))))), (24, (6, (4, (4, (0, [(0, 22)]))))), (27, (1, (5, (0, (0, []))))), (29, (8, (0, (0, (0, []))))), (30, (1, (3, (0, (0, []))))), (31, (30, (40, (2, (0, [(1, 51)]))))), (34, (18, (0, (35, (0, []))))), (37, (2, (0, (0, (0, []))))), (38, (6, (4, (5, (0, [(0, 25)]))))), (41, (1, (5, (0, (0, []))))), (43, (8, (0, (0, (0, []))))), (44, (2, (0, (0, (0, []))))), (45, (6, (4, (6, (0, [(0, 28)]))))), (48, (1, (5, (0, (0, []))))), (50, (8, (0, (0, (0, []))))), (51, (19, (0, (33, (0, []))))), (54, (2, (0, (0, (0, []))))), (55, (1, (5, (0, (0, []))))), (57, (2, (4, (0, (0, []))))), (59, (30, (41, (3, (5, [(0, 55)]))))), (62, (18, (0, (35, (0, []))))), (65, (0, (0, (0, (1, []))))), (66, (27, (1, (0, (0, []))))), (67, (5, (5, (0, (1, []))))), (70, (20, (0, (2, (0, []))))), (73, (0, (0, (0, (0, []))))), (74, (27, (1, (0, (0, [])))))], ([], 6))
set_option maxRecDepth 100000 in
noncomputable def m_X4_owedFor : m_Md := ([(0, (2, (0, (0, (0, []))))), (1, (6, (4, (1, (0, [(0, 37)]))))), (4, (0, (0, (0, (1, []))))), (5, (17, (1, (0, (0, []))))), (6, (3, (3, (0, (0, []))))), (7, (1, (3, (0, (0, []))))), (8, (18, (2, (24, (0, []))))), (11, (2, (0, (0, (0, []))))), (12, (1, (3, (0, (0, []))))), (13, (0, (0, (0, (2, []))))), (14, (1, (1, (0, (0, []))))), (15, (30, (39, (4, (5, [(0, 47)]))))), (18, (18, (0, (22, (0, []))))), (21, (0, (0, (0, (0, []))))), (22, (0, (0, (0, (9999, []))))), (25, (2, (0, (0, (0, []))))), (26, (1, (3, (0, (0, []))))), (27, (2, (2, (0, (0, []))))), (28, (30, (41, (3, (5, [(0, 55)]))))), (31, (31, (0, (0, (0, [(0, 59)]))))), (34, (32, (0, (0, (0, [(0, 65)]))))), (37, (27, (0, (0, (0, []))))), (38, (5, (3, (0, ((-1), []))))), (41, (20, (0, (5, (0, []))))), (44, (2, (2, (0, (0, []))))), (45, (0, (0, (0, (6, []))))), (47, (8, (0, (0, (0, []))))), (48, (27, (0, (0, (0, [])))))], ([], 4))
set_option maxRecDepth 100000 in
noncomputable def m_X4_claimFor : m_Md := ([(0, (2, (0, (0, (0, []))))), (1, (0, (0, (0, (0, []))))), (2, (1, (1, (0, (0, []))))), (3, (1, (2, (0, (0, []))))), (4, (2, (3, (0, (0, []))))), (5, (30, (34, (5, (5, [(0, 68)]))))), (8, (18, (1, (14, (0, []))))), (11, (2, (0, (0, (0, []))))), (12, (0, (0, (0, (1, []))))), (13, (1, (1, (0, (0, []))))), (14, (1, (2, (0, (0, []))))), (15, (2, (3, (0, (0, []))))), (16, (30, (34, (5, (5, [(0, 68)]))))), (19, (18, (0, (16, (0, []))))), (22, (0, (0, (0, (1, []))))), (23, (20, (0, (17, (0, []))))), (26, (0, (0, (0, (0, []))))), (27, (3, (4, (0, (0, []))))), (29, (1, (4, (0, (0, []))))), (31, (18, (0, (25, (0, []))))), (34, (2, (0, (0, (0, []))))), (35, (1, (1, (0, (0, []))))), (36, (2, (3, (0, (0, []))))), (37, (30, (35, (3, (5, [(0, 72)]))))), (40, (20, (0, (26, (0, []))))), (43, (0, (0, (0, (0, []))))), (44, (27, (0, (0, (0, [])))))], ([], 5))
set_option maxRecDepth 100000 in
noncomputable def m_X4_allows : m_Md := ([(0, (0, (0, (0, (0, []))))), (1, (3, (3, (0, (0, []))))), (2, (1, (3, (0, (0, []))))), (3, (2, (0, (0, (0, []))))), (4, (6, (4, (1, (0, [(0, 37)]))))), (7, (19, (3, (23, (0, []))))), (10, (2, (0, (0, (0, []))))), (11, (1, (3, (0, (0, []))))), (12, (0, (0, (0, (3, []))))), (13, (1, (1, (0, (0, []))))), (14, (30, (39, (4, (5, [(0, 47)]))))), (17, (18, (0, (21, (0, []))))), (20, (2, (0, (0, (0, []))))), (21, (6, (4, (4, (0, [(0, 22)]))))), (24, (1, (3, (0, (0, []))))), (25, (8, (0, (0, (0, []))))), (26, (1, (2, (0, (0, []))))), (27, (30, (40, (2, (0, [(1, 51)]))))), (30, (18, (0, (21, (0, []))))), (33, (0, (0, (0, (1, []))))), (34, (27, (1, (0, (0, []))))), (35, (5, (3, (0, (1, []))))), (38, (20, (0, (2, (0, []))))), (41, (0, (0, (0, (0, []))))), (42, (27, (1, (0, (0, [])))))], ([], 4))
set_option maxRecDepth 100000 in
noncomputable def m_X4_doubles : m_Md := ([(0, (0, (0, (0, (0, []))))), (1, (3, (2, (0, (0, []))))), (2, (1, (2, (0, (0, []))))), (3, (2, (0, (0, (0, []))))), (4, (6, (4, (1, (0, [(0, 37)]))))), (7, (19, (3, (16, (0, []))))), (10, (2, (0, (0, (0, []))))), (11, (1, (2, (0, (0, []))))), (12, (0, (0, (0, (4, []))))), (13, (1, (1, (0, (0, []))))), (14, (30, (39, (4, (5, [(0, 47)]))))), (17, (18, (0, (14, (0, []))))), (20, (0, (0, (0, (1, []))))), (21, (27, (1, (0, (0, []))))), (22, (5, (2, (0, (1, []))))), (25, (20, (0, (2, (0, []))))), (28, (0, (0, (0, (0, []))))), (29, (27, (1, (0, (0, [])))))], ([], 3))
set_option maxRecDepth 100000 in
noncomputable def m_X4_isFor : m_Md := ([(0, (2, (0, (0, (0, []))))), (1, (6, (4, (2, (0, [(0, 15)]))))), (4, (1, (1, (0, (0, []))))), (5, (8, (0, (0, (0, []))))), (6, (1, (2, (0, (0, []))))), (7, (19, (1, (18, (0, []))))), (10, (2, (0, (0, (0, []))))), (11, (6, (4, (3, (0, [(0, 19)]))))), (14, (1, (1, (0, (0, []))))), (15, (8, (0, (0, (0, []))))), (16, (1, (3, (0, (0, []))))), (17, (17, (6, (0, (0, []))))), (18, (0, (0, (0, (1, []))))), (19, (17, (7, (0, (0, []))))), (20, (0, (0, (0, (1, []))))), (21, (19, (1, (18, (0, []))))), (24, (0, (0, (0, (1, []))))), (25, (20, (0, (19, (0, []))))), (28, (0, (0, (0, (0, []))))), (29, (27, (1, (0, (0, [])))))], ([], 4))
set_option maxRecDepth 100000 in
noncomputable def m_X4_has : m_Md := ([(0, (1, (0, (0, (0, []))))), (1, (1, (1, (0, (0, []))))), (2, (17, (6, (0, (0, []))))), (3, (0, (0, (0, (1, []))))), (4, (17, (7, (0, (0, []))))), (5, (0, (0, (0, (1, []))))), (6, (19, (1, (9, (0, []))))), (9, (0, (0, (0, (1, []))))), (10, (20, (0, (10, (0, []))))), (13, (0, (0, (0, (0, []))))), (14, (27, (1, (0, (0, [])))))], ([], 2))
set_option maxRecDepth 100000 in
noncomputable def m_X4_work : m_Md := ([(0, (0, (0, (0, (0, []))))), (1, (3, (3, (0, (0, []))))), (2, (2, (0, (0, (0, []))))), (3, (6, (4, (5, (0, [(0, 25)]))))), (6, (1, (1, (0, (0, []))))), (7, (8, (0, (0, (0, []))))), (8, (3, (4, (0, (0, []))))), (10, (1, (4, (0, (0, []))))), (12, (2, (0, (0, (0, []))))), (13, (6, (4, (6, (0, [(0, 28)]))))), (16, (1, (1, (0, (0, []))))), (17, (8, (0, (0, (0, []))))), (18, (19, (3, (87, (0, []))))), (21, (2, (0, (0, (0, []))))), (22, (6, (4, (7, (0, [(0, 31)]))))), (25, (1, (4, (0, (0, []))))), (27, (8, (0, (0, (0, []))))), (28, (3, (5, (0, (0, []))))), (30, (1, (5, (0, (0, []))))), (32, (0, (0, (0, (8, []))))), (34, (19, (2, (24, (0, []))))), (37, (1, (5, (0, (0, []))))), (39, (0, (0, (0, (256, []))))), (42, (19, (2, (43, (0, []))))), (45, (1, (3, (0, (0, []))))), (46, (0, (0, (0, (24, []))))), (48, (19, (3, (85, (0, []))))), (51, (2, (0, (0, (0, []))))), (52, (6, (4, (9, (0, [(0, 34)]))))), (55, (1, (3, (0, (0, []))))), (56, (1, (5, (0, (0, []))))), (58, (0, (0, (0, (8, []))))), (60, (19, (3, (37, (0, []))))), (63, (2, (2, (0, (0, []))))), (64, (1, (5, (0, (0, []))))), (66, (8, (0, (0, (0, []))))), (67, (20, (0, (40, (0, []))))), (70, (1, (5, (0, (0, []))))), (72, (0, (0, (0, (256, []))))), (75, (17, (1, (0, (0, []))))), (76, (9, (0, (0, (0, []))))), (77, (5, (3, (0, (1, []))))), (80, (20, (0, (85, (0, []))))), (83, (1, (5, (0, (0, []))))), (85, (0, (0, (0, (33, []))))), (87, (19, (1, (63, (0, []))))), (90, (1, (3, (0, (0, []))))), (91, (18, (5, (85, (0, []))))), (94, (2, (0, (0, (0, []))))), (95, (6, (4, (9, (0, [(0, 34)]))))), (98, (1, (3, (0, (0, []))))), (99, (0, (0, (0, (1, []))))), (100, (17, (1, (0, (0, []))))), (101, (0, (0, (0, (1, []))))), (102, (2, (0, (0, (0, []))))), (103, (6, (4, (9, (0, [(0, 34)]))))), (106, (1, (3, (0, (0, []))))), (107, (0, (0, (0, (1, []))))), (108, (17, (1, (0, (0, []))))), (109, (8, (0, (0, (0, []))))), (110, (17, (1, (0, (0, []))))), (111, (9, (0, (0, (0, []))))), (112, (20, (0, (85, (0, []))))), (115, (1, (3, (0, (0, []))))), (116, (0, (0, (0, (1, []))))), (117, (19, (5, (85, (0, []))))), (120, (5, (3, (0, ((-1), []))))), (123, (2, (0, (0, (0, []))))), (124, (6, (4, (9, (0, [(0, 34)]))))), (127, (1, (3, (0, (0, []))))), (128, (0, (0, (0, (1, []))))), (129, (17, (1, (0, (0, []))))), (130, (1, (5, (0, (0, []))))), (132, (2, (0, (0, (0, []))))), (133, (6, (4, (9, (0, [(0, 34)]))))), (136, (1, (3, (0, (0, []))))), (137, (0, (0, (0, (1, []))))), (138, (17, (1, (0, (0, []))))), (139, (8, (0, (0, (0, []))))), (140, (2, (0, (0, (0, []))))), (141, (6, (4, (9, (0, [(0, 34)]))))), (144, (1, (3, (0, (0, []))))), (145, (8, (0, (0, (0, []))))), (146, (30, (42, (3, (0, [(1, 75)]))))), (149, (9, (0, (0, (0, []))))), (150, (5, (4, (0, (1, []))))), (153, (20, (0, (7, (0, []))))), (156, (1, (3, (0, (0, []))))), (157, (18, (5, (96, (0, []))))), (160, (2, (0, (0, (0, []))))), (161, (6, (4, (9, (0, [(0, 34)]))))), (164, (1, (3, (0, (0, []))))), (165, (0, (0, (0, (1, []))))), (166, (17, (1, (0, (0, []))))), (167, (8, (0, (0, (0, []))))), (168, (20, (0, (97, (0, []))))), (171, (0, (0, (0, (0, []))))), (172, (27, (0, (0, (0, [])))))], ([], 6))
set_option maxRecDepth 100000 in
noncomputable def m_X4_join : m_Md := ([(0, (1, (0, (0, (0, []))))), (1, (21, (1, (55, (0, [(38, 51), (42, 10), (43, 2), (45, 6), (47, 14), (60, 22), (61, 36), (62, 29), (108, 43), (109, 47)]))))), (92, (1, (1, (0, (0, []))))), (93, (1, (2, (0, (0, []))))), (94, (17, (0, (0, (0, []))))), (95, (27, (0, (0, (0, []))))), (96, (1, (1, (0, (0, []))))), (97, (1, (2, (0, (0, []))))), (98, (17, (1, (0, (0, []))))), (99, (27, (0, (0, (0, []))))), (100, (1, (1, (0, (0, []))))), (101, (1, (2, (0, (0, []))))), (102, (17, (2, (0, (0, []))))), (103, (27, (0, (0, (0, []))))), (104, (1, (2, (0, (0, []))))), (105, (18, (1, (18, (0, []))))), (108, (0, (0, (0, (0, []))))), (109, (20, (0, (21, (0, []))))), (112, (1, (1, (0, (0, []))))), (113, (1, (2, (0, (0, []))))), (114, (17, (3, (0, (0, []))))), (115, (27, (0, (0, (0, []))))), (116, (1, (1, (0, (0, []))))), (117, (1, (2, (0, (0, []))))), (118, (19, (3, (27, (0, []))))), (121, (0, (0, (0, (1, []))))), (122, (20, (0, (28, (0, []))))), (125, (0, (0, (0, (0, []))))), (126, (27, (0, (0, (0, []))))), (127, (1, (1, (0, (0, []))))), (128, (1, (2, (0, (0, []))))), (129, (19, (5, (34, (0, []))))), (132, (0, (0, (0, (1, []))))), (133, (20, (0, (35, (0, []))))), (136, (0, (0, (0, (0, []))))), (137, (27, (0, (0, (0, []))))), (138, (1, (1, (0, (0, []))))), (139, (1, (2, (0, (0, []))))), (140, (19, (1, (41, (0, []))))), (143, (0, (0, (0, (1, []))))), (144, (20, (0, (42, (0, []))))), (147, (0, (0, (0, (0, []))))), (148, (27, (0, (0, (0, []))))), (149, (1, (1, (0, (0, []))))), (150, (1, (2, (0, (0, []))))), (151, (31, (0, (0, (0, [(0, 59)]))))), (154, (27, (0, (0, (0, []))))), (155, (1, (1, (0, (0, []))))), (156, (1, (2, (0, (0, []))))), (157, (32, (0, (0, (0, [(0, 65)]))))), (160, (27, (0, (0, (0, []))))), (161, (1, (1, (0, (0, []))))), (162, (1, (2, (0, (0, []))))), (163, (17, (7, (0, (0, []))))), (164, (27, (0, (0, (0, []))))), (165, (1, (1, (0, (0, []))))), (166, (1, (2, (0, (0, []))))), (167, (17, (8, (0, (0, []))))), (168, (27, (0, (0, (0, [])))))], ([], 3))
set_option maxRecDepth 100000 in
noncomputable def m_X5_init : m_Md := ([(0, (2, (0, (0, (0, []))))), (1, (40, (0, (0, (0, [(0, 3)]))))), (4, (2, (0, (0, (0, []))))), (5, (0, (0, (0, ((-1), []))))), (6, (7, (5, (0, (0, [(0, 9)]))))), (9, (2, (0, (0, (0, []))))), (10, (0, (0, (0, (0, []))))), (11, (38, (0, (0, (0, []))))), (13, (7, (5, (2, (2, [(0, 15)]))))), (16, (2, (0, (0, (0, []))))), (17, (37, (4, (0, (0, [(0, 19)]))))), (20, (22, (0, (0, (0, []))))), (21, (30, (28, (1, (0, [(5, 21)]))))), (24, (7, (5, (4, (2, [(0, 22)]))))), (27, (29, (0, (0, (0, [])))))], ([], 1))
set_option maxRecDepth 100000 in
noncomputable def m_X5_readLaw : m_Md := ([(0, (2, (0, (0, (0, []))))), (1, (2, (1, (0, (0, []))))), (2, (7, (5, (2, (2, [(0, 15)]))))), (5, (2, (0, (0, (0, []))))), (6, (1, (2, (0, (0, []))))), (7, (2, (1, (0, (0, []))))), (8, (16, (0, (0, (0, []))))), (9, (31, (0, (0, (0, [(0, 26)]))))), (12, (7, (5, (3, (0, [(0, 32)]))))), (15, (2, (0, (0, (0, []))))), (16, (2, (3, (0, (0, []))))), (17, (7, (5, (4, (2, [(0, 22)]))))), (20, (2, (0, (0, (0, []))))), (21, (6, (5, (4, (0, [(0, 22)]))))), (24, (30, (29, (1, (5, [(0, 35)]))))), (27, (2, (0, (0, (0, []))))), (28, (0, (0, (0, (0, []))))), (29, (7, (5, (1, (0, [(0, 38)]))))), (32, (2, (0, (0, (0, []))))), (33, (0, (0, (0, ((-1), []))))), (34, (7, (5, (0, (0, [(0, 9)]))))), (37, (2, (0, (0, (0, []))))), (38, (0, (0, (0, (0, []))))), (39, (7, (5, (9, (0, [(0, 41)]))))), (42, (2, (0, (0, (0, []))))), (43, (0, (0, (0, (0, []))))), (44, (7, (5, (7, (0, [(0, 44)]))))), (47, (2, (0, (0, (0, []))))), (48, (30, (68, (1, (6, [(0, 47)]))))), (51, (0, (0, (0, (1, []))))), (52, (3, (4, (0, (0, []))))), (54, (0, (0, (0, (0, []))))), (55, (3, (5, (0, (0, []))))), (57, (1, (4, (0, (0, []))))), (59, (18, (0, (47, (0, []))))), (62, (1, (5, (0, (0, []))))), (64, (0, (0, (0, (24, []))))), (66, (19, (4, (47, (0, []))))), (69, (2, (0, (0, (0, []))))), (70, (6, (5, (5, (0, [(0, 50)]))))), (73, (0, (0, (0, (258, []))))), (76, (19, (0, (47, (0, []))))), (79, (2, (0, (0, (0, []))))), (80, (30, (45, (1, (6, [(0, 53)]))))), (83, (3, (4, (0, (0, []))))), (85, (5, (5, (0, (1, []))))), (88, (20, (0, (33, (0, []))))), (91, (2, (0, (0, (0, []))))), (92, (6, (5, (1, (0, [(0, 38)]))))), (95, (27, (0, (0, (0, [])))))], ([], 6))
set_option maxRecDepth 100000 in
noncomputable def m_X5_readClause : m_Md := ([(0, (2, (0, (0, (0, []))))), (1, (41, (0, (57, (0, []))))), (3, (30, (72, (2, (6, [(0, 59)]))))), (6, (3, (1, (0, (0, []))))), (7, (2, (0, (0, (0, []))))), (8, (41, (1, (63, (0, []))))), (10, (30, (71, (2, (6, [(0, 65)]))))), (13, (3, (2, (0, (0, []))))), (14, (1, (1, (0, (0, []))))), (15, (0, (0, (0, ((-1), []))))), (16, (19, (1, (17, (0, []))))), (19, (1, (2, (0, (0, []))))), (20, (18, (1, (17, (0, []))))), (23, (2, (0, (0, (0, []))))), (24, (0, (0, (0, (1, []))))), (25, (30, (67, (2, (6, [(0, 69)]))))), (28, (27, (1, (0, (0, []))))), (29, (2, (0, (0, (0, []))))), (30, (6, (5, (4, (0, [(0, 22)]))))), (33, (30, (30, (1, (5, [(0, 73)]))))), (36, (18, (0, (25, (0, []))))), (39, (2, (0, (0, (0, []))))), (40, (0, (0, (0, (3, []))))), (41, (30, (67, (2, (6, [(0, 69)]))))), (44, (27, (1, (0, (0, []))))), (45, (2, (0, (0, (0, []))))), (46, (30, (68, (1, (6, [(0, 47)]))))), (49, (1, (2, (0, (0, []))))), (50, (18, (0, (33, (0, []))))), (53, (2, (0, (0, (0, []))))), (54, (30, (46, (1, (6, [(0, 76)]))))), (57, (18, (0, (45, (0, []))))), (60, (20, (0, (39, (0, []))))), (63, (2, (0, (0, (0, []))))), (64, (1, (1, (0, (0, []))))), (65, (0, (0, (0, (6, []))))), (67, (30, (74, (2, (0, [(1, 79)]))))), (70, (30, (47, (2, (6, [(0, 82)]))))), (73, (18, (0, (45, (0, []))))), (76, (2, (0, (0, (0, []))))), (77, (0, (0, (0, (59, []))))), (79, (30, (64, (2, (6, [(0, 85)]))))), (82, (18, (0, (45, (0, []))))), (85, (0, (0, (0, (1, []))))), (86, (20, (0, (46, (0, []))))), (89, (0, (0, (0, (0, []))))), (90, (27, (1, (0, (0, [])))))], ([], 3))
set_option maxRecDepth 100000 in
noncomputable def m_X5_readMixing : m_Md := ([(0, (2, (0, (0, (0, []))))), (1, (41, (2, (88, (0, []))))), (3, (30, (72, (2, (6, [(0, 59)]))))), (6, (3, (1, (0, (0, []))))), (7, (1, (1, (0, (0, []))))), (8, (0, (0, (0, ((-1), []))))), (9, (19, (1, (11, (0, []))))), (12, (2, (0, (0, (0, []))))), (13, (0, (0, (0, (1, []))))), (14, (30, (67, (2, (6, [(0, 69)]))))), (17, (27, (1, (0, (0, []))))), (18, (2, (0, (0, (0, []))))), (19, (6, (5, (4, (0, [(0, 22)]))))), (22, (0, (0, (0, (5, []))))), (23, (0, (0, (0, (0, []))))), (24, (30, (31, (3, (5, [(0, 90)]))))), (27, (2, (0, (0, (0, []))))), (28, (6, (5, (4, (0, [(0, 22)]))))), (31, (1, (1, (0, (0, []))))), (32, (7, (4, (0, (0, [(0, 94)]))))), (35, (2, (0, (0, (0, []))))), (36, (30, (68, (1, (6, [(0, 47)]))))), (39, (0, (0, (0, (1, []))))), (40, (27, (1, (0, (0, [])))))], ([], 2))
set_option maxRecDepth 100000 in
noncomputable def m_X5_readKeeping : m_Md := ([(0, (2, (0, (0, (0, []))))), (1, (41, (3, (97, (0, []))))), (3, (30, (72, (2, (6, [(0, 59)]))))), (6, (3, (2, (0, (0, []))))), (7, (1, (2, (0, (0, []))))), (8, (0, (0, (0, ((-1), []))))), (9, (19, (1, (11, (0, []))))), (12, (2, (0, (0, (0, []))))), (13, (0, (0, (0, (1, []))))), (14, (30, (67, (2, (6, [(0, 69)]))))), (17, (27, (1, (0, (0, []))))), (18, (2, (0, (0, (0, []))))), (19, (6, (5, (4, (0, [(0, 22)]))))), (22, (1, (2, (0, (0, []))))), (23, (1, (1, (0, (0, []))))), (24, (30, (31, (3, (5, [(0, 90)]))))), (27, (2, (0, (0, (0, []))))), (28, (30, (68, (1, (6, [(0, 47)]))))), (31, (1, (2, (0, (0, []))))), (32, (21, (0, (28, (2, [(2, 20), (3, 23), (4, 26)]))))), (60, (2, (0, (0, (0, []))))), (61, (30, (57, (1, (6, [(0, 99)]))))), (64, (27, (1, (0, (0, []))))), (65, (2, (0, (0, (0, []))))), (66, (30, (50, (1, (6, [(0, 102)]))))), (69, (27, (1, (0, (0, []))))), (70, (0, (0, (0, (1, []))))), (71, (27, (1, (0, (0, []))))), (72, (2, (0, (0, (0, []))))), (73, (30, (48, (1, (6, [(0, 105)]))))), (76, (18, (0, (40, (0, []))))), (79, (2, (0, (0, (0, []))))), (80, (41, (5, (108, (0, []))))), (82, (30, (65, (2, (6, [(0, 110)]))))), (85, (18, (0, (38, (0, []))))), (88, (2, (0, (0, (0, []))))), (89, (30, (52, (1, (6, [(0, 113)]))))), (92, (18, (0, (40, (0, []))))), (95, (0, (0, (0, (1, []))))), (96, (20, (0, (41, (0, []))))), (99, (0, (0, (0, (0, []))))), (100, (27, (1, (0, (0, [])))))], ([], 3))
set_option maxRecDepth 100000 in
noncomputable def m_X5_readHarms : m_Md := ([(0, (2, (0, (0, (0, []))))), (1, (30, (49, (1, (6, [(0, 116)]))))), (4, (3, (1, (0, (0, []))))), (5, (0, (0, (0, (0, []))))), (6, (3, (2, (0, (0, []))))), (7, (1, (1, (0, (0, []))))), (8, (18, (0, (22, (0, []))))), (11, (1, (2, (0, (0, []))))), (12, (2, (0, (0, (0, []))))), (13, (6, (5, (3, (0, [(0, 32)]))))), (16, (19, (3, (22, (0, []))))), (19, (2, (0, (0, (0, []))))), (20, (6, (5, (5, (0, [(0, 50)]))))), (23, (0, (0, (0, (44, []))))), (25, (19, (1, (22, (0, []))))), (28, (2, (0, (0, (0, []))))), (29, (30, (68, (1, (6, [(0, 47)]))))), (32, (2, (0, (0, (0, []))))), (33, (30, (49, (1, (6, [(0, 116)]))))), (36, (3, (1, (0, (0, []))))), (37, (5, (2, (0, (1, []))))), (40, (20, (0, (5, (0, []))))), (43, (1, (1, (0, (0, []))))), (44, (27, (1, (0, (0, [])))))], ([], 3))
set_option maxRecDepth 100000 in
noncomputable def m_X5_readHarm : m_Md := ([(0, (2, (0, (0, (0, []))))), (1, (41, (4, (119, (0, []))))), (3, (30, (72, (2, (6, [(0, 59)]))))), (6, (3, (1, (0, (0, []))))), (7, (1, (1, (0, (0, []))))), (8, (0, (0, (0, ((-1), []))))), (9, (19, (1, (11, (0, []))))), (12, (2, (0, (0, (0, []))))), (13, (0, (0, (0, (1, []))))), (14, (30, (67, (2, (6, [(0, 69)]))))), (17, (27, (1, (0, (0, []))))), (18, (2, (0, (0, (0, []))))), (19, (6, (5, (4, (0, [(0, 22)]))))), (22, (1, (1, (0, (0, []))))), (23, (0, (0, (0, (6, []))))), (25, (30, (74, (2, (0, [(1, 79)]))))), (28, (30, (32, (2, (5, [(0, 121)]))))), (31, (2, (0, (0, (0, []))))), (32, (30, (68, (1, (6, [(0, 47)]))))), (35, (0, (0, (0, (1, []))))), (36, (27, (1, (0, (0, [])))))], ([], 2))
set_option maxRecDepth 100000 in
noncomputable def m_X5_readTerms : m_Md := ([(0, (2, (0, (0, (0, []))))), (1, (30, (51, (1, (6, [(0, 125)]))))), (4, (3, (1, (0, (0, []))))), (5, (0, (0, (0, (0, []))))), (6, (3, (2, (0, (0, []))))), (7, (1, (1, (0, (0, []))))), (8, (18, (0, (22, (0, []))))), (11, (1, (2, (0, (0, []))))), (12, (2, (0, (0, (0, []))))), (13, (6, (5, (3, (0, [(0, 32)]))))), (16, (19, (3, (22, (0, []))))), (19, (2, (0, (0, (0, []))))), (20, (6, (5, (5, (0, [(0, 50)]))))), (23, (0, (0, (0, (44, []))))), (25, (19, (1, (22, (0, []))))), (28, (2, (0, (0, (0, []))))), (29, (30, (68, (1, (6, [(0, 47)]))))), (32, (2, (0, (0, (0, []))))), (33, (30, (51, (1, (6, [(0, 125)]))))), (36, (3, (1, (0, (0, []))))), (37, (5, (2, (0, (1, []))))), (40, (20, (0, (5, (0, []))))), (43, (1, (1, (0, (0, []))))), (44, (27, (1, (0, (0, [])))))], ([], 3))
set_option maxRecDepth 100000 in
noncomputable def m_X5_readTerm : m_Md := ([(0, (2, (0, (0, (0, []))))), (1, (0, (0, (0, (1, []))))), (2, (0, (0, (0, (3, []))))), (3, (30, (66, (3, (6, [(0, 128)]))))), (6, (18, (1, (7, (0, []))))), (9, (0, (0, (0, (0, []))))), (10, (27, (1, (0, (0, []))))), (11, (2, (0, (0, (0, []))))), (12, (6, (5, (4, (0, [(0, 22)]))))), (15, (0, (0, (0, (1, []))))), (16, (2, (0, (0, (0, []))))), (17, (6, (5, (8, (0, [(0, 132)]))))), (20, (17, (5, (0, (0, []))))), (21, (30, (32, (2, (5, [(0, 121)]))))), (24, (2, (0, (0, (0, []))))), (25, (30, (68, (1, (6, [(0, 47)]))))), (28, (0, (0, (0, (1, []))))), (29, (27, (1, (0, (0, [])))))], ([], 1))
set_option maxRecDepth 100000 in
noncomputable def m_X5_readEither : m_Md := ([(0, (2, (0, (0, (0, []))))), (1, (30, (53, (1, (6, [(0, 135)]))))), (4, (3, (1, (0, (0, []))))), (5, (0, (0, (0, (0, []))))), (6, (3, (2, (0, (0, []))))), (7, (1, (1, (0, (0, []))))), (8, (18, (0, (24, (0, []))))), (11, (1, (2, (0, (0, []))))), (12, (2, (0, (0, (0, []))))), (13, (6, (5, (3, (0, [(0, 32)]))))), (16, (19, (3, (24, (0, []))))), (19, (2, (0, (0, (0, []))))), (20, (41, (6, (138, (0, []))))), (22, (30, (65, (2, (6, [(0, 110)]))))), (25, (18, (0, (24, (0, []))))), (28, (2, (0, (0, (0, []))))), (29, (30, (53, (1, (6, [(0, 135)]))))), (32, (3, (1, (0, (0, []))))), (33, (2, (0, (0, (0, []))))), (34, (6, (5, (4, (0, [(0, 22)]))))), (37, (0, (0, (0, (124, []))))), (39, (30, (33, (2, (5, [(0, 140)]))))), (42, (5, (2, (0, (1, []))))), (45, (20, (0, (5, (0, []))))), (48, (1, (1, (0, (0, []))))), (49, (27, (1, (0, (0, [])))))], ([], 3))
set_option maxRecDepth 100000 in
noncomputable def m_X5_readBoth : m_Md := ([(0, (2, (0, (0, (0, []))))), (1, (30, (54, (1, (6, [(0, 143)]))))), (4, (3, (1, (0, (0, []))))), (5, (0, (0, (0, (0, []))))), (6, (3, (2, (0, (0, []))))), (7, (1, (1, (0, (0, []))))), (8, (18, (0, (24, (0, []))))), (11, (1, (2, (0, (0, []))))), (12, (2, (0, (0, (0, []))))), (13, (6, (5, (3, (0, [(0, 32)]))))), (16, (19, (3, (24, (0, []))))), (19, (2, (0, (0, (0, []))))), (20, (41, (7, (146, (0, []))))), (22, (30, (65, (2, (6, [(0, 110)]))))), (25, (18, (0, (24, (0, []))))), (28, (2, (0, (0, (0, []))))), (29, (30, (54, (1, (6, [(0, 143)]))))), (32, (3, (1, (0, (0, []))))), (33, (2, (0, (0, (0, []))))), (34, (6, (5, (4, (0, [(0, 22)]))))), (37, (0, (0, (0, (38, []))))), (39, (30, (33, (2, (5, [(0, 140)]))))), (42, (5, (2, (0, (1, []))))), (45, (20, (0, (5, (0, []))))), (48, (1, (1, (0, (0, []))))), (49, (27, (1, (0, (0, [])))))], ([], 3))
set_option maxRecDepth 100000 in
noncomputable def m_X5_readCondition : m_Md := ([(0, (2, (0, (0, (0, []))))), (1, (41, (8, (148, (0, []))))), (3, (30, (71, (2, (6, [(0, 65)]))))), (6, (18, (0, (7, (0, []))))), (9, (2, (0, (0, (0, []))))), (10, (30, (55, (1, (6, [(0, 150)]))))), (13, (27, (1, (0, (0, []))))), (14, (2, (0, (0, (0, []))))), (15, (6, (5, (5, (0, [(0, 50)]))))), (18, (0, (0, (0, (91, []))))), (20, (19, (1, (25, (0, []))))), (23, (2, (0, (0, (0, []))))), (24, (30, (62, (1, (6, [(0, 153)]))))), (27, (18, (0, (23, (0, []))))), (30, (2, (0, (0, (0, []))))), (31, (30, (52, (1, (6, [(0, 113)]))))), (34, (18, (0, (23, (0, []))))), (37, (2, (0, (0, (0, []))))), (38, (0, (0, (0, (93, []))))), (40, (30, (63, (2, (6, [(0, 156)]))))), (43, (18, (0, (23, (0, []))))), (46, (0, (0, (0, (1, []))))), (47, (20, (0, (24, (0, []))))), (50, (0, (0, (0, (0, []))))), (51, (27, (1, (0, (0, []))))), (52, (2, (0, (0, (0, []))))), (53, (30, (57, (1, (6, [(0, 99)]))))), (56, (18, (0, (33, (0, []))))), (59, (2, (0, (0, (0, []))))), (60, (30, (56, (1, (6, [(0, 159)]))))), (63, (18, (0, (33, (0, []))))), (66, (0, (0, (0, (1, []))))), (67, (20, (0, (34, (0, []))))), (70, (0, (0, (0, (0, []))))), (71, (27, (1, (0, (0, [])))))], ([], 1))
set_option maxRecDepth 100000 in
noncomputable def m_X5_readNot : m_Md := ([(0, (2, (0, (0, (0, []))))), (1, (30, (62, (1, (6, [(0, 153)]))))), (4, (18, (0, (6, (0, []))))), (7, (2, (0, (0, (0, []))))), (8, (30, (54, (1, (6, [(0, 143)]))))), (11, (18, (1, (8, (0, []))))), (14, (0, (0, (0, (0, []))))), (15, (27, (1, (0, (0, []))))), (16, (2, (0, (0, (0, []))))), (17, (22, (0, (0, (0, []))))), (18, (6, (5, (9, (0, [(0, 41)]))))), (21, (0, (0, (0, (1, []))))), (22, (17, (1, (0, (0, []))))), (23, (7, (5, (9, (0, [(0, 41)]))))), (26, (2, (0, (0, (0, []))))), (27, (6, (5, (4, (0, [(0, 22)]))))), (30, (0, (0, (0, (33, []))))), (32, (30, (33, (2, (5, [(0, 140)]))))), (35, (0, (0, (0, (1, []))))), (36, (27, (1, (0, (0, [])))))], ([], 1))
set_option maxRecDepth 100000 in
noncomputable def m_X5_readComparison : m_Md := ([(0, (2, (0, (0, (0, []))))), (1, (6, (5, (5, (0, [(0, 50)]))))), (4, (3, (1, (0, (0, []))))), (5, (1, (1, (0, (0, []))))), (6, (0, (0, (0, (60, []))))), (8, (19, (0, (16, (0, []))))), (11, (1, (1, (0, (0, []))))), (12, (0, (0, (0, (62, []))))), (14, (19, (0, (16, (0, []))))), (17, (1, (1, (0, (0, []))))), (18, (0, (0, (0, (61, []))))), (20, (19, (0, (16, (0, []))))), (23, (2, (0, (0, (0, []))))), (24, (0, (0, (0, (1, []))))), (25, (30, (67, (2, (6, [(0, 69)]))))), (28, (27, (1, (0, (0, []))))), (29, (2, (0, (0, (0, []))))), (30, (30, (68, (1, (6, [(0, 47)]))))), (33, (2, (0, (0, (0, []))))), (34, (30, (57, (1, (6, [(0, 99)]))))), (37, (3, (2, (0, (0, []))))), (38, (2, (0, (0, (0, []))))), (39, (6, (5, (4, (0, [(0, 22)]))))), (42, (1, (1, (0, (0, []))))), (43, (30, (33, (2, (5, [(0, 140)]))))), (46, (1, (2, (0, (0, []))))), (47, (27, (1, (0, (0, [])))))], ([], 3))
set_option maxRecDepth 100000 in
noncomputable def m_X5_readSum : m_Md := ([(0, (2, (0, (0, (0, []))))), (1, (30, (58, (1, (6, [(0, 162)]))))), (4, (3, (1, (0, (0, []))))), (5, (0, (0, (0, (0, []))))), (6, (3, (2, (0, (0, []))))), (7, (1, (1, (0, (0, []))))), (8, (18, (0, (33, (0, []))))), (11, (1, (2, (0, (0, []))))), (12, (2, (0, (0, (0, []))))), (13, (6, (5, (3, (0, [(0, 32)]))))), (16, (19, (3, (33, (0, []))))), (19, (2, (0, (0, (0, []))))), (20, (6, (5, (5, (0, [(0, 50)]))))), (23, (0, (0, (0, (43, []))))), (25, (19, (0, (19, (0, []))))), (28, (2, (0, (0, (0, []))))), (29, (6, (5, (5, (0, [(0, 50)]))))), (32, (0, (0, (0, (45, []))))), (34, (19, (1, (33, (0, []))))), (37, (2, (0, (0, (0, []))))), (38, (6, (5, (5, (0, [(0, 50)]))))), (41, (3, (3, (0, (0, []))))), (42, (2, (0, (0, (0, []))))), (43, (30, (68, (1, (6, [(0, 47)]))))), (46, (2, (0, (0, (0, []))))), (47, (30, (58, (1, (6, [(0, 162)]))))), (50, (3, (1, (0, (0, []))))), (51, (2, (0, (0, (0, []))))), (52, (6, (5, (4, (0, [(0, 22)]))))), (55, (1, (3, (0, (0, []))))), (56, (30, (33, (2, (5, [(0, 140)]))))), (59, (5, (2, (0, (1, []))))), (62, (20, (0, (5, (0, []))))), (65, (1, (1, (0, (0, []))))), (66, (27, (1, (0, (0, [])))))], ([], 4))
set_option maxRecDepth 100000 in
noncomputable def m_X5_readProduct : m_Md := ([(0, (2, (0, (0, (0, []))))), (1, (30, (59, (1, (6, [(0, 165)]))))), (4, (3, (1, (0, (0, []))))), (5, (0, (0, (0, (0, []))))), (6, (3, (2, (0, (0, []))))), (7, (1, (1, (0, (0, []))))), (8, (18, (0, (33, (0, []))))), (11, (1, (2, (0, (0, []))))), (12, (2, (0, (0, (0, []))))), (13, (6, (5, (3, (0, [(0, 32)]))))), (16, (19, (3, (33, (0, []))))), (19, (2, (0, (0, (0, []))))), (20, (6, (5, (5, (0, [(0, 50)]))))), (23, (0, (0, (0, (42, []))))), (25, (19, (0, (19, (0, []))))), (28, (2, (0, (0, (0, []))))), (29, (6, (5, (5, (0, [(0, 50)]))))), (32, (0, (0, (0, (47, []))))), (34, (19, (1, (33, (0, []))))), (37, (2, (0, (0, (0, []))))), (38, (6, (5, (5, (0, [(0, 50)]))))), (41, (3, (3, (0, (0, []))))), (42, (2, (0, (0, (0, []))))), (43, (30, (68, (1, (6, [(0, 47)]))))), (46, (2, (0, (0, (0, []))))), (47, (30, (59, (1, (6, [(0, 165)]))))), (50, (3, (1, (0, (0, []))))), (51, (2, (0, (0, (0, []))))), (52, (6, (5, (4, (0, [(0, 22)]))))), (55, (1, (3, (0, (0, []))))), (56, (30, (33, (2, (5, [(0, 140)]))))), (59, (5, (2, (0, (1, []))))), (62, (20, (0, (5, (0, []))))), (65, (1, (1, (0, (0, []))))), (66, (27, (1, (0, (0, [])))))], ([], 4))
set_option maxRecDepth 100000 in
noncomputable def m_X5_readUnit : m_Md := ([(0, (2, (0, (0, (0, []))))), (1, (6, (5, (5, (0, [(0, 50)]))))), (4, (0, (0, (0, (40, []))))), (6, (19, (1, (18, (0, []))))), (9, (2, (0, (0, (0, []))))), (10, (30, (62, (1, (6, [(0, 153)]))))), (13, (18, (0, (16, (0, []))))), (16, (2, (0, (0, (0, []))))), (17, (30, (57, (1, (6, [(0, 99)]))))), (20, (18, (0, (16, (0, []))))), (23, (2, (0, (0, (0, []))))), (24, (0, (0, (0, (41, []))))), (26, (30, (63, (2, (6, [(0, 156)]))))), (29, (18, (0, (16, (0, []))))), (32, (0, (0, (0, (1, []))))), (33, (20, (0, (17, (0, []))))), (36, (0, (0, (0, (0, []))))), (37, (27, (1, (0, (0, []))))), (38, (2, (0, (0, (0, []))))), (39, (6, (5, (5, (0, [(0, 50)]))))), (42, (0, (0, (0, (257, []))))), (45, (19, (1, (25, (0, []))))), (48, (2, (0, (0, (0, []))))), (49, (30, (60, (1, (6, [(0, 168)]))))), (52, (27, (1, (0, (0, []))))), (53, (2, (0, (0, (0, []))))), (54, (41, (9, (171, (0, []))))), (56, (30, (72, (2, (6, [(0, 59)]))))), (59, (3, (1, (0, (0, []))))), (60, (1, (1, (0, (0, []))))), (61, (0, (0, (0, ((-1), []))))), (62, (19, (0, (42, (0, []))))), (65, (2, (0, (0, (0, []))))), (66, (30, (68, (1, (6, [(0, 47)]))))), (69, (2, (0, (0, (0, []))))), (70, (1, (1, (0, (0, []))))), (71, (18, (1, (39, (0, []))))), (74, (0, (0, (0, (108, []))))), (76, (20, (0, (40, (0, []))))), (79, (0, (0, (0, (109, []))))), (81, (30, (61, (2, (6, [(0, 173)]))))), (84, (27, (1, (0, (0, []))))), (85, (2, (0, (0, (0, []))))), (86, (41, (10, (176, (0, []))))), (88, (30, (72, (2, (6, [(0, 59)]))))), (91, (3, (2, (0, (0, []))))), (92, (1, (2, (0, (0, []))))), (93, (0, (0, (0, ((-1), []))))), (94, (19, (1, (53, (0, []))))), (97, (2, (0, (0, (0, []))))), (98, (0, (0, (0, (1, []))))), (99, (30, (67, (2, (6, [(0, 69)]))))), (102, (27, (1, (0, (0, []))))), (103, (2, (0, (0, (0, []))))), (104, (6, (5, (4, (0, [(0, 22)]))))), (107, (1, (2, (0, (0, []))))), (108, (30, (33, (2, (5, [(0, 140)]))))), (111, (2, (0, (0, (0, []))))), (112, (30, (68, (1, (6, [(0, 47)]))))), (115, (0, (0, (0, (1, []))))), (116, (27, (1, (0, (0, [])))))], ([], 3))
set_option maxRecDepth 100000 in
noncomputable def m_X5_readNumber : m_Md := ([(0, (2, (0, (0, (0, []))))), (1, (0, (0, (0, (0, []))))), (2, (0, (0, (0, (9999, []))))), (5, (30, (66, (3, (6, [(0, 128)]))))), (8, (18, (1, (7, (0, []))))), (11, (0, (0, (0, (0, []))))), (12, (27, (1, (0, (0, []))))), (13, (2, (0, (0, (0, []))))), (14, (6, (5, (4, (0, [(0, 22)]))))), (17, (0, (0, (0, (256, []))))), (20, (2, (0, (0, (0, []))))), (21, (6, (5, (8, (0, [(0, 132)]))))), (24, (17, (0, (0, (0, []))))), (25, (30, (33, (2, (5, [(0, 140)]))))), (28, (2, (0, (0, (0, []))))), (29, (30, (68, (1, (6, [(0, 47)]))))), (32, (0, (0, (0, (1, []))))), (33, (27, (1, (0, (0, [])))))], ([], 1))
set_option maxRecDepth 100000 in
noncomputable def m_X5_readChoice : m_Md := ([(0, (2, (0, (0, (0, []))))), (1, (6, (5, (5, (0, [(0, 50)]))))), (4, (0, (0, (0, (40, []))))), (6, (19, (0, (8, (0, []))))), (9, (2, (0, (0, (0, []))))), (10, (0, (0, (0, (1, []))))), (11, (30, (67, (2, (6, [(0, 69)]))))), (14, (27, (1, (0, (0, []))))), (15, (2, (0, (0, (0, []))))), (16, (30, (62, (1, (6, [(0, 153)]))))), (19, (18, (0, (27, (0, []))))), (22, (2, (0, (0, (0, []))))), (23, (30, (57, (1, (6, [(0, 99)]))))), (26, (18, (0, (27, (0, []))))), (29, (2, (0, (0, (0, []))))), (30, (0, (0, (0, (44, []))))), (32, (30, (64, (2, (6, [(0, 85)]))))), (35, (18, (0, (27, (0, []))))), (38, (2, (0, (0, (0, []))))), (39, (30, (57, (1, (6, [(0, 99)]))))), (42, (18, (0, (27, (0, []))))), (45, (2, (0, (0, (0, []))))), (46, (0, (0, (0, (41, []))))), (48, (30, (63, (2, (6, [(0, 156)]))))), (51, (18, (0, (27, (0, []))))), (54, (0, (0, (0, (1, []))))), (55, (20, (0, (28, (0, []))))), (58, (0, (0, (0, (0, []))))), (59, (3, (2, (0, (0, []))))), (60, (2, (0, (0, (0, []))))), (61, (6, (5, (4, (0, [(0, 22)]))))), (64, (1, (1, (0, (0, []))))), (65, (30, (33, (2, (5, [(0, 140)]))))), (68, (1, (2, (0, (0, []))))), (69, (27, (1, (0, (0, [])))))], ([], 3))
set_option maxRecDepth 100000 in
noncomputable def m_X5_enter : m_Md := ([(0, (2, (0, (0, (0, []))))), (1, (6, (5, (9, (0, [(0, 41)]))))), (4, (0, (0, (0, (6, []))))), (6, (19, (2, (8, (0, []))))), (9, (2, (0, (0, (0, []))))), (10, (0, (0, (0, (3, []))))), (11, (30, (67, (2, (6, [(0, 69)]))))), (14, (27, (1, (0, (0, []))))), (15, (2, (0, (0, (0, []))))), (16, (22, (0, (0, (0, []))))), (17, (6, (5, (9, (0, [(0, 41)]))))), (20, (0, (0, (0, (1, []))))), (21, (17, (0, (0, (0, []))))), (22, (7, (5, (9, (0, [(0, 41)]))))), (25, (2, (0, (0, (0, []))))), (26, (30, (68, (1, (6, [(0, 47)]))))), (29, (0, (0, (0, (1, []))))), (30, (27, (1, (0, (0, [])))))], ([], 1))
set_option maxRecDepth 100000 in
noncomputable def m_X5_leave : m_Md := ([(0, (2, (0, (0, (0, []))))), (1, (6, (5, (5, (0, [(0, 50)]))))), (4, (1, (1, (0, (0, []))))), (5, (19, (0, (8, (0, []))))), (8, (2, (0, (0, (0, []))))), (9, (0, (0, (0, (1, []))))), (10, (30, (67, (2, (6, [(0, 69)]))))), (13, (27, (1, (0, (0, []))))), (14, (2, (0, (0, (0, []))))), (15, (22, (0, (0, (0, []))))), (16, (6, (5, (9, (0, [(0, 41)]))))), (19, (0, (0, (0, (1, []))))), (20, (17, (1, (0, (0, []))))), (21, (7, (5, (9, (0, [(0, 41)]))))), (24, (2, (0, (0, (0, []))))), (25, (30, (68, (1, (6, [(0, 47)]))))), (28, (0, (0, (0, (1, []))))), (29, (27, (1, (0, (0, [])))))], ([], 2))
set_option maxRecDepth 100000 in
noncomputable def m_X5_take : m_Md := ([(0, (2, (0, (0, (0, []))))), (1, (6, (5, (5, (0, [(0, 50)]))))), (4, (1, (1, (0, (0, []))))), (5, (19, (0, (8, (0, []))))), (8, (2, (0, (0, (0, []))))), (9, (0, (0, (0, (1, []))))), (10, (30, (67, (2, (6, [(0, 69)]))))), (13, (27, (1, (0, (0, []))))), (14, (2, (0, (0, (0, []))))), (15, (30, (68, (1, (6, [(0, 47)]))))), (18, (0, (0, (0, (1, []))))), (19, (27, (1, (0, (0, [])))))], ([], 2))
set_option maxRecDepth 100000 in
noncomputable def m_X5_takeWord : m_Md := ([(0, (2, (0, (0, (0, []))))), (1, (2, (1, (0, (0, []))))), (2, (30, (72, (2, (6, [(0, 59)]))))), (5, (18, (0, (6, (0, []))))), (8, (0, (0, (0, (0, []))))), (9, (27, (1, (0, (0, []))))), (10, (2, (0, (0, (0, []))))), (11, (30, (68, (1, (6, [(0, 47)]))))), (14, (0, (0, (0, (1, []))))), (15, (27, (1, (0, (0, [])))))], ([], 2))
set_option maxRecDepth 100000 in
noncomputable def m_X5_isNumber : m_Md := ([(0, (2, (0, (0, (0, []))))), (1, (6, (5, (5, (0, [(0, 50)]))))), (4, (0, (0, (0, (257, []))))), (7, (19, (0, (8, (0, []))))), (10, (2, (0, (0, (0, []))))), (11, (0, (0, (0, (1, []))))), (12, (30, (67, (2, (6, [(0, 69)]))))), (15, (27, (1, (0, (0, []))))), (16, (2, (0, (0, (0, []))))), (17, (6, (5, (8, (0, [(0, 132)]))))), (20, (1, (1, (0, (0, []))))), (21, (19, (2, (16, (0, []))))), (24, (2, (0, (0, (0, []))))), (25, (6, (5, (8, (0, [(0, 132)]))))), (28, (1, (2, (0, (0, []))))), (29, (19, (5, (20, (0, []))))), (32, (2, (0, (0, (0, []))))), (33, (0, (0, (0, (2, []))))), (34, (30, (67, (2, (6, [(0, 69)]))))), (37, (18, (0, (22, (0, []))))), (40, (0, (0, (0, (1, []))))), (41, (20, (0, (23, (0, []))))), (44, (0, (0, (0, (0, []))))), (45, (27, (1, (0, (0, [])))))], ([], 3))
set_option maxRecDepth 100000 in
noncomputable def m_X5_fail : m_Md := ([(0, (2, (0, (0, (0, []))))), (1, (1, (1, (0, (0, []))))), (2, (7, (5, (1, (0, [(0, 38)]))))), (5, (2, (0, (0, (0, []))))), (6, (2, (0, (0, (0, []))))), (7, (6, (5, (6, (0, [(0, 178)]))))), (10, (7, (5, (0, (0, [(0, 9)]))))), (13, (0, (0, (0, (0, []))))), (14, (27, (1, (0, (0, [])))))], ([], 2))
set_option maxRecDepth 100000 in
noncomputable def m_X5_nextToken : m_Md := ([(0, (2, (0, (0, (0, []))))), (1, (2, (0, (0, (0, []))))), (2, (6, (5, (7, (0, [(0, 44)]))))), (5, (7, (5, (6, (0, [(0, 178)]))))), (8, (2, (0, (0, (0, []))))), (9, (6, (5, (6, (0, [(0, 178)]))))), (12, (2, (0, (0, (0, []))))), (13, (6, (5, (3, (0, [(0, 32)]))))), (16, (19, (3, (23, (0, []))))), (19, (2, (0, (0, (0, []))))), (20, (6, (5, (2, (0, [(0, 15)]))))), (23, (2, (0, (0, (0, []))))), (24, (6, (5, (6, (0, [(0, 178)]))))), (27, (8, (0, (0, (0, []))))), (28, (0, (0, (0, (32, []))))), (30, (19, (1, (23, (0, []))))), (33, (2, (0, (0, (0, []))))), (34, (22, (0, (0, (0, []))))), (35, (6, (5, (6, (0, [(0, 178)]))))), (38, (0, (0, (0, (1, []))))), (39, (17, (0, (0, (0, []))))), (40, (7, (5, (6, (0, [(0, 178)]))))), (43, (20, (0, (4, (0, []))))), (46, (2, (0, (0, (0, []))))), (47, (2, (0, (0, (0, []))))), (48, (6, (5, (6, (0, [(0, 178)]))))), (51, (7, (5, (7, (0, [(0, 44)]))))), (54, (2, (0, (0, (0, []))))), (55, (6, (5, (6, (0, [(0, 178)]))))), (58, (2, (0, (0, (0, []))))), (59, (6, (5, (3, (0, [(0, 32)]))))), (62, (19, (2, (36, (0, []))))), (65, (2, (0, (0, (0, []))))), (66, (0, (0, (0, (258, []))))), (69, (7, (5, (5, (0, [(0, 50)]))))), (72, (20, (0, (126, (0, []))))), (75, (2, (0, (0, (0, []))))), (76, (6, (5, (2, (0, [(0, 15)]))))), (79, (2, (0, (0, (0, []))))), (80, (6, (5, (6, (0, [(0, 178)]))))), (83, (8, (0, (0, (0, []))))), (84, (30, (69, (1, (0, [(1, 181)]))))), (87, (18, (0, (65, (0, []))))), (90, (2, (0, (0, (0, []))))), (91, (0, (0, (0, (256, []))))), (94, (7, (5, (5, (0, [(0, 50)]))))), (97, (2, (0, (0, (0, []))))), (98, (6, (5, (7, (0, [(0, 44)]))))), (101, (2, (0, (0, (0, []))))), (102, (6, (5, (3, (0, [(0, 32)]))))), (105, (19, (3, (126, (0, []))))), (108, (2, (0, (0, (0, []))))), (109, (6, (5, (2, (0, [(0, 15)]))))), (112, (2, (0, (0, (0, []))))), (113, (6, (5, (7, (0, [(0, 44)]))))), (116, (8, (0, (0, (0, []))))), (117, (30, (69, (1, (0, [(1, 181)]))))), (120, (18, (0, (126, (0, []))))), (123, (2, (0, (0, (0, []))))), (124, (22, (0, (0, (0, []))))), (125, (6, (5, (7, (0, [(0, 44)]))))), (128, (0, (0, (0, (1, []))))), (129, (17, (0, (0, (0, []))))), (130, (7, (5, (7, (0, [(0, 44)]))))), (133, (20, (0, (46, (0, []))))), (136, (2, (0, (0, (0, []))))), (137, (6, (5, (2, (0, [(0, 15)]))))), (140, (2, (0, (0, (0, []))))), (141, (6, (5, (6, (0, [(0, 178)]))))), (144, (8, (0, (0, (0, []))))), (145, (30, (70, (1, (0, [(1, 184)]))))), (148, (18, (0, (113, (0, []))))), (151, (2, (0, (0, (0, []))))), (152, (0, (0, (0, (257, []))))), (155, (7, (5, (5, (0, [(0, 50)]))))), (158, (2, (0, (0, (0, []))))), (159, (0, (0, (0, (0, []))))), (160, (7, (5, (8, (0, [(0, 132)]))))), (163, (2, (0, (0, (0, []))))), (164, (6, (5, (7, (0, [(0, 44)]))))), (167, (2, (0, (0, (0, []))))), (168, (6, (5, (3, (0, [(0, 32)]))))), (171, (19, (3, (126, (0, []))))), (174, (2, (0, (0, (0, []))))), (175, (6, (5, (2, (0, [(0, 15)]))))), (178, (2, (0, (0, (0, []))))), (179, (6, (5, (7, (0, [(0, 44)]))))), (182, (8, (0, (0, (0, []))))), (183, (30, (70, (1, (0, [(1, 184)]))))), (186, (18, (0, (126, (0, []))))), (189, (2, (0, (0, (0, []))))), (190, (0, (0, (0, (10000, []))))), (193, (0, (0, (0, (10, []))))), (195, (2, (0, (0, (0, []))))), (196, (6, (5, (8, (0, [(0, 132)]))))), (199, (17, (2, (0, (0, []))))), (200, (2, (0, (0, (0, []))))), (201, (6, (5, (2, (0, [(0, 15)]))))), (204, (2, (0, (0, (0, []))))), (205, (6, (5, (7, (0, [(0, 44)]))))), (208, (8, (0, (0, (0, []))))), (209, (17, (0, (0, (0, []))))), (210, (0, (0, (0, (48, []))))), (212, (17, (1, (0, (0, []))))), (213, (31, (0, (0, (0, [(0, 26)]))))), (216, (7, (5, (8, (0, [(0, 132)]))))), (219, (2, (0, (0, (0, []))))), (220, (22, (0, (0, (0, []))))), (221, (6, (5, (7, (0, [(0, 44)]))))), (224, (0, (0, (0, (1, []))))), (225, (17, (0, (0, (0, []))))), (226, (7, (5, (7, (0, [(0, 44)]))))), (229, (20, (0, (78, (0, []))))), (232, (2, (0, (0, (0, []))))), (233, (2, (0, (0, (0, []))))), (234, (6, (5, (2, (0, [(0, 15)]))))), (237, (2, (0, (0, (0, []))))), (238, (6, (5, (6, (0, [(0, 178)]))))), (241, (8, (0, (0, (0, []))))), (242, (7, (5, (5, (0, [(0, 50)]))))), (245, (2, (0, (0, (0, []))))), (246, (22, (0, (0, (0, []))))), (247, (6, (5, (7, (0, [(0, 44)]))))), (250, (0, (0, (0, (1, []))))), (251, (17, (0, (0, (0, []))))), (252, (7, (5, (7, (0, [(0, 44)]))))), (255, (29, (0, (0, (0, [])))))], ([], 1))
set_option maxRecDepth 100000 in
noncomputable def m_X5_isLetter : m_Md := ([(0, (1, (0, (0, (0, []))))), (1, (0, (0, (0, (97, []))))), (3, (19, (2, (8, (0, []))))), (6, (1, (0, (0, (0, []))))), (7, (0, (0, (0, (122, []))))), (9, (19, (4, (8, (0, []))))), (12, (0, (0, (0, (1, []))))), (13, (20, (0, (9, (0, []))))), (16, (0, (0, (0, (0, []))))), (17, (27, (1, (0, (0, [])))))], ([], 1))
set_option maxRecDepth 100000 in
noncomputable def m_X5_isDigit : m_Md := ([(0, (1, (0, (0, (0, []))))), (1, (0, (0, (0, (48, []))))), (3, (19, (2, (8, (0, []))))), (6, (1, (0, (0, (0, []))))), (7, (0, (0, (0, (57, []))))), (9, (19, (4, (8, (0, []))))), (12, (0, (0, (0, (1, []))))), (13, (20, (0, (9, (0, []))))), (16, (0, (0, (0, (0, []))))), (17, (27, (1, (0, (0, [])))))], ([], 1))
set_option maxRecDepth 100000 in
noncomputable def m_X5_isWord : m_Md := ([(0, (2, (0, (0, (0, []))))), (1, (2, (1, (0, (0, []))))), (2, (30, (72, (2, (6, [(0, 59)]))))), (5, (18, (1, (6, (0, []))))), (8, (0, (0, (0, (1, []))))), (9, (20, (0, (7, (0, []))))), (12, (0, (0, (0, (0, []))))), (13, (27, (1, (0, (0, [])))))], ([], 2))
set_option maxRecDepth 100000 in
noncomputable def m_X5_wordOf : m_Md := ([(0, (2, (0, (0, (0, []))))), (1, (6, (5, (5, (0, [(0, 50)]))))), (4, (0, (0, (0, (256, []))))), (7, (19, (0, (6, (0, []))))), (10, (0, (0, (0, ((-1), []))))), (11, (27, (0, (0, (0, []))))), (12, (0, (0, (0, (0, []))))), (13, (3, (2, (0, (0, []))))), (14, (0, (0, (0, (0, []))))), (15, (3, (3, (0, (0, []))))), (16, (0, (0, (0, (0, []))))), (17, (3, (4, (0, (0, []))))), (19, (1, (4, (0, (0, []))))), (21, (2, (1, (0, (0, []))))), (22, (34, (0, (0, (0, [(0, 187)]))))), (25, (19, (4, (40, (0, []))))), (28, (1, (4, (0, (0, []))))), (30, (2, (1, (0, (0, []))))), (31, (34, (0, (0, (0, [(0, 187)]))))), (34, (19, (0, (25, (0, []))))), (37, (2, (1, (0, (0, []))))), (38, (1, (4, (0, (0, []))))), (40, (35, (0, (0, (0, [(0, 192)]))))), (43, (0, (0, (0, (32, []))))), (45, (19, (1, (38, (0, []))))), (48, (2, (0, (0, (0, []))))), (49, (2, (1, (0, (0, []))))), (50, (1, (3, (0, (0, []))))), (51, (1, (4, (0, (0, []))))), (53, (30, (73, (4, (6, [(0, 196)]))))), (56, (18, (0, (33, (0, []))))), (59, (1, (2, (0, (0, []))))), (60, (27, (0, (0, (0, []))))), (61, (5, (2, (0, (1, []))))), (64, (1, (4, (0, (0, []))))), (66, (0, (0, (0, (1, []))))), (67, (17, (0, (0, (0, []))))), (68, (3, (3, (0, (0, []))))), (69, (5, (4, (0, (1, []))))), (72, (20, (0, (12, (0, []))))), (75, (0, (0, (0, ((-1), []))))), (76, (27, (0, (0, (0, [])))))], ([], 5))
set_option maxRecDepth 100000 in
noncomputable def m_X5_isSame : m_Md := ([(0, (1, (3, (0, (0, []))))), (1, (1, (2, (0, (0, []))))), (2, (17, (1, (0, (0, []))))), (3, (2, (0, (0, (0, []))))), (4, (6, (5, (7, (0, [(0, 44)]))))), (7, (2, (0, (0, (0, []))))), (8, (6, (5, (6, (0, [(0, 178)]))))), (11, (17, (1, (0, (0, []))))), (12, (19, (0, (11, (0, []))))), (15, (0, (0, (0, (0, []))))), (16, (27, (1, (0, (0, []))))), (17, (1, (2, (0, (0, []))))), (18, (3, (4, (0, (0, []))))), (20, (1, (4, (0, (0, []))))), (22, (1, (3, (0, (0, []))))), (23, (19, (3, (33, (0, []))))), (26, (2, (1, (0, (0, []))))), (27, (1, (4, (0, (0, []))))), (29, (35, (0, (0, (0, [(0, 192)]))))), (32, (2, (0, (0, (0, []))))), (33, (6, (5, (2, (0, [(0, 15)]))))), (36, (2, (0, (0, (0, []))))), (37, (6, (5, (6, (0, [(0, 178)]))))), (40, (1, (4, (0, (0, []))))), (42, (17, (0, (0, (0, []))))), (43, (1, (2, (0, (0, []))))), (44, (17, (1, (0, (0, []))))), (45, (8, (0, (0, (0, []))))), (46, (19, (0, (31, (0, []))))), (49, (0, (0, (0, (0, []))))), (50, (27, (1, (0, (0, []))))), (51, (5, (4, (0, (1, []))))), (54, (20, (0, (13, (0, []))))), (57, (0, (0, (0, (1, []))))), (58, (27, (1, (0, (0, [])))))], ([], 5))
set_option maxRecDepth 100000 in
noncomputable def m_X5_bitsOf : m_Md := ([(0, (1, (0, (0, (0, []))))), (1, (1, (1, (0, (0, []))))), (2, (19, (1, (9, (0, []))))), (5, (0, (0, (0, (1, []))))), (6, (1, (1, (0, (0, []))))), (7, (17, (5, (0, (0, []))))), (8, (0, (0, (0, (1, []))))), (9, (17, (1, (0, (0, []))))), (10, (20, (0, (12, (0, []))))), (13, (0, (0, (0, (1, []))))), (14, (1, (0, (0, (0, []))))), (15, (17, (5, (0, (0, []))))), (16, (27, (0, (0, (0, [])))))], ([], 2))
set_option maxRecDepth 100000 in
noncomputable def m_X6_init : m_Md := ([(0, (2, (0, (0, (0, []))))), (1, (40, (0, (0, (0, [(0, 1)]))))), (4, (29, (0, (0, (0, [])))))], ([], 1))
set_option maxRecDepth 100000 in
noncomputable def m_X6_setTo : m_Md := ([(0, (2, (0, (0, (0, []))))), (1, (2, (1, (0, (0, []))))), (2, (6, (6, (0, (0, [(0, 7)]))))), (5, (7, (6, (0, (0, [(0, 7)]))))), (8, (2, (0, (0, (0, []))))), (9, (2, (1, (0, (0, []))))), (10, (6, (6, (1, (0, [(0, 13)]))))), (13, (7, (6, (1, (0, [(0, 13)]))))), (16, (2, (0, (0, (0, []))))), (17, (2, (1, (0, (0, []))))), (18, (6, (6, (2, (0, [(0, 16)]))))), (21, (7, (6, (2, (0, [(0, 16)]))))), (24, (29, (0, (0, (0, [])))))], ([], 2))
set_option maxRecDepth 100000 in
noncomputable def m_X7_init : m_Md := ([(0, (2, (0, (0, (0, []))))), (1, (40, (0, (0, (0, [(0, 3)]))))), (4, (2, (0, (0, (0, []))))), (5, (0, (0, (0, (500, []))))), (8, (38, (0, (0, (0, []))))), (10, (7, (7, (0, (2, [(0, 9)]))))), (13, (2, (0, (0, (0, []))))), (14, (0, (0, (0, (4, []))))), (15, (38, (5, (0, (0, [(0, 13)]))))), (18, (7, (7, (2, (2, [(0, 15)]))))), (21, (2, (0, (0, (0, []))))), (22, (37, (4, (0, (0, [(0, 13)]))))), (25, (22, (0, (0, (0, []))))), (26, (30, (28, (1, (0, [(5, 19)]))))), (29, (7, (7, (4, (2, [(0, 20)]))))), (32, (2, (0, (0, (0, []))))), (33, (37, (5, (0, (0, [(0, 24)]))))), (36, (22, (0, (0, (0, []))))), (37, (30, (43, (1, (0, [(5, 26)]))))), (40, (7, (7, (5, (2, [(0, 27)]))))), (43, (2, (0, (0, (0, []))))), (44, (0, (0, (0, ((-1), []))))), (45, (7, (7, (6, (0, [(0, 31)]))))), (48, (2, (0, (0, (0, []))))), (49, (0, (0, (0, (8, []))))), (51, (38, (0, (0, (0, []))))), (53, (7, (7, (7, (2, [(0, 35)]))))), (56, (2, (0, (0, (0, []))))), (57, (37, (0, (0, (0, [(0, 38)]))))), (60, (22, (0, (0, (0, []))))), (61, (30, (0, (1, (0, [(2, 40)]))))), (64, (7, (7, (8, (2, [(0, 41)]))))), (67, (2, (0, (0, (0, []))))), (68, (37, (0, (0, (0, [(0, 38)]))))), (71, (22, (0, (0, (0, []))))), (72, (30, (0, (1, (0, [(2, 40)]))))), (75, (7, (7, (9, (2, [(0, 45)]))))), (78, (2, (0, (0, (0, []))))), (79, (0, (0, (0, (3, []))))), (80, (38, (8, (0, (0, [(0, 38)]))))), (83, (7, (7, (10, (2, [(0, 48)]))))), (86, (2, (0, (0, (0, []))))), (87, (37, (1, (0, (0, [(0, 52)]))))), (90, (22, (0, (0, (0, []))))), (91, (30, (9, (1, (0, [(5, 54)]))))), (94, (7, (7, (12, (2, [(0, 55)]))))), (97, (2, (0, (0, (0, []))))), (98, (0, (0, (0, (3328, []))))), (101, (38, (0, (0, (0, []))))), (103, (7, (7, (13, (2, [(0, 59)]))))), (106, (0, (0, (0, (0, []))))), (107, (3, (1, (0, (0, []))))), (108, (1, (1, (0, (0, []))))), (109, (0, (0, (0, (4, []))))), (110, (19, (3, (64, (0, []))))), (113, (2, (0, (0, (0, []))))), (114, (6, (7, (2, (0, [(0, 15)]))))), (117, (1, (1, (0, (0, []))))), (118, (37, (4, (0, (0, [(0, 13)]))))), (121, (22, (0, (0, (0, []))))), (122, (30, (28, (1, (0, [(5, 19)]))))), (125, (13, (0, (0, (0, []))))), (126, (5, (1, (0, (1, []))))), (129, (20, (0, (52, (0, []))))), (132, (0, (0, (0, (0, []))))), (133, (3, (1, (0, (0, []))))), (134, (1, (1, (0, (0, []))))), (135, (0, (0, (0, (3, []))))), (136, (19, (3, (78, (0, []))))), (139, (2, (0, (0, (0, []))))), (140, (6, (7, (10, (0, [(0, 48)]))))), (143, (1, (1, (0, (0, []))))), (144, (37, (0, (0, (0, [(0, 38)]))))), (147, (22, (0, (0, (0, []))))), (148, (30, (0, (1, (0, [(2, 40)]))))), (151, (13, (0, (0, (0, []))))), (152, (5, (1, (0, (1, []))))), (155, (20, (0, (66, (0, []))))), (158, (29, (0, (0, (0, [])))))], ([], 2))
set_option maxRecDepth 100000 in
noncomputable def m_X7_feed : m_Md := ([(0, (2, (0, (0, (0, []))))), (1, (6, (7, (1, (0, [(0, 62)]))))), (4, (0, (0, (0, (20, []))))), (6, (17, (0, (0, (0, []))))), (7, (0, (0, (0, (500, []))))), (10, (19, (5, (8, (0, []))))), (13, (0, (0, (0, ((-1), []))))), (14, (27, (0, (0, (0, []))))), (15, (2, (0, (0, (0, []))))), (16, (1, (1, (0, (0, []))))), (17, (30, (121, (2, (8, [(0, 65)]))))), (20, (2, (0, (0, (0, []))))), (21, (1, (2, (0, (0, []))))), (22, (30, (121, (2, (8, [(0, 65)]))))), (25, (2, (0, (0, (0, []))))), (26, (1, (3, (0, (0, []))))), (27, (30, (121, (2, (8, [(0, 65)]))))), (30, (2, (0, (0, (0, []))))), (31, (1, (4, (0, (0, []))))), (33, (30, (121, (2, (8, [(0, 65)]))))), (36, (2, (0, (0, (0, []))))), (37, (1, (5, (0, (0, []))))), (39, (30, (121, (2, (8, [(0, 65)]))))), (42, (2, (0, (0, (0, []))))), (43, (6, (7, (1, (0, [(0, 62)]))))), (46, (27, (0, (0, (0, [])))))], ([], 6))
set_option maxRecDepth 100000 in
noncomputable def m_X7_law : m_Md := ([(0, (1, (1, (0, (0, []))))), (1, (2, (0, (0, (0, []))))), (2, (6, (7, (1, (0, [(0, 62)]))))), (5, (30, (118, (2, (0, [(1, 69)]))))), (8, (30, (116, (1, (0, [(1, 73)]))))), (11, (2, (0, (0, (0, []))))), (12, (0, (0, (0, (0, []))))), (13, (7, (7, (1, (0, [(0, 62)]))))), (16, (2, (0, (0, (0, []))))), (17, (0, (0, (0, ((-1), []))))), (18, (7, (7, (6, (0, [(0, 31)]))))), (21, (2, (0, (0, (0, []))))), (22, (6, (7, (3, (0, [(0, 77)]))))), (25, (0, (0, (0, (4, []))))), (26, (19, (2, (17, (0, []))))), (29, (0, (0, (0, ((-1), []))))), (30, (27, (0, (0, (0, []))))), (31, (2, (0, (0, (0, []))))), (32, (6, (7, (5, (0, [(0, 27)]))))), (35, (2, (0, (0, (0, []))))), (36, (6, (7, (0, (0, [(0, 9)]))))), (39, (1, (1, (0, (0, []))))), (40, (2, (0, (0, (0, []))))), (41, (6, (7, (2, (0, [(0, 15)]))))), (44, (2, (0, (0, (0, []))))), (45, (6, (7, (3, (0, [(0, 77)]))))), (48, (12, (0, (0, (0, []))))), (49, (30, (44, (4, (6, [(0, 80)]))))), (52, (3, (2, (0, (0, []))))), (53, (1, (2, (0, (0, []))))), (54, (18, (0, (40, (0, []))))), (57, (2, (0, (0, (0, []))))), (58, (2, (0, (0, (0, []))))), (59, (6, (7, (5, (0, [(0, 27)]))))), (62, (6, (5, (0, (0, [(0, 84)]))))), (65, (7, (7, (6, (0, [(0, 31)]))))), (68, (1, (2, (0, (0, []))))), (69, (0, (0, (0, (10, []))))), (71, (17, (1, (0, (0, []))))), (72, (27, (0, (0, (0, []))))), (73, (2, (0, (0, (0, []))))), (74, (22, (0, (0, (0, []))))), (75, (6, (7, (3, (0, [(0, 77)]))))), (78, (0, (0, (0, (1, []))))), (79, (17, (0, (0, (0, []))))), (80, (7, (7, (3, (0, [(0, 77)]))))), (83, (2, (0, (0, (0, []))))), (84, (6, (7, (3, (0, [(0, 77)]))))), (87, (0, (0, (0, (1, []))))), (88, (17, (1, (0, (0, []))))), (89, (27, (0, (0, (0, [])))))], ([], 3))
set_option maxRecDepth 100000 in
noncomputable def m_X7_fault : m_Md := ([(0, (2, (0, (0, (0, []))))), (1, (6, (7, (6, (0, [(0, 31)]))))), (4, (27, (0, (0, (0, [])))))], ([], 1))
set_option maxRecDepth 100000 in
noncomputable def m_X7_force : m_Md := ([(0, (1, (1, (0, (0, []))))), (1, (0, (0, (0, ((-1), []))))), (2, (19, (0, (7, (0, []))))), (5, (2, (0, (0, (0, []))))), (6, (1, (1, (0, (0, []))))), (7, (30, (119, (2, (8, [(0, 87)]))))), (10, (18, (0, (9, (0, []))))), (13, (0, (0, (0, (1, []))))), (14, (20, (0, (10, (0, []))))), (17, (0, (0, (0, (0, []))))), (18, (30, (116, (1, (0, [(1, 73)]))))), (21, (2, (0, (0, (0, []))))), (22, (6, (7, (8, (0, [(0, 41)]))))), (25, (6, (0, (5, (0, [(0, 91)]))))), (28, (3, (2, (0, (0, []))))), (29, (2, (0, (0, (0, []))))), (30, (6, (7, (8, (0, [(0, 41)]))))), (33, (1, (1, (0, (0, []))))), (34, (7, (0, (5, (0, [(0, 91)]))))), (37, (1, (2, (0, (0, []))))), (38, (27, (0, (0, (0, [])))))], ([], 3))
set_option maxRecDepth 100000 in
noncomputable def m_X7_words : m_Md := ([(0, (2, (0, (0, (0, []))))), (1, (1, (1, (0, (0, []))))), (2, (30, (119, (2, (8, [(0, 87)]))))), (5, (18, (0, (14, (0, []))))), (8, (1, (2, (0, (0, []))))), (9, (0, (0, (0, (1151, []))))), (12, (30, (118, (2, (0, [(1, 69)]))))), (15, (18, (0, (14, (0, []))))), (18, (1, (3, (0, (0, []))))), (19, (0, (0, (0, (3, []))))), (20, (30, (118, (2, (0, [(1, 69)]))))), (23, (18, (0, (14, (0, []))))), (26, (0, (0, (0, (1, []))))), (27, (20, (0, (15, (0, []))))), (30, (0, (0, (0, (0, []))))), (31, (30, (116, (1, (0, [(1, 73)]))))), (34, (1, (4, (0, (0, []))))), (36, (0, (0, (0, (9999, []))))), (39, (30, (118, (2, (0, [(1, 69)]))))), (42, (18, (0, (30, (0, []))))), (45, (1, (5, (0, (0, []))))), (47, (0, (0, (0, (9999, []))))), (50, (30, (118, (2, (0, [(1, 69)]))))), (53, (18, (0, (30, (0, []))))), (56, (1, (6, (0, (0, []))))), (58, (0, (0, (0, (2, []))))), (59, (30, (118, (2, (0, [(1, 69)]))))), (62, (18, (0, (30, (0, []))))), (65, (0, (0, (0, (1, []))))), (66, (20, (0, (31, (0, []))))), (69, (0, (0, (0, (0, []))))), (70, (30, (116, (1, (0, [(1, 73)]))))), (73, (2, (0, (0, (0, []))))), (74, (1, (2, (0, (0, []))))), (75, (1, (3, (0, (0, []))))), (76, (1, (4, (0, (0, []))))), (78, (1, (5, (0, (0, []))))), (80, (30, (124, (5, (8, [(0, 94)]))))), (83, (1, (2, (0, (0, []))))), (84, (30, (122, (1, (0, [(1, 98)]))))), (87, (3, (7, (0, (0, []))))), (89, (1, (6, (0, (0, []))))), (91, (0, (0, (0, (2, []))))), (92, (19, (1, (53, (0, []))))), (95, (2, (0, (0, (0, []))))), (96, (6, (7, (2, (0, [(0, 15)]))))), (99, (1, (1, (0, (0, []))))), (100, (12, (0, (0, (0, []))))), (101, (1, (7, (0, (0, []))))), (103, (2, (0, (0, (0, []))))), (104, (6, (7, (7, (0, [(0, 35)]))))), (107, (30, (35, (3, (5, [(0, 102)]))))), (110, (27, (0, (0, (0, []))))), (111, (1, (6, (0, (0, []))))), (113, (18, (1, (57, (0, []))))), (116, (0, (0, (0, (0, []))))), (117, (20, (0, (58, (0, []))))), (120, (0, (0, (0, (1, []))))), (121, (3, (8, (0, (0, []))))), (123, (2, (0, (0, (0, []))))), (124, (6, (7, (2, (0, [(0, 15)]))))), (127, (1, (1, (0, (0, []))))), (128, (12, (0, (0, (0, []))))), (129, (1, (8, (0, (0, []))))), (131, (1, (7, (0, (0, []))))), (133, (1, (2, (0, (0, []))))), (134, (30, (123, (1, (0, [(1, 106)]))))), (137, (2, (0, (0, (0, []))))), (138, (6, (7, (7, (0, [(0, 35)]))))), (141, (30, (34, (5, (5, [(0, 109)]))))), (144, (18, (0, (73, (0, []))))), (147, (0, (0, (0, (1, []))))), (148, (20, (0, (74, (0, []))))), (151, (0, (0, (0, (0, []))))), (152, (27, (0, (0, (0, [])))))], ([], 9))
set_option maxRecDepth 100000 in
noncomputable def m_X7_lets : m_Md := ([(0, (2, (0, (0, (0, []))))), (1, (1, (1, (0, (0, []))))), (2, (30, (119, (2, (8, [(0, 87)]))))), (5, (18, (0, (14, (0, []))))), (8, (1, (2, (0, (0, []))))), (9, (0, (0, (0, (5, []))))), (10, (30, (118, (2, (0, [(1, 69)]))))), (13, (18, (0, (14, (0, []))))), (16, (1, (3, (0, (0, []))))), (17, (0, (0, (0, (3, []))))), (18, (30, (118, (2, (0, [(1, 69)]))))), (21, (18, (0, (14, (0, []))))), (24, (0, (0, (0, (1, []))))), (25, (20, (0, (15, (0, []))))), (28, (0, (0, (0, (0, []))))), (29, (30, (116, (1, (0, [(1, 73)]))))), (32, (1, (3, (0, (0, []))))), (33, (18, (1, (25, (0, []))))), (36, (2, (0, (0, (0, []))))), (37, (6, (7, (2, (0, [(0, 15)]))))), (40, (1, (1, (0, (0, []))))), (41, (12, (0, (0, (0, []))))), (42, (1, (2, (0, (0, []))))), (43, (30, (38, (2, (5, [(0, 113)]))))), (46, (20, (0, (32, (0, []))))), (49, (2, (0, (0, (0, []))))), (50, (6, (7, (2, (0, [(0, 15)]))))), (53, (1, (1, (0, (0, []))))), (54, (12, (0, (0, (0, []))))), (55, (1, (2, (0, (0, []))))), (56, (1, (3, (0, (0, []))))), (57, (30, (37, (3, (5, [(0, 116)]))))), (60, (27, (1, (0, (0, [])))))], ([], 4))
set_option maxRecDepth 100000 in
noncomputable def m_X7_pass : m_Md := ([(0, (1, (1, (0, (0, []))))), (1, (0, (0, (0, (5, []))))), (2, (30, (118, (2, (0, [(1, 69)]))))), (5, (18, (0, (10, (0, []))))), (8, (1, (2, (0, (0, []))))), (9, (0, (0, (0, (999, []))))), (12, (30, (118, (2, (0, [(1, 69)]))))), (15, (18, (0, (10, (0, []))))), (18, (0, (0, (0, (1, []))))), (19, (20, (0, (11, (0, []))))), (22, (0, (0, (0, (0, []))))), (23, (30, (116, (1, (0, [(1, 73)]))))), (26, (1, (3, (0, (0, []))))), (27, (0, (0, (0, (999, []))))), (30, (30, (118, (2, (0, [(1, 69)]))))), (33, (18, (0, (22, (0, []))))), (36, (1, (4, (0, (0, []))))), (38, (0, (0, (0, (3, []))))), (39, (30, (118, (2, (0, [(1, 69)]))))), (42, (18, (0, (22, (0, []))))), (45, (0, (0, (0, (1, []))))), (46, (20, (0, (23, (0, []))))), (49, (0, (0, (0, (0, []))))), (50, (30, (116, (1, (0, [(1, 73)]))))), (53, (2, (0, (0, (0, []))))), (54, (6, (7, (8, (0, [(0, 41)]))))), (57, (6, (0, (1, (0, [(0, 119)]))))), (60, (0, (0, (0, (13, []))))), (62, (19, (2, (31, (0, []))))), (65, (0, (0, (0, ((-1), []))))), (66, (27, (0, (0, (0, []))))), (67, (1, (2, (0, (0, []))))), (68, (2, (0, (0, (0, []))))), (69, (6, (7, (8, (0, [(0, 41)]))))), (72, (6, (0, (0, (0, [(0, 122)]))))), (75, (2, (0, (0, (0, []))))), (76, (6, (7, (8, (0, [(0, 41)]))))), (79, (6, (0, (1, (0, [(0, 119)]))))), (82, (0, (0, (0, (1, []))))), (83, (17, (1, (0, (0, []))))), (84, (12, (0, (0, (0, []))))), (85, (6, (3, (1, (0, [(0, 126)]))))), (88, (19, (3, (45, (0, []))))), (91, (0, (0, (0, ((-2), []))))), (93, (27, (0, (0, (0, []))))), (94, (2, (0, (0, (0, []))))), (95, (6, (7, (8, (0, [(0, 41)]))))), (98, (6, (0, (0, (0, [(0, 122)]))))), (101, (2, (0, (0, (0, []))))), (102, (6, (7, (8, (0, [(0, 41)]))))), (105, (6, (0, (1, (0, [(0, 119)]))))), (108, (12, (0, (0, (0, []))))), (109, (4, (6, (0, (0, []))))), (111, (2, (6, (0, (0, []))))), (113, (30, (23, (1, (4, [(0, 131)]))))), (116, (2, (6, (0, (0, []))))), (118, (1, (1, (0, (0, []))))), (119, (7, (3, (0, (0, [(0, 134)]))))), (122, (2, (6, (0, (0, []))))), (124, (1, (2, (0, (0, []))))), (125, (7, (3, (1, (0, [(0, 126)]))))), (128, (2, (6, (0, (0, []))))), (130, (1, (3, (0, (0, []))))), (131, (7, (3, (2, (0, [(0, 137)]))))), (134, (2, (6, (0, (0, []))))), (136, (1, (4, (0, (0, []))))), (138, (7, (3, (3, (0, [(0, 140)]))))), (141, (2, (6, (0, (0, []))))), (143, (1, (5, (0, (0, []))))), (145, (18, (0, (72, (0, []))))), (148, (0, (0, (0, (1, []))))), (149, (20, (0, (73, (0, []))))), (152, (0, (0, (0, (0, []))))), (153, (7, (3, (4, (0, [(0, 143)]))))), (156, (2, (0, (0, (0, []))))), (157, (6, (7, (8, (0, [(0, 41)]))))), (160, (22, (0, (0, (0, []))))), (161, (6, (0, (1, (0, [(0, 119)]))))), (164, (0, (0, (0, (1, []))))), (165, (17, (0, (0, (0, []))))), (166, (7, (0, (1, (0, [(0, 119)]))))), (169, (2, (0, (0, (0, []))))), (170, (6, (7, (8, (0, [(0, 41)]))))), (173, (6, (0, (1, (0, [(0, 119)]))))), (176, (0, (0, (0, (1, []))))), (177, (17, (1, (0, (0, []))))), (178, (27, (0, (0, (0, [])))))], ([], 7))
set_option maxRecDepth 100000 in
noncomputable def m_X7_hand : m_Md := ([(0, (2, (0, (0, (0, []))))), (1, (1, (1, (0, (0, []))))), (2, (30, (117, (2, (8, [(0, 146)]))))), (5, (1, (2, (0, (0, []))))), (6, (0, (0, (0, (5, []))))), (7, (30, (118, (2, (0, [(1, 69)]))))), (10, (30, (116, (1, (0, [(1, 73)]))))), (13, (2, (0, (0, (0, []))))), (14, (6, (7, (8, (0, [(0, 41)]))))), (17, (6, (0, (0, (0, [(0, 122)]))))), (20, (1, (1, (0, (0, []))))), (21, (12, (0, (0, (0, []))))), (22, (1, (2, (0, (0, []))))), (23, (30, (25, (2, (4, [(0, 149)]))))), (26, (27, (0, (0, (0, [])))))], ([], 3))
set_option maxRecDepth 100000 in
noncomputable def m_X7_value : m_Md := ([(0, (1, (1, (0, (0, []))))), (1, (0, (0, (0, (9999, []))))), (4, (30, (118, (2, (0, [(1, 69)]))))), (7, (30, (116, (1, (0, [(1, 73)]))))), (10, (2, (0, (0, (0, []))))), (11, (6, (7, (8, (0, [(0, 41)]))))), (14, (6, (0, (2, (0, [(0, 152)]))))), (17, (3, (2, (0, (0, []))))), (18, (2, (0, (0, (0, []))))), (19, (6, (7, (8, (0, [(0, 41)]))))), (22, (1, (1, (0, (0, []))))), (23, (7, (0, (2, (0, [(0, 152)]))))), (26, (1, (2, (0, (0, []))))), (27, (27, (0, (0, (0, [])))))], ([], 3))
set_option maxRecDepth 100000 in
noncomputable def m_X7_purse : m_Md := ([(0, (2, (0, (0, (0, []))))), (1, (1, (1, (0, (0, []))))), (2, (30, (117, (2, (8, [(0, 146)]))))), (5, (1, (2, (0, (0, []))))), (6, (0, (0, (0, (9999, []))))), (9, (30, (118, (2, (0, [(1, 69)]))))), (12, (30, (116, (1, (0, [(1, 73)]))))), (15, (2, (0, (0, (0, []))))), (16, (6, (7, (8, (0, [(0, 41)]))))), (19, (6, (0, (0, (0, [(0, 122)]))))), (22, (1, (1, (0, (0, []))))), (23, (12, (0, (0, (0, []))))), (24, (6, (3, (5, (0, [(0, 155)]))))), (27, (3, (3, (0, (0, []))))), (28, (2, (0, (0, (0, []))))), (29, (6, (7, (8, (0, [(0, 41)]))))), (32, (6, (0, (0, (0, [(0, 122)]))))), (35, (1, (1, (0, (0, []))))), (36, (12, (0, (0, (0, []))))), (37, (1, (2, (0, (0, []))))), (38, (7, (3, (5, (0, [(0, 155)]))))), (41, (1, (3, (0, (0, []))))), (42, (27, (0, (0, (0, [])))))], ([], 4))
set_option maxRecDepth 100000 in
noncomputable def m_X7_fact : m_Md := ([(0, (2, (0, (0, (0, []))))), (1, (1, (1, (0, (0, []))))), (2, (30, (117, (2, (8, [(0, 146)]))))), (5, (1, (2, (0, (0, []))))), (6, (0, (0, (0, (3, []))))), (7, (30, (118, (2, (0, [(1, 69)]))))), (10, (30, (116, (1, (0, [(1, 73)]))))), (13, (2, (0, (0, (0, []))))), (14, (6, (7, (8, (0, [(0, 41)]))))), (17, (6, (0, (0, (0, [(0, 122)]))))), (20, (1, (1, (0, (0, []))))), (21, (12, (0, (0, (0, []))))), (22, (1, (2, (0, (0, []))))), (23, (30, (26, (2, (4, [(0, 158)]))))), (26, (3, (4, (0, (0, []))))), (28, (2, (0, (0, (0, []))))), (29, (6, (7, (8, (0, [(0, 41)]))))), (32, (6, (0, (0, (0, [(0, 122)]))))), (35, (1, (1, (0, (0, []))))), (36, (12, (0, (0, (0, []))))), (37, (1, (2, (0, (0, []))))), (38, (1, (3, (0, (0, []))))), (39, (30, (27, (3, (4, [(0, 161)]))))), (42, (1, (4, (0, (0, []))))), (44, (27, (1, (0, (0, [])))))], ([], 5))
set_option maxRecDepth 100000 in
noncomputable def m_X7_harm : m_Md := ([(0, (1, (1, (0, (0, []))))), (1, (0, (0, (0, ((-1), []))))), (2, (19, (0, (7, (0, []))))), (5, (1, (1, (0, (0, []))))), (6, (0, (0, (0, (5, []))))), (7, (30, (118, (2, (0, [(1, 69)]))))), (10, (18, (0, (9, (0, []))))), (13, (0, (0, (0, (1, []))))), (14, (20, (0, (10, (0, []))))), (17, (0, (0, (0, (0, []))))), (18, (30, (116, (1, (0, [(1, 73)]))))), (21, (1, (2, (0, (0, []))))), (22, (0, (0, (0, (999, []))))), (25, (30, (118, (2, (0, [(1, 69)]))))), (28, (30, (116, (1, (0, [(1, 73)]))))), (31, (2, (0, (0, (0, []))))), (32, (6, (7, (8, (0, [(0, 41)]))))), (35, (6, (0, (3, (0, [(0, 165)]))))), (38, (3, (3, (0, (0, []))))), (39, (2, (0, (0, (0, []))))), (40, (6, (7, (8, (0, [(0, 41)]))))), (43, (1, (1, (0, (0, []))))), (44, (7, (0, (3, (0, [(0, 165)]))))), (47, (2, (0, (0, (0, []))))), (48, (6, (7, (8, (0, [(0, 41)]))))), (51, (1, (2, (0, (0, []))))), (52, (7, (0, (4, (0, [(0, 168)]))))), (55, (1, (3, (0, (0, []))))), (56, (27, (0, (0, (0, [])))))], ([], 4))
set_option maxRecDepth 100000 in
noncomputable def m_X7_holder : m_Md := ([(0, (2, (0, (0, (0, []))))), (1, (6, (7, (8, (0, [(0, 41)]))))), (4, (30, (2, (1, (1, [(0, 171)]))))), (7, (27, (0, (0, (0, [])))))], ([], 1))
set_option maxRecDepth 100000 in
noncomputable def m_X7_name : m_Md := ([(0, (2, (0, (0, (0, []))))), (1, (1, (1, (0, (0, []))))), (2, (30, (117, (2, (8, [(0, 146)]))))), (5, (1, (2, (0, (0, []))))), (6, (0, (0, (0, (7, []))))), (8, (30, (118, (2, (0, [(1, 69)]))))), (11, (30, (116, (1, (0, [(1, 73)]))))), (14, (2, (0, (0, (0, []))))), (15, (6, (7, (8, (0, [(0, 41)]))))), (18, (30, (2, (1, (1, [(0, 171)]))))), (21, (3, (3, (0, (0, []))))), (22, (1, (1, (0, (0, []))))), (23, (0, (0, (0, (1, []))))), (24, (19, (2, (17, (0, []))))), (27, (1, (1, (0, (0, []))))), (28, (1, (3, (0, (0, []))))), (29, (19, (5, (19, (0, []))))), (32, (0, (0, (0, ((-1), []))))), (33, (27, (0, (0, (0, []))))), (34, (2, (0, (0, (0, []))))), (35, (6, (7, (8, (0, [(0, 41)]))))), (38, (1, (1, (0, (0, []))))), (39, (1, (3, (0, (0, []))))), (40, (2, (0, (0, (0, []))))), (41, (30, (120, (1, (8, [(0, 175)]))))), (44, (2, (0, (0, (0, []))))), (45, (6, (7, (7, (0, [(0, 35)]))))), (48, (30, (4, (5, (1, [(0, 179)]))))), (51, (2, (0, (0, (0, []))))), (52, (6, (7, (7, (0, [(0, 35)]))))), (55, (1, (2, (0, (0, []))))), (56, (8, (0, (0, (0, []))))), (57, (27, (0, (0, (0, [])))))], ([], 4))
set_option maxRecDepth 100000 in
noncomputable def m_X7_claim : m_Md := ([(0, (2, (0, (0, (0, []))))), (1, (1, (1, (0, (0, []))))), (2, (30, (117, (2, (8, [(0, 146)]))))), (5, (2, (0, (0, (0, []))))), (6, (6, (7, (12, (0, [(0, 55)]))))), (9, (2, (0, (0, (0, []))))), (10, (6, (7, (8, (0, [(0, 41)]))))), (13, (2, (0, (0, (0, []))))), (14, (30, (120, (1, (8, [(0, 175)]))))), (17, (30, (10, (3, (2, [(0, 183)]))))), (20, (2, (0, (0, (0, []))))), (21, (6, (7, (12, (0, [(0, 55)]))))), (24, (6, (1, (0, (0, [(0, 187)]))))), (27, (1, (1, (0, (0, []))))), (28, (8, (0, (0, (0, []))))), (29, (27, (0, (0, (0, [])))))], ([], 2))
set_option maxRecDepth 100000 in
noncomputable def m_X7_whom : m_Md := ([(0, (2, (0, (0, (0, []))))), (1, (1, (1, (0, (0, []))))), (2, (30, (117, (2, (8, [(0, 146)]))))), (5, (2, (0, (0, (0, []))))), (6, (6, (7, (12, (0, [(0, 55)]))))), (9, (2, (0, (0, (0, []))))), (10, (6, (7, (8, (0, [(0, 41)]))))), (13, (2, (0, (0, (0, []))))), (14, (30, (120, (1, (8, [(0, 175)]))))), (17, (30, (10, (3, (2, [(0, 183)]))))), (20, (2, (0, (0, (0, []))))), (21, (6, (7, (12, (0, [(0, 55)]))))), (24, (6, (1, (1, (0, [(0, 190)]))))), (27, (1, (1, (0, (0, []))))), (28, (8, (0, (0, (0, []))))), (29, (27, (0, (0, (0, [])))))], ([], 2))
set_option maxRecDepth 100000 in
noncomputable def m_X7_pays : m_Md := ([(0, (2, (0, (0, (0, []))))), (1, (1, (1, (0, (0, []))))), (2, (30, (117, (2, (8, [(0, 146)]))))), (5, (2, (0, (0, (0, []))))), (6, (6, (7, (12, (0, [(0, 55)]))))), (9, (2, (0, (0, (0, []))))), (10, (6, (7, (8, (0, [(0, 41)]))))), (13, (2, (0, (0, (0, []))))), (14, (30, (120, (1, (8, [(0, 175)]))))), (17, (30, (10, (3, (2, [(0, 183)]))))), (20, (2, (0, (0, (0, []))))), (21, (6, (7, (12, (0, [(0, 55)]))))), (24, (6, (1, (2, (0, [(0, 193)]))))), (27, (1, (1, (0, (0, []))))), (28, (8, (0, (0, (0, []))))), (29, (27, (0, (0, (0, [])))))], ([], 2))
set_option maxRecDepth 100000 in
noncomputable def m_X7_bears : m_Md := ([(0, (2, (0, (0, (0, []))))), (1, (1, (1, (0, (0, []))))), (2, (30, (117, (2, (8, [(0, 146)]))))), (5, (2, (0, (0, (0, []))))), (6, (6, (7, (12, (0, [(0, 55)]))))), (9, (2, (0, (0, (0, []))))), (10, (6, (7, (8, (0, [(0, 41)]))))), (13, (2, (0, (0, (0, []))))), (14, (30, (120, (1, (8, [(0, 175)]))))), (17, (30, (10, (3, (2, [(0, 183)]))))), (20, (2, (0, (0, (0, []))))), (21, (6, (7, (12, (0, [(0, 55)]))))), (24, (6, (1, (3, (0, [(0, 196)]))))), (27, (1, (1, (0, (0, []))))), (28, (8, (0, (0, (0, []))))), (29, (27, (0, (0, (0, [])))))], ([], 2))
set_option maxRecDepth 100000 in
noncomputable def m_X7_must : m_Md := ([(0, (2, (0, (0, (0, []))))), (1, (1, (1, (0, (0, []))))), (2, (30, (117, (2, (8, [(0, 146)]))))), (5, (2, (0, (0, (0, []))))), (6, (6, (7, (12, (0, [(0, 55)]))))), (9, (2, (0, (0, (0, []))))), (10, (6, (7, (8, (0, [(0, 41)]))))), (13, (2, (0, (0, (0, []))))), (14, (30, (120, (1, (8, [(0, 175)]))))), (17, (30, (10, (3, (2, [(0, 183)]))))), (20, (2, (0, (0, (0, []))))), (21, (6, (7, (12, (0, [(0, 55)]))))), (24, (6, (1, (4, (0, [(0, 199)]))))), (27, (1, (1, (0, (0, []))))), (28, (10, (0, (0, (0, []))))), (29, (27, (1, (0, (0, [])))))], ([], 2))
set_option maxRecDepth 100000 in
noncomputable def m_X7_frees : m_Md := ([(0, (2, (0, (0, (0, []))))), (1, (1, (1, (0, (0, []))))), (2, (30, (117, (2, (8, [(0, 146)]))))), (5, (2, (0, (0, (0, []))))), (6, (6, (7, (12, (0, [(0, 55)]))))), (9, (2, (0, (0, (0, []))))), (10, (6, (7, (8, (0, [(0, 41)]))))), (13, (2, (0, (0, (0, []))))), (14, (30, (120, (1, (8, [(0, 175)]))))), (17, (30, (10, (3, (2, [(0, 183)]))))), (20, (2, (0, (0, (0, []))))), (21, (6, (7, (12, (0, [(0, 55)]))))), (24, (6, (1, (3, (0, [(0, 196)]))))), (27, (1, (1, (0, (0, []))))), (28, (8, (0, (0, (0, []))))), (29, (3, (2, (0, (0, []))))), (30, (2, (0, (0, (0, []))))), (31, (6, (7, (9, (0, [(0, 45)]))))), (34, (2, (0, (0, (0, []))))), (35, (6, (7, (8, (0, [(0, 41)]))))), (38, (30, (1, (2, (1, [(0, 203)]))))), (41, (2, (0, (0, (0, []))))), (42, (6, (7, (9, (0, [(0, 45)]))))), (45, (6, (0, (0, (0, [(0, 122)]))))), (48, (1, (1, (0, (0, []))))), (49, (12, (0, (0, (0, []))))), (50, (0, (0, (0, (3, []))))), (51, (0, (0, (0, (1, []))))), (52, (30, (27, (3, (4, [(0, 161)]))))), (55, (2, (0, (0, (0, []))))), (56, (6, (7, (12, (0, [(0, 55)]))))), (59, (2, (0, (0, (0, []))))), (60, (6, (7, (9, (0, [(0, 45)]))))), (63, (2, (0, (0, (0, []))))), (64, (30, (120, (1, (8, [(0, 175)]))))), (67, (30, (10, (3, (2, [(0, 183)]))))), (70, (1, (2, (0, (0, []))))), (71, (2, (0, (0, (0, []))))), (72, (6, (7, (12, (0, [(0, 55)]))))), (75, (6, (1, (3, (0, [(0, 196)]))))), (78, (1, (1, (0, (0, []))))), (79, (8, (0, (0, (0, []))))), (80, (17, (1, (0, (0, []))))), (81, (27, (0, (0, (0, [])))))], ([], 3))
set_option maxRecDepth 100000 in
noncomputable def m_X7_question : m_Md := ([(0, (1, (1, (0, (0, []))))), (1, (0, (0, (0, (3, []))))), (2, (30, (118, (2, (0, [(1, 69)]))))), (5, (18, (0, (8, (0, []))))), (8, (2, (0, (0, (0, []))))), (9, (1, (2, (0, (0, []))))), (10, (30, (117, (2, (8, [(0, 146)]))))), (13, (20, (0, (26, (0, []))))), (16, (1, (1, (0, (0, []))))), (17, (0, (0, (0, (4, []))))), (18, (19, (1, (15, (0, []))))), (21, (1, (3, (0, (0, []))))), (22, (0, (0, (0, (5, []))))), (23, (30, (118, (2, (0, [(1, 69)]))))), (26, (18, (1, (22, (0, []))))), (29, (1, (1, (0, (0, []))))), (30, (0, (0, (0, (5, []))))), (31, (19, (1, (24, (0, []))))), (34, (1, (3, (0, (0, []))))), (35, (0, (0, (0, (999, []))))), (38, (30, (118, (2, (0, [(1, 69)]))))), (41, (18, (0, (24, (0, []))))), (44, (0, (0, (0, (1, []))))), (45, (20, (0, (25, (0, []))))), (48, (0, (0, (0, (0, []))))), (49, (30, (116, (1, (0, [(1, 73)]))))), (52, (2, (0, (0, (0, []))))), (53, (6, (7, (8, (0, [(0, 41)]))))), (56, (1, (1, (0, (0, []))))), (57, (1, (2, (0, (0, []))))), (58, (1, (3, (0, (0, []))))), (59, (30, (5, (4, (1, [(0, 207)]))))), (62, (27, (0, (0, (0, [])))))], ([], 4))
set_option maxRecDepth 100000 in
noncomputable def m_X7_inCase : m_Md := ([(0, (2, (0, (0, (0, []))))), (1, (1, (2, (0, (0, []))))), (2, (30, (117, (2, (8, [(0, 146)]))))), (5, (1, (1, (0, (0, []))))), (6, (2, (0, (0, (0, []))))), (7, (30, (125, (1, (8, [(0, 211)]))))), (10, (0, (0, (0, (1, []))))), (11, (17, (1, (0, (0, []))))), (12, (30, (118, (2, (0, [(1, 69)]))))), (15, (30, (116, (1, (0, [(1, 73)]))))), (18, (2, (0, (0, (0, []))))), (19, (6, (7, (9, (0, [(0, 45)]))))), (22, (2, (0, (0, (0, []))))), (23, (6, (7, (8, (0, [(0, 41)]))))), (26, (30, (1, (2, (1, [(0, 203)]))))), (29, (2, (0, (0, (0, []))))), (30, (6, (7, (9, (0, [(0, 45)]))))), (33, (2, (0, (0, (0, []))))), (34, (6, (7, (8, (0, [(0, 41)]))))), (37, (1, (1, (0, (0, []))))), (38, (30, (7, (3, (1, [(0, 214)]))))), (41, (2, (0, (0, (0, []))))), (42, (6, (7, (12, (0, [(0, 55)]))))), (45, (2, (0, (0, (0, []))))), (46, (6, (7, (9, (0, [(0, 45)]))))), (49, (2, (0, (0, (0, []))))), (50, (30, (120, (1, (8, [(0, 175)]))))), (53, (30, (10, (3, (2, [(0, 183)]))))), (56, (2, (0, (0, (0, []))))), (57, (6, (7, (12, (0, [(0, 55)]))))), (60, (6, (1, (3, (0, [(0, 196)]))))), (63, (1, (2, (0, (0, []))))), (64, (8, (0, (0, (0, []))))), (65, (27, (0, (0, (0, [])))))], ([], 3))
set_option maxRecDepth 100000 in
noncomputable def m_X7_sure : m_Md := ([(0, (2, (0, (0, (0, []))))), (1, (1, (1, (0, (0, []))))), (2, (30, (117, (2, (8, [(0, 146)]))))), (5, (2, (0, (0, (0, []))))), (6, (30, (126, (1, (8, [(0, 218)]))))), (9, (2, (0, (0, (0, []))))), (10, (1, (1, (0, (0, []))))), (11, (30, (128, (2, (8, [(0, 221)]))))), (14, (3, (2, (0, (0, []))))), (15, (1, (2, (0, (0, []))))), (16, (2, (0, (0, (0, []))))), (17, (30, (125, (1, (8, [(0, 211)]))))), (20, (19, (1, (15, (0, []))))), (23, (0, (0, (0, (2, []))))), (24, (27, (0, (0, (0, []))))), (25, (1, (2, (0, (0, []))))), (26, (18, (5, (19, (0, []))))), (29, (0, (0, (0, (1, []))))), (30, (20, (0, (20, (0, []))))), (33, (0, (0, (0, (0, []))))), (34, (27, (0, (0, (0, [])))))], ([], 3))
set_option maxRecDepth 100000 in
noncomputable def m_X7_cases : m_Md := ([(0, (2, (0, (0, (0, []))))), (1, (1, (1, (0, (0, []))))), (2, (30, (117, (2, (8, [(0, 146)]))))), (5, (2, (0, (0, (0, []))))), (6, (30, (126, (1, (8, [(0, 218)]))))), (9, (2, (0, (0, (0, []))))), (10, (1, (1, (0, (0, []))))), (11, (30, (128, (2, (8, [(0, 221)]))))), (14, (27, (0, (0, (0, [])))))], ([], 2))
set_option maxRecDepth 100000 in
noncomputable def m_X7_hangs : m_Md := ([(0, (2, (0, (0, (0, []))))), (1, (1, (1, (0, (0, []))))), (2, (30, (117, (2, (8, [(0, 146)]))))), (5, (2, (0, (0, (0, []))))), (6, (30, (126, (1, (8, [(0, 218)]))))), (9, (0, (0, (0, (0, []))))), (10, (3, (2, (0, (0, []))))), (11, (1, (2, (0, (0, []))))), (12, (2, (0, (0, (0, []))))), (13, (6, (7, (8, (0, [(0, 41)]))))), (16, (6, (0, (7, (0, [(0, 224)]))))), (19, (19, (3, (27, (0, []))))), (22, (2, (0, (0, (0, []))))), (23, (1, (1, (0, (0, []))))), (24, (1, (2, (0, (0, []))))), (25, (30, (129, (3, (8, [(0, 227)]))))), (28, (3, (3, (0, (0, []))))), (29, (1, (3, (0, (0, []))))), (30, (18, (0, (23, (0, []))))), (33, (1, (3, (0, (0, []))))), (34, (2, (0, (0, (0, []))))), (35, (30, (125, (1, (8, [(0, 211)]))))), (38, (19, (1, (25, (0, []))))), (41, (1, (2, (0, (0, []))))), (42, (27, (0, (0, (0, []))))), (43, (5, (2, (0, (1, []))))), (46, (20, (0, (7, (0, []))))), (49, (0, (0, (0, ((-1), []))))), (50, (27, (0, (0, (0, [])))))], ([], 4))
set_option maxRecDepth 100000 in
noncomputable def m_X7_least : m_Md := ([(0, (2, (0, (0, (0, []))))), (1, (30, (126, (1, (8, [(0, 218)]))))), (4, (0, (0, (0, (0, []))))), (5, (3, (1, (0, (0, []))))), (6, (0, (0, (0, (0, []))))), (7, (3, (2, (0, (0, []))))), (8, (1, (2, (0, (0, []))))), (9, (2, (0, (0, (0, []))))), (10, (6, (7, (8, (0, [(0, 41)]))))), (13, (6, (0, (7, (0, [(0, 224)]))))), (16, (19, (3, (23, (0, []))))), (19, (2, (0, (0, (0, []))))), (20, (1, (2, (0, (0, []))))), (21, (30, (130, (2, (8, [(0, 231)]))))), (24, (18, (0, (21, (0, []))))), (27, (1, (1, (0, (0, []))))), (28, (0, (0, (0, (1, []))))), (29, (1, (2, (0, (0, []))))), (30, (17, (5, (0, (0, []))))), (31, (17, (8, (0, (0, []))))), (32, (3, (1, (0, (0, []))))), (33, (5, (2, (0, (1, []))))), (36, (20, (0, (6, (0, []))))), (39, (1, (1, (0, (0, []))))), (40, (27, (0, (0, (0, [])))))], ([], 3))
set_option maxRecDepth 100000 in
noncomputable def m_X7_find : m_Md := ([(0, (1, (1, (0, (0, []))))), (1, (2, (0, (0, (0, []))))), (2, (6, (7, (8, (0, [(0, 41)]))))), (5, (6, (0, (7, (0, [(0, 224)]))))), (8, (0, (0, (0, (1, []))))), (9, (17, (1, (0, (0, []))))), (10, (30, (118, (2, (0, [(1, 69)]))))), (13, (18, (1, (13, (0, []))))), (16, (36, (1, (0, (0, [(0, 234), (0, 236), (0, 238)]))))), (19, (99, (0, (0, (0, []))))), (20, (99, (0, (0, (0, []))))), (22, (99, (0, (0, (0, []))))), (25, (99, (0, (0, (0, []))))), (26, (2, (0, (0, (0, []))))), (27, (6, (7, (8, (0, [(0, 41)]))))), (30, (6, (0, (6, (0, [(0, 241)]))))), (33, (1, (1, (0, (0, []))))), (34, (12, (0, (0, (0, []))))), (35, (6, (6, (0, (0, [(0, 245)]))))), (38, (3, (3, (0, (0, []))))), (39, (2, (0, (0, (0, []))))), (40, (6, (7, (8, (0, [(0, 41)]))))), (43, (2, (0, (0, (0, []))))), (44, (6, (7, (8, (0, [(0, 41)]))))), (47, (6, (0, (6, (0, [(0, 241)]))))), (50, (1, (1, (0, (0, []))))), (51, (12, (0, (0, (0, []))))), (52, (1, (2, (0, (0, []))))), (53, (2, (0, (0, (0, []))))), (54, (6, (7, (8, (0, [(0, 41)]))))), (57, (30, (8, (4, (1, [(0, 250)]))))), (60, (2, (0, (0, (0, []))))), (61, (6, (7, (8, (0, [(0, 41)]))))), (64, (1, (1, (0, (0, []))))), (65, (30, (6, (2, (1, [(0, 254)]))))), (68, (1, (3, (0, (0, []))))), (69, (27, (0, (0, (0, [])))))], ([], 4))
set_option maxRecDepth 100000 in
noncomputable def m_X7_title : m_Md := ([(0, (2, (0, (0, (0, []))))), (1, (6, (7, (12, (0, [(0, 55)]))))), (4, (2, (0, (0, (0, []))))), (5, (6, (7, (8, (0, [(0, 41)]))))), (8, (2, (0, (0, (0, []))))), (9, (30, (120, (1, (8, [(0, 175)]))))), (12, (30, (10, (3, (2, [(0, 183)]))))), (15, (2, (0, (0, (0, []))))), (16, (6, (7, (12, (0, [(0, 55)]))))), (19, (2, (0, (0, (0, []))))), (20, (6, (7, (8, (0, [(0, 41)]))))), (23, (6, (0, (2, (0, [(0, 152)]))))), (26, (30, (15, (2, (2, [(0, 257)]))))), (29, (27, (0, (0, (0, [])))))], ([], 1))
set_option maxRecDepth 100000 in
noncomputable def m_X7_found : m_Md := ([(0, (2, (0, (0, (0, []))))), (1, (1, (1, (0, (0, []))))), (2, (30, (117, (2, (8, [(0, 146)]))))), (5, (1, (2, (0, (0, []))))), (6, (0, (0, (0, (9999, []))))), (9, (30, (118, (2, (0, [(1, 69)]))))), (12, (30, (116, (1, (0, [(1, 73)]))))), (15, (2, (0, (0, (0, []))))), (16, (6, (7, (12, (0, [(0, 55)]))))), (19, (2, (0, (0, (0, []))))), (20, (6, (7, (8, (0, [(0, 41)]))))), (23, (2, (0, (0, (0, []))))), (24, (30, (120, (1, (8, [(0, 175)]))))), (27, (30, (10, (3, (2, [(0, 183)]))))), (30, (2, (0, (0, (0, []))))), (31, (6, (7, (12, (0, [(0, 55)]))))), (34, (2, (0, (0, (0, []))))), (35, (6, (7, (8, (0, [(0, 41)]))))), (38, (6, (0, (2, (0, [(0, 152)]))))), (41, (30, (15, (2, (2, [(0, 257)]))))), (44, (1, (1, (0, (0, []))))), (45, (19, (0, (24, (0, []))))), (48, (0, (0, (0, (0, []))))), (49, (27, (0, (0, (0, []))))), (50, (2, (0, (0, (0, []))))), (51, (6, (7, (12, (0, [(0, 55)]))))), (54, (6, (1, (4, (0, [(0, 199)]))))), (57, (1, (1, (0, (0, []))))), (58, (10, (0, (0, (0, []))))), (59, (18, (0, (42, (0, []))))), (62, (2, (0, (0, (0, []))))), (63, (30, (120, (1, (8, [(0, 175)]))))), (66, (2, (0, (0, (0, []))))), (67, (6, (7, (8, (0, [(0, 41)]))))), (70, (6, (0, (0, (0, [(0, 122)]))))), (73, (1, (1, (0, (0, []))))), (74, (12, (0, (0, (0, []))))), (75, (6, (3, (0, (0, [(0, 134)]))))), (78, (30, (38, (2, (5, [(0, 113)]))))), (81, (18, (0, (42, (0, []))))), (84, (0, (0, (0, (1, []))))), (85, (20, (0, (43, (0, []))))), (88, (0, (0, (0, (0, []))))), (89, (3, (3, (0, (0, []))))), (90, (1, (3, (0, (0, []))))), (91, (18, (0, (50, (0, []))))), (94, (0, (0, (0, (2, []))))), (95, (1, (2, (0, (0, []))))), (96, (17, (2, (0, (0, []))))), (97, (20, (0, (51, (0, []))))), (100, (1, (2, (0, (0, []))))), (101, (27, (0, (0, (0, [])))))], ([], 4))
set_option maxRecDepth 100000 in
noncomputable def m_X7_put : m_Md := ([(0, (1, (1, (0, (0, []))))), (1, (0, (0, (0, (5, []))))), (2, (30, (118, (2, (0, [(1, 69)]))))), (5, (18, (0, (10, (0, []))))), (8, (1, (2, (0, (0, []))))), (9, (0, (0, (0, (999, []))))), (12, (30, (118, (2, (0, [(1, 69)]))))), (15, (18, (0, (10, (0, []))))), (18, (0, (0, (0, (1, []))))), (19, (20, (0, (11, (0, []))))), (22, (0, (0, (0, (0, []))))), (23, (30, (116, (1, (0, [(1, 73)]))))), (26, (2, (0, (0, (0, []))))), (27, (6, (7, (8, (0, [(0, 41)]))))), (30, (6, (0, (8, (0, [(0, 260)]))))), (33, (1, (1, (0, (0, []))))), (34, (1, (2, (0, (0, []))))), (35, (30, (18, (3, (3, [(0, 264)]))))), (38, (18, (0, (24, (0, []))))), (41, (2, (0, (0, (0, []))))), (42, (6, (7, (8, (0, [(0, 41)]))))), (45, (6, (0, (8, (0, [(0, 260)]))))), (48, (30, (19, (1, (3, [(0, 269)]))))), (51, (20, (0, (25, (0, []))))), (54, (0, (0, (0, ((-1), []))))), (55, (27, (0, (0, (0, [])))))], ([], 3))
set_option maxRecDepth 100000 in
noncomputable def m_X7_share : m_Md := ([(0, (1, (1, (0, (0, []))))), (1, (0, (0, (0, (5, []))))), (2, (30, (118, (2, (0, [(1, 69)]))))), (5, (18, (0, (13, (0, []))))), (8, (1, (2, (0, (0, []))))), (9, (2, (0, (0, (0, []))))), (10, (6, (7, (8, (0, [(0, 41)]))))), (13, (6, (0, (8, (0, [(0, 260)]))))), (16, (30, (19, (1, (3, [(0, 269)]))))), (19, (30, (118, (2, (0, [(1, 69)]))))), (22, (18, (0, (13, (0, []))))), (25, (0, (0, (0, (1, []))))), (26, (20, (0, (14, (0, []))))), (29, (0, (0, (0, (0, []))))), (30, (30, (116, (1, (0, [(1, 73)]))))), (33, (2, (0, (0, (0, []))))), (34, (30, (120, (1, (8, [(0, 175)]))))), (37, (6, (4, (0, (0, [(0, 272)]))))), (40, (3, (3, (0, (0, []))))), (41, (1, (3, (0, (0, []))))), (42, (18, (1, (29, (0, []))))), (45, (1, (2, (0, (0, []))))), (46, (2, (0, (0, (0, []))))), (47, (6, (7, (8, (0, [(0, 41)]))))), (50, (6, (0, (8, (0, [(0, 260)]))))), (53, (1, (1, (0, (0, []))))), (54, (30, (20, (2, (3, [(0, 275)]))))), (57, (17, (2, (0, (0, []))))), (58, (27, (0, (0, (0, []))))), (59, (1, (3, (0, (0, []))))), (60, (0, (0, (0, (1, []))))), (61, (19, (1, (44, (0, []))))), (64, (2, (0, (0, (0, []))))), (65, (6, (7, (8, (0, [(0, 41)]))))), (68, (6, (0, (8, (0, [(0, 260)]))))), (71, (30, (19, (1, (3, [(0, 269)]))))), (74, (2, (0, (0, (0, []))))), (75, (6, (7, (8, (0, [(0, 41)]))))), (78, (6, (0, (8, (0, [(0, 260)]))))), (81, (1, (1, (0, (0, []))))), (82, (1, (2, (0, (0, []))))), (83, (30, (21, (3, (3, [(0, 278)]))))), (86, (17, (2, (0, (0, []))))), (87, (20, (0, (45, (0, []))))), (90, (0, (0, (0, (0, []))))), (91, (27, (0, (0, (0, [])))))], ([], 4))
set_option maxRecDepth 100000 in
noncomputable def m_X7_judge : m_Md := ([(0, (2, (0, (0, (0, []))))), (1, (1, (1, (0, (0, []))))), (2, (30, (117, (2, (8, [(0, 146)]))))), (5, (1, (2, (0, (0, []))))), (6, (0, (0, (0, (9999, []))))), (9, (30, (118, (2, (0, [(1, 69)]))))), (12, (30, (116, (1, (0, [(1, 73)]))))), (15, (2, (0, (0, (0, []))))), (16, (6, (7, (8, (0, [(0, 41)]))))), (19, (6, (0, (0, (0, [(0, 122)]))))), (22, (1, (1, (0, (0, []))))), (23, (12, (0, (0, (0, []))))), (24, (6, (3, (6, (0, [(0, 281)]))))), (27, (3, (3, (0, (0, []))))), (28, (2, (0, (0, (0, []))))), (29, (6, (7, (8, (0, [(0, 41)]))))), (32, (6, (0, (0, (0, [(0, 122)]))))), (35, (1, (1, (0, (0, []))))), (36, (12, (0, (0, (0, []))))), (37, (1, (2, (0, (0, []))))), (38, (7, (3, (6, (0, [(0, 281)]))))), (41, (1, (3, (0, (0, []))))), (42, (27, (0, (0, (0, [])))))], ([], 4))
set_option maxRecDepth 100000 in
noncomputable def m_X7_wrong : m_Md := ([(0, (2, (0, (0, (0, []))))), (1, (6, (7, (12, (0, [(0, 55)]))))), (4, (2, (0, (0, (0, []))))), (5, (6, (7, (8, (0, [(0, 41)]))))), (8, (2, (0, (0, (0, []))))), (9, (30, (120, (1, (8, [(0, 175)]))))), (12, (30, (10, (3, (2, [(0, 183)]))))), (15, (0, (0, (0, (1, []))))), (16, (3, (1, (0, (0, []))))), (17, (1, (1, (0, (0, []))))), (18, (2, (0, (0, (0, []))))), (19, (6, (7, (8, (0, [(0, 41)]))))), (22, (6, (0, (1, (0, [(0, 119)]))))), (25, (19, (3, (30, (0, []))))), (28, (2, (0, (0, (0, []))))), (29, (6, (7, (8, (0, [(0, 41)]))))), (32, (6, (0, (0, (0, [(0, 122)]))))), (35, (1, (1, (0, (0, []))))), (36, (12, (0, (0, (0, []))))), (37, (6, (3, (6, (0, [(0, 281)]))))), (40, (2, (0, (0, (0, []))))), (41, (6, (7, (12, (0, [(0, 55)]))))), (44, (6, (1, (0, (0, [(0, 187)]))))), (47, (1, (1, (0, (0, []))))), (48, (8, (0, (0, (0, []))))), (49, (19, (0, (28, (0, []))))), (52, (1, (1, (0, (0, []))))), (53, (27, (0, (0, (0, []))))), (54, (5, (1, (0, (1, []))))), (57, (20, (0, (9, (0, []))))), (60, (0, (0, (0, ((-1), []))))), (61, (27, (0, (0, (0, [])))))], ([], 2))
set_option maxRecDepth 100000 in
noncomputable def m_X7_parting : m_Md := ([(0, (2, (0, (0, (0, []))))), (1, (1, (1, (0, (0, []))))), (2, (30, (119, (2, (8, [(0, 87)]))))), (5, (18, (0, (10, (0, []))))), (8, (2, (0, (0, (0, []))))), (9, (1, (2, (0, (0, []))))), (10, (30, (119, (2, (8, [(0, 87)]))))), (13, (18, (0, (10, (0, []))))), (16, (0, (0, (0, (1, []))))), (17, (20, (0, (11, (0, []))))), (20, (0, (0, (0, (0, []))))), (21, (30, (116, (1, (0, [(1, 73)]))))), (24, (0, (0, (0, (0, []))))), (25, (3, (3, (0, (0, []))))), (26, (1, (3, (0, (0, []))))), (27, (0, (0, (0, (1152, []))))), (30, (19, (3, (52, (0, []))))), (33, (2, (0, (0, (0, []))))), (34, (1, (3, (0, (0, []))))), (35, (0, (0, (0, (0, []))))), (36, (0, (0, (0, (100, []))))), (38, (0, (0, (0, (10, []))))), (40, (30, (124, (5, (8, [(0, 94)]))))), (43, (1, (3, (0, (0, []))))), (44, (30, (122, (1, (0, [(1, 98)]))))), (47, (3, (4, (0, (0, []))))), (49, (1, (3, (0, (0, []))))), (50, (30, (123, (1, (0, [(1, 106)]))))), (53, (3, (5, (0, (0, []))))), (55, (2, (0, (0, (0, []))))), (56, (6, (7, (2, (0, [(0, 15)]))))), (59, (1, (1, (0, (0, []))))), (60, (12, (0, (0, (0, []))))), (61, (1, (4, (0, (0, []))))), (63, (1, (5, (0, (0, []))))), (65, (2, (0, (0, (0, []))))), (66, (6, (7, (7, (0, [(0, 35)]))))), (69, (30, (36, (4, (5, [(0, 284)]))))), (72, (2, (0, (0, (0, []))))), (73, (6, (7, (2, (0, [(0, 15)]))))), (76, (1, (2, (0, (0, []))))), (77, (12, (0, (0, (0, []))))), (78, (1, (4, (0, (0, []))))), (80, (1, (5, (0, (0, []))))), (82, (2, (0, (0, (0, []))))), (83, (6, (7, (7, (0, [(0, 35)]))))), (86, (30, (36, (4, (5, [(0, 284)]))))), (89, (19, (0, (50, (0, []))))), (92, (1, (3, (0, (0, []))))), (93, (27, (0, (0, (0, []))))), (94, (5, (3, (0, (1, []))))), (97, (20, (0, (14, (0, []))))), (100, (0, (0, (0, ((-1), []))))), (101, (27, (0, (0, (0, [])))))], ([], 6))
set_option maxRecDepth 100000 in
noncomputable def m_X7_beside : m_Md := ([(0, (2, (0, (0, (0, []))))), (1, (1, (2, (0, (0, []))))), (2, (30, (117, (2, (8, [(0, 146)]))))), (5, (2, (0, (0, (0, []))))), (6, (1, (1, (0, (0, []))))), (7, (30, (119, (2, (8, [(0, 87)]))))), (10, (30, (116, (1, (0, [(1, 73)]))))), (13, (2, (0, (0, (0, []))))), (14, (6, (7, (12, (0, [(0, 55)]))))), (17, (2, (0, (0, (0, []))))), (18, (6, (7, (8, (0, [(0, 41)]))))), (21, (2, (0, (0, (0, []))))), (22, (6, (7, (2, (0, [(0, 15)]))))), (25, (1, (1, (0, (0, []))))), (26, (12, (0, (0, (0, []))))), (27, (30, (10, (3, (2, [(0, 183)]))))), (30, (2, (0, (0, (0, []))))), (31, (6, (7, (12, (0, [(0, 55)]))))), (34, (6, (1, (3, (0, [(0, 196)]))))), (37, (1, (2, (0, (0, []))))), (38, (8, (0, (0, (0, []))))), (39, (27, (0, (0, (0, [])))))], ([], 3))
set_option maxRecDepth 100000 in
noncomputable def m_X7_image : m_Md := ([(0, (2, (0, (0, (0, []))))), (1, (6, (7, (11, (0, [(0, 288)]))))), (4, (0, (0, (0, (3, []))))), (5, (19, (2, (6, (0, []))))), (8, (0, (0, (0, ((-1), []))))), (9, (27, (0, (0, (0, []))))), (10, (2, (0, (0, (0, []))))), (11, (6, (7, (10, (0, [(0, 48)]))))), (14, (2, (0, (0, (0, []))))), (15, (6, (7, (11, (0, [(0, 288)]))))), (18, (12, (0, (0, (0, []))))), (19, (2, (0, (0, (0, []))))), (20, (6, (7, (8, (0, [(0, 41)]))))), (23, (30, (1, (2, (1, [(0, 203)]))))), (26, (2, (0, (0, (0, []))))), (27, (22, (0, (0, (0, []))))), (28, (6, (7, (11, (0, [(0, 288)]))))), (31, (0, (0, (0, (1, []))))), (32, (17, (0, (0, (0, []))))), (33, (7, (7, (11, (0, [(0, 288)]))))), (36, (2, (0, (0, (0, []))))), (37, (6, (7, (11, (0, [(0, 288)]))))), (40, (27, (0, (0, (0, [])))))], ([], 1))
set_option maxRecDepth 100000 in
noncomputable def m_X7_restore : m_Md := ([(0, (2, (0, (0, (0, []))))), (1, (6, (7, (11, (0, [(0, 288)]))))), (4, (0, (0, (0, (1, []))))), (5, (19, (3, (6, (0, []))))), (8, (0, (0, (0, ((-1), []))))), (9, (27, (0, (0, (0, []))))), (10, (2, (0, (0, (0, []))))), (11, (22, (0, (0, (0, []))))), (12, (6, (7, (11, (0, [(0, 288)]))))), (15, (0, (0, (0, (1, []))))), (16, (17, (1, (0, (0, []))))), (17, (7, (7, (11, (0, [(0, 288)]))))), (20, (2, (0, (0, (0, []))))), (21, (6, (7, (8, (0, [(0, 41)]))))), (24, (2, (0, (0, (0, []))))), (25, (6, (7, (10, (0, [(0, 48)]))))), (28, (2, (0, (0, (0, []))))), (29, (6, (7, (11, (0, [(0, 288)]))))), (32, (12, (0, (0, (0, []))))), (33, (30, (1, (2, (1, [(0, 203)]))))), (36, (2, (0, (0, (0, []))))), (37, (6, (7, (11, (0, [(0, 288)]))))), (40, (27, (0, (0, (0, [])))))], ([], 1))
set_option maxRecDepth 100000 in
noncomputable def m_X7_count : m_Md := ([(0, (1, (1, (0, (0, []))))), (1, (21, (0, (33, (0, [(0, 2), (1, 5), (2, 9), (3, 13), (4, 18), (5, 23), (6, 26), (7, 29)]))))), (48, (2, (0, (0, (0, []))))), (49, (6, (7, (3, (0, [(0, 77)]))))), (52, (27, (0, (0, (0, []))))), (53, (2, (0, (0, (0, []))))), (54, (6, (7, (8, (0, [(0, 41)]))))), (57, (6, (0, (1, (0, [(0, 119)]))))), (60, (27, (0, (0, (0, []))))), (61, (2, (0, (0, (0, []))))), (62, (6, (7, (8, (0, [(0, 41)]))))), (65, (6, (0, (7, (0, [(0, 224)]))))), (68, (27, (0, (0, (0, []))))), (69, (2, (0, (0, (0, []))))), (70, (6, (7, (8, (0, [(0, 41)]))))), (73, (6, (0, (8, (0, [(0, 260)]))))), (76, (30, (19, (1, (3, [(0, 269)]))))), (79, (27, (0, (0, (0, []))))), (80, (2, (0, (0, (0, []))))), (81, (6, (7, (8, (0, [(0, 41)]))))), (84, (6, (0, (8, (0, [(0, 260)]))))), (87, (6, (2, (0, (0, [(0, 291)]))))), (90, (27, (0, (0, (0, []))))), (91, (2, (0, (0, (0, []))))), (92, (6, (7, (11, (0, [(0, 288)]))))), (95, (27, (0, (0, (0, []))))), (96, (2, (0, (0, (0, []))))), (97, (6, (7, (1, (0, [(0, 62)]))))), (100, (27, (0, (0, (0, []))))), (101, (2, (0, (0, (0, []))))), (102, (6, (7, (8, (0, [(0, 41)]))))), (105, (6, (0, (2, (0, [(0, 152)]))))), (108, (27, (0, (0, (0, []))))), (109, (0, (0, (0, ((-1), []))))), (110, (27, (0, (0, (0, [])))))], ([], 2))
set_option maxRecDepth 100000 in
noncomputable def m_X7_need : m_Md := ([(0, (1, (0, (0, (0, []))))), (1, (18, (1, (7, (0, []))))), (4, (36, (0, (0, (0, [(1, 294), (0, 296), (0, 298)]))))), (7, (99, (0, (0, (0, []))))), (8, (99, (0, (0, (0, []))))), (11, (99, (0, (0, (0, []))))), (14, (99, (0, (0, (0, []))))), (15, (29, (0, (0, (0, [])))))], ([], 1))
set_option maxRecDepth 100000 in
noncomputable def m_X7_needHand : m_Md := ([(0, (1, (1, (0, (0, []))))), (1, (2, (0, (0, (0, []))))), (2, (6, (7, (8, (0, [(0, 41)]))))), (5, (6, (0, (1, (0, [(0, 119)]))))), (8, (0, (0, (0, (1, []))))), (9, (17, (1, (0, (0, []))))), (10, (30, (118, (2, (0, [(1, 69)]))))), (13, (18, (1, (13, (0, []))))), (16, (36, (1, (0, (0, [(1, 234), (0, 299), (0, 238)]))))), (19, (99, (0, (0, (0, []))))), (20, (99, (0, (0, (0, []))))), (23, (99, (0, (0, (0, []))))), (26, (99, (0, (0, (0, []))))), (27, (29, (0, (0, (0, [])))))], ([], 2))
set_option maxRecDepth 100000 in
noncomputable def m_X7_isWithin : m_Md := ([(0, (1, (0, (0, (0, []))))), (1, (18, (2, (7, (0, []))))), (4, (1, (0, (0, (0, []))))), (5, (1, (1, (0, (0, []))))), (6, (19, (4, (7, (0, []))))), (9, (0, (0, (0, (1, []))))), (10, (20, (0, (8, (0, []))))), (13, (0, (0, (0, (0, []))))), (14, (27, (1, (0, (0, [])))))], ([], 2))
set_option maxRecDepth 100000 in
noncomputable def m_X7_isLaw : m_Md := ([(0, (1, (1, (0, (0, []))))), (1, (2, (0, (0, (0, []))))), (2, (6, (7, (3, (0, [(0, 77)]))))), (5, (0, (0, (0, (1, []))))), (6, (17, (1, (0, (0, []))))), (7, (30, (118, (2, (0, [(1, 69)]))))), (10, (27, (1, (0, (0, [])))))], ([], 2))
set_option maxRecDepth 100000 in
noncomputable def m_X7_lawInForce : m_Md := ([(0, (2, (0, (0, (0, []))))), (1, (2, (0, (0, (0, []))))), (2, (6, (7, (8, (0, [(0, 41)]))))), (5, (6, (0, (5, (0, [(0, 91)]))))), (8, (30, (119, (2, (8, [(0, 87)]))))), (11, (18, (0, (13, (0, []))))), (14, (2, (0, (0, (0, []))))), (15, (6, (7, (2, (0, [(0, 15)]))))), (18, (2, (0, (0, (0, []))))), (19, (6, (7, (8, (0, [(0, 41)]))))), (22, (6, (0, (5, (0, [(0, 91)]))))), (25, (12, (0, (0, (0, []))))), (26, (20, (0, (15, (0, []))))), (29, (2, (0, (0, (0, []))))), (30, (6, (7, (4, (0, [(0, 20)]))))), (33, (28, (0, (0, (0, [])))))], ([], 1))
set_option maxRecDepth 100000 in
noncomputable def m_X7_layOnTape : m_Md := ([(0, (0, (0, (0, (24, []))))), (2, (3, (2, (0, (0, []))))), (3, (1, (2, (0, (0, []))))), (4, (18, (2, (26, (0, []))))), (7, (2, (0, (0, (0, []))))), (8, (6, (7, (1, (0, [(0, 62)]))))), (11, (0, (0, (0, (500, []))))), (14, (19, (3, (26, (0, []))))), (17, (2, (0, (0, (0, []))))), (18, (6, (7, (0, (0, [(0, 9)]))))), (21, (2, (0, (0, (0, []))))), (22, (6, (7, (1, (0, [(0, 62)]))))), (25, (1, (1, (0, (0, []))))), (26, (1, (2, (0, (0, []))))), (27, (17, (6, (0, (0, []))))), (28, (0, (0, (0, (255, []))))), (31, (17, (7, (0, (0, []))))), (32, (9, (0, (0, (0, []))))), (33, (2, (0, (0, (0, []))))), (34, (22, (0, (0, (0, []))))), (35, (6, (7, (1, (0, [(0, 62)]))))), (38, (0, (0, (0, (1, []))))), (39, (17, (0, (0, (0, []))))), (40, (7, (7, (1, (0, [(0, 62)]))))), (43, (5, (2, (0, ((-8), []))))), (46, (20, (0, (2, (0, []))))), (49, (29, (0, (0, (0, [])))))], ([], 3))
set_option maxRecDepth 100000 in
noncomputable def m_X7_keepingOfCase : m_Md := ([(0, (1, (0, (0, (0, []))))), (1, (0, (0, (0, (32, []))))), (3, (17, (3, (0, (0, []))))), (4, (0, (0, (0, (6, []))))), (6, (17, (3, (0, (0, []))))), (7, (27, (0, (0, (0, [])))))], ([], 1))
set_option maxRecDepth 100000 in
noncomputable def m_X7_harmOfCase : m_Md := ([(0, (1, (0, (0, (0, []))))), (1, (0, (0, (0, (32, []))))), (3, (17, (3, (0, (0, []))))), (4, (0, (0, (0, (6, []))))), (6, (17, (4, (0, (0, []))))), (7, (27, (0, (0, (0, [])))))], ([], 1))
set_option maxRecDepth 100000 in
noncomputable def m_X7_nameCase : m_Md := ([(0, (0, (0, (0, (0, []))))), (1, (3, (5, (0, (0, []))))), (3, (1, (5, (0, (0, []))))), (5, (0, (0, (0, (5, []))))), (6, (19, (3, (16, (0, []))))), (9, (2, (0, (0, (0, []))))), (10, (6, (7, (7, (0, [(0, 35)]))))), (13, (1, (5, (0, (0, []))))), (15, (1, (1, (0, (0, []))))), (16, (1, (5, (0, (0, []))))), (18, (17, (6, (0, (0, []))))), (19, (0, (0, (0, (1, []))))), (20, (17, (7, (0, (0, []))))), (21, (9, (0, (0, (0, []))))), (22, (5, (5, (0, (1, []))))), (25, (20, (0, (2, (0, []))))), (28, (2, (0, (0, (0, []))))), (29, (6, (7, (7, (0, [(0, 35)]))))), (32, (0, (0, (0, (5, []))))), (33, (1, (2, (0, (0, []))))), (34, (9, (0, (0, (0, []))))), (35, (2, (0, (0, (0, []))))), (36, (6, (7, (7, (0, [(0, 35)]))))), (39, (0, (0, (0, (6, []))))), (41, (1, (3, (0, (0, []))))), (42, (9, (0, (0, (0, []))))), (43, (2, (0, (0, (0, []))))), (44, (6, (7, (7, (0, [(0, 35)]))))), (47, (0, (0, (0, (7, []))))), (49, (1, (4, (0, (0, []))))), (51, (9, (0, (0, (0, []))))), (52, (29, (0, (0, (0, [])))))], ([], 6))
set_option maxRecDepth 100000 in
noncomputable def m_X7_allCases : m_Md := ([(0, (0, (0, (0, (1, []))))), (1, (2, (0, (0, (0, []))))), (2, (6, (7, (8, (0, [(0, 41)]))))), (5, (6, (0, (7, (0, [(0, 224)]))))), (8, (17, (5, (0, (0, []))))), (9, (27, (0, (0, (0, [])))))], ([], 1))
set_option maxRecDepth 100000 in
noncomputable def m_X7_reckonCases : m_Md := ([(0, (2, (0, (0, (0, []))))), (1, (6, (7, (9, (0, [(0, 45)]))))), (4, (2, (0, (0, (0, []))))), (5, (6, (7, (8, (0, [(0, 41)]))))), (8, (30, (1, (2, (1, [(0, 203)]))))), (11, (0, (0, (0, (0, []))))), (12, (3, (1, (0, (0, []))))), (13, (1, (1, (0, (0, []))))), (14, (2, (0, (0, (0, []))))), (15, (30, (125, (1, (8, [(0, 211)]))))), (18, (19, (3, (37, (0, []))))), (21, (2, (0, (0, (0, []))))), (22, (6, (7, (9, (0, [(0, 45)]))))), (25, (2, (0, (0, (0, []))))), (26, (6, (7, (8, (0, [(0, 41)]))))), (29, (1, (1, (0, (0, []))))), (30, (30, (7, (3, (1, [(0, 214)]))))), (33, (2, (0, (0, (0, []))))), (34, (6, (7, (12, (0, [(0, 55)]))))), (37, (2, (0, (0, (0, []))))), (38, (6, (7, (9, (0, [(0, 45)]))))), (41, (2, (0, (0, (0, []))))), (42, (30, (120, (1, (8, [(0, 175)]))))), (45, (30, (10, (3, (2, [(0, 183)]))))), (48, (2, (0, (0, (0, []))))), (49, (6, (7, (12, (0, [(0, 55)]))))), (52, (6, (1, (3, (0, [(0, 196)]))))), (55, (0, (0, (0, (0, []))))), (56, (2, (0, (0, (0, []))))), (57, (6, (7, (13, (0, [(0, 59)]))))), (60, (1, (1, (0, (0, []))))), (61, (0, (0, (0, (13, []))))), (63, (17, (2, (0, (0, []))))), (64, (0, (0, (0, (13, []))))), (66, (33, (0, (0, (0, [(0, 301)]))))), (69, (5, (1, (0, (1, []))))), (72, (20, (0, (7, (0, []))))), (75, (29, (0, (0, (0, [])))))], ([], 2))
set_option maxRecDepth 100000 in
noncomputable def m_X7_isBurdened : m_Md := ([(0, (2, (0, (0, (0, []))))), (1, (6, (7, (13, (0, [(0, 59)]))))), (4, (1, (2, (0, (0, []))))), (5, (0, (0, (0, (13, []))))), (7, (17, (2, (0, (0, []))))), (8, (1, (1, (0, (0, []))))), (9, (17, (0, (0, (0, []))))), (10, (8, (0, (0, (0, []))))), (11, (18, (5, (11, (0, []))))), (14, (0, (0, (0, (1, []))))), (15, (20, (0, (12, (0, []))))), (18, (0, (0, (0, (0, []))))), (19, (27, (1, (0, (0, [])))))], ([], 3))
set_option maxRecDepth 100000 in
noncomputable def m_X7_burdenedCases : m_Md := ([(0, (0, (0, (0, (0, []))))), (1, (3, (2, (0, (0, []))))), (2, (0, (0, (0, (0, []))))), (3, (3, (3, (0, (0, []))))), (4, (1, (3, (0, (0, []))))), (5, (2, (0, (0, (0, []))))), (6, (30, (125, (1, (8, [(0, 211)]))))), (9, (19, (3, (16, (0, []))))), (12, (2, (0, (0, (0, []))))), (13, (1, (1, (0, (0, []))))), (14, (1, (3, (0, (0, []))))), (15, (30, (127, (3, (8, [(0, 307)]))))), (18, (18, (0, (14, (0, []))))), (21, (5, (2, (0, (1, []))))), (24, (5, (3, (0, (1, []))))), (27, (20, (0, (4, (0, []))))), (30, (1, (2, (0, (0, []))))), (31, (27, (0, (0, (0, [])))))], ([], 4))
set_option maxRecDepth 100000 in
noncomputable def m_X7_casesLikeBit : m_Md := ([(0, (0, (0, (0, (0, []))))), (1, (3, (3, (0, (0, []))))), (2, (0, (0, (0, (0, []))))), (3, (3, (4, (0, (0, []))))), (5, (1, (4, (0, (0, []))))), (7, (2, (0, (0, (0, []))))), (8, (30, (125, (1, (8, [(0, 211)]))))), (11, (19, (3, (26, (0, []))))), (14, (2, (0, (0, (0, []))))), (15, (1, (1, (0, (0, []))))), (16, (1, (4, (0, (0, []))))), (18, (30, (127, (3, (8, [(0, 307)]))))), (21, (1, (4, (0, (0, []))))), (23, (1, (2, (0, (0, []))))), (24, (17, (6, (0, (0, []))))), (25, (0, (0, (0, (1, []))))), (26, (17, (7, (0, (0, []))))), (27, (0, (0, (0, (1, []))))), (28, (19, (1, (21, (0, []))))), (31, (0, (0, (0, (1, []))))), (32, (20, (0, (22, (0, []))))), (35, (0, (0, (0, (0, []))))), (36, (19, (1, (24, (0, []))))), (39, (5, (3, (0, (1, []))))), (42, (5, (4, (0, (1, []))))), (45, (20, (0, (4, (0, []))))), (48, (1, (3, (0, (0, []))))), (49, (27, (0, (0, (0, [])))))], ([], 5))
set_option maxRecDepth 100000 in
noncomputable def m_X7_matters : m_Md := ([(0, (0, (0, (0, (0, []))))), (1, (3, (2, (0, (0, []))))), (2, (1, (2, (0, (0, []))))), (3, (2, (0, (0, (0, []))))), (4, (30, (125, (1, (8, [(0, 211)]))))), (7, (19, (3, (21, (0, []))))), (10, (2, (0, (0, (0, []))))), (11, (1, (2, (0, (0, []))))), (12, (1, (2, (0, (0, []))))), (13, (0, (0, (0, (1, []))))), (14, (1, (1, (0, (0, []))))), (15, (17, (5, (0, (0, []))))), (16, (0, (0, (0, ((-1), []))))), (17, (17, (9, (0, (0, []))))), (18, (17, (7, (0, (0, []))))), (19, (30, (131, (3, (8, [(0, 310)]))))), (22, (18, (1, (19, (0, []))))), (25, (0, (0, (0, (1, []))))), (26, (27, (1, (0, (0, []))))), (27, (5, (2, (0, (1, []))))), (30, (20, (0, (2, (0, []))))), (33, (0, (0, (0, (0, []))))), (34, (27, (1, (0, (0, [])))))], ([], 3))
set_option maxRecDepth 100000 in
noncomputable def m_X7_areBorneAlike : m_Md := ([(0, (0, (0, (0, (0, []))))), (1, (3, (3, (0, (0, []))))), (2, (1, (3, (0, (0, []))))), (3, (0, (0, (0, (13, []))))), (5, (19, (3, (26, (0, []))))), (8, (2, (0, (0, (0, []))))), (9, (6, (7, (13, (0, [(0, 59)]))))), (12, (1, (1, (0, (0, []))))), (13, (0, (0, (0, (13, []))))), (15, (17, (2, (0, (0, []))))), (16, (1, (3, (0, (0, []))))), (17, (17, (0, (0, (0, []))))), (18, (8, (0, (0, (0, []))))), (19, (2, (0, (0, (0, []))))), (20, (6, (7, (13, (0, [(0, 59)]))))), (23, (1, (2, (0, (0, []))))), (24, (0, (0, (0, (13, []))))), (26, (17, (2, (0, (0, []))))), (27, (1, (3, (0, (0, []))))), (28, (17, (0, (0, (0, []))))), (29, (8, (0, (0, (0, []))))), (30, (19, (0, (24, (0, []))))), (33, (0, (0, (0, (0, []))))), (34, (27, (1, (0, (0, []))))), (35, (5, (3, (0, (1, []))))), (38, (20, (0, (2, (0, []))))), (41, (0, (0, (0, (1, []))))), (42, (27, (1, (0, (0, [])))))], ([], 4))
set_option maxRecDepth 100000 in
noncomputable def m_X8_init : m_Md := ([(0, (2, (0, (0, (0, []))))), (1, (40, (0, (0, (0, [(0, 1)]))))), (4, (2, (0, (0, (0, []))))), (5, (0, (0, (0, ((-1), []))))), (6, (7, (8, (3, (0, [(0, 9)]))))), (9, (2, (0, (0, (0, []))))), (10, (0, (0, (0, (500, []))))), (13, (38, (0, (0, (0, []))))), (15, (7, (8, (9, (2, [(0, 13)]))))), (18, (2, (0, (0, (0, []))))), (19, (0, (0, (0, (4, []))))), (20, (0, (0, (0, (500, []))))), (23, (39, (0, (0, (0, [(0, 17)]))))), (27, (7, (8, (10, (2, [(0, 19)]))))), (30, (2, (0, (0, (0, []))))), (31, (0, (0, (0, (4, []))))), (32, (38, (0, (0, (0, []))))), (34, (7, (8, (11, (2, [(0, 22)]))))), (37, (2, (0, (0, (0, []))))), (38, (0, (0, (0, ((-1), []))))), (39, (7, (8, (13, (0, [(0, 25)]))))), (42, (2, (0, (0, (0, []))))), (43, (0, (0, (0, (8, []))))), (45, (38, (0, (0, (0, []))))), (47, (7, (8, (14, (2, [(0, 28)]))))), (50, (2, (0, (0, (0, []))))), (51, (0, (0, (0, (1, []))))), (52, (7, (8, (26, (0, [(0, 31)]))))), (55, (2, (0, (0, (0, []))))), (56, (0, (0, (0, (100, []))))), (58, (7, (8, (27, (0, [(0, 34)]))))), (61, (2, (0, (0, (0, []))))), (62, (0, (0, (0, ((-1), []))))), (63, (7, (8, (28, (0, [(0, 37)]))))), (66, (2, (0, (0, (0, []))))), (67, (0, (0, (0, (13, []))))), (69, (0, (0, (0, (5, []))))), (70, (39, (0, (0, (0, [(0, 17)]))))), (74, (7, (8, (30, (2, [(0, 40)]))))), (77, (2, (0, (0, (0, []))))), (78, (0, (0, (0, (13, []))))), (80, (38, (0, (0, (0, []))))), (82, (7, (8, (31, (2, [(0, 43)]))))), (85, (2, (0, (0, (0, []))))), (86, (0, (0, (0, (13, []))))), (88, (38, (0, (0, (0, []))))), (90, (7, (8, (32, (2, [(0, 46)]))))), (93, (2, (0, (0, (0, []))))), (94, (0, (0, (0, (13, []))))), (96, (0, (0, (0, (4, []))))), (97, (39, (1, (0, (0, [(0, 49)]))))), (101, (7, (8, (33, (2, [(0, 51)]))))), (104, (2, (0, (0, (0, []))))), (105, (0, (0, (0, (13, []))))), (107, (38, (0, (0, (0, []))))), (109, (7, (8, (35, (2, [(0, 54)]))))), (112, (2, (0, (0, (0, []))))), (113, (0, (0, (0, (13, []))))), (115, (38, (0, (0, (0, []))))), (117, (7, (8, (36, (2, [(0, 57)]))))), (120, (2, (0, (0, (0, []))))), (121, (0, (0, (0, (13, []))))), (123, (38, (0, (0, (0, []))))), (125, (7, (8, (37, (2, [(0, 60)]))))), (128, (2, (0, (0, (0, []))))), (129, (0, (0, (0, (13, []))))), (131, (38, (0, (0, (0, []))))), (133, (7, (8, (38, (2, [(0, 63)]))))), (136, (2, (0, (0, (0, []))))), (137, (0, (0, (0, (13, []))))), (139, (38, (0, (0, (0, []))))), (141, (7, (8, (39, (2, [(0, 66)]))))), (144, (2, (0, (0, (0, []))))), (145, (0, (0, (0, (13, []))))), (147, (38, (1, (0, (0, []))))), (149, (7, (8, (40, (2, [(0, 69)]))))), (152, (2, (0, (0, (0, []))))), (153, (0, (0, (0, (13, []))))), (155, (38, (1, (0, (0, []))))), (157, (7, (8, (41, (2, [(0, 73)]))))), (160, (2, (0, (0, (0, []))))), (161, (0, (0, (0, (13, []))))), (163, (0, (0, (0, (8, []))))), (165, (39, (0, (0, (0, [(0, 17)]))))), (169, (7, (8, (42, (2, [(0, 76)]))))), (172, (2, (0, (0, (0, []))))), (173, (0, (0, (0, (8, []))))), (175, (0, (0, (0, (3, []))))), (176, (39, (0, (0, (0, [(0, 17)]))))), (180, (7, (8, (44, (2, [(0, 79)]))))), (183, (2, (0, (0, (0, []))))), (184, (0, (0, (0, (13, []))))), (186, (0, (0, (0, (4, []))))), (187, (39, (1, (0, (0, [(0, 49)]))))), (191, (7, (8, (45, (2, [(0, 82)]))))), (194, (2, (0, (0, (0, []))))), (195, (0, (0, (0, (256, []))))), (198, (0, (0, (0, (13, []))))), (200, (39, (0, (0, (0, [(0, 17)]))))), (204, (7, (8, (48, (2, [(0, 85)]))))), (207, (2, (0, (0, (0, []))))), (208, (0, (0, (0, (20, []))))), (210, (0, (0, (0, (2, []))))), (211, (39, (0, (0, (0, [(0, 17)]))))), (215, (7, (8, (51, (2, [(0, 88)]))))), (218, (2, (0, (0, (0, []))))), (219, (0, (0, (0, (3, []))))), (220, (0, (0, (0, (320, []))))), (223, (39, (0, (0, (0, [(0, 17)]))))), (227, (7, (8, (53, (2, [(0, 91)]))))), (230, (0, (0, (0, (0, []))))), (231, (3, (1, (0, (0, []))))), (232, (1, (1, (0, (0, []))))), (233, (0, (0, (0, (13, []))))), (235, (19, (3, (122, (0, []))))), (238, (2, (0, (0, (0, []))))), (239, (6, (8, (31, (0, [(0, 43)]))))), (242, (1, (1, (0, (0, []))))), (243, (0, (0, (0, (9999, []))))), (246, (9, (0, (0, (0, []))))), (247, (5, (1, (0, (1, []))))), (250, (20, (0, (112, (0, []))))), (253, (29, (0, (0, (0, [])))))], ([], 2))
set_option maxRecDepth 100000 in
noncomputable def m_X8_thrown : m_Md := ([(0, (2, (0, (0, (0, []))))), (1, (6, (8, (0, (0, [(0, 94)]))))), (4, (27, (0, (0, (0, [])))))], ([], 1))
set_option maxRecDepth 100000 in
noncomputable def m_X8_bad : m_Md := ([(0, (1, (1, (0, (0, []))))), (1, (18, (0, (8, (0, []))))), (4, (2, (0, (0, (0, []))))), (5, (6, (8, (0, (0, [(0, 94)]))))), (8, (18, (1, (8, (0, []))))), (11, (2, (0, (0, (0, []))))), (12, (1, (2, (0, (0, []))))), (13, (7, (8, (0, (0, [(0, 94)]))))), (16, (2, (0, (0, (0, []))))), (17, (6, (8, (0, (0, [(0, 94)]))))), (20, (18, (0, (13, (0, []))))), (23, (0, (0, (0, (1, []))))), (24, (20, (0, (14, (0, []))))), (27, (0, (0, (0, (0, []))))), (28, (27, (1, (0, (0, [])))))], ([], 3))
set_option maxRecDepth 100000 in
noncomputable def m_X8_in : m_Md := ([(0, (1, (0, (0, (0, []))))), (1, (1, (1, (0, (0, []))))), (2, (19, (2, (8, (0, []))))), (5, (1, (0, (0, (0, []))))), (6, (1, (2, (0, (0, []))))), (7, (19, (4, (8, (0, []))))), (10, (0, (0, (0, (1, []))))), (11, (20, (0, (9, (0, []))))), (14, (0, (0, (0, (0, []))))), (15, (27, (1, (0, (0, [])))))], ([], 3))
set_option maxRecDepth 100000 in
noncomputable def m_X8_less : m_Md := ([(0, (1, (0, (0, (0, []))))), (1, (1, (1, (0, (0, []))))), (2, (19, (3, (5, (0, []))))), (5, (1, (0, (0, (0, []))))), (6, (20, (0, (6, (0, []))))), (9, (1, (1, (0, (0, []))))), (10, (27, (0, (0, (0, [])))))], ([], 2))
set_option maxRecDepth 100000 in
noncomputable def m_X8_feed : m_Md := ([(0, (2, (0, (0, (0, []))))), (1, (0, (0, (0, (0, []))))), (2, (7, (8, (0, (0, [(0, 94)]))))), (5, (2, (0, (0, (0, []))))), (6, (6, (8, (1, (0, [(0, 97)]))))), (9, (0, (0, (0, (20, []))))), (11, (17, (0, (0, (0, []))))), (12, (0, (0, (0, (500, []))))), (15, (19, (5, (11, (0, []))))), (18, (0, (0, (0, ((-1), []))))), (19, (27, (0, (0, (0, []))))), (20, (0, (0, (0, (0, []))))), (21, (3, (6, (0, (0, []))))), (23, (1, (6, (0, (0, []))))), (25, (0, (0, (0, (20, []))))), (27, (19, (3, (62, (0, []))))), (30, (1, (6, (0, (0, []))))), (32, (0, (0, (0, (4, []))))), (33, (19, (3, (21, (0, []))))), (36, (1, (1, (0, (0, []))))), (37, (20, (0, (37, (0, []))))), (40, (1, (6, (0, (0, []))))), (42, (0, (0, (0, (8, []))))), (44, (19, (3, (26, (0, []))))), (47, (1, (2, (0, (0, []))))), (48, (20, (0, (37, (0, []))))), (51, (1, (6, (0, (0, []))))), (53, (0, (0, (0, (12, []))))), (55, (19, (3, (31, (0, []))))), (58, (1, (3, (0, (0, []))))), (59, (20, (0, (37, (0, []))))), (62, (1, (6, (0, (0, []))))), (64, (0, (0, (0, (16, []))))), (66, (19, (3, (36, (0, []))))), (69, (1, (4, (0, (0, []))))), (71, (20, (0, (37, (0, []))))), (74, (1, (5, (0, (0, []))))), (76, (3, (7, (0, (0, []))))), (78, (2, (0, (0, (0, []))))), (79, (6, (8, (9, (0, [(0, 13)]))))), (82, (2, (0, (0, (0, []))))), (83, (6, (8, (1, (0, [(0, 97)]))))), (86, (1, (7, (0, (0, []))))), (88, (0, (0, (0, (24, []))))), (90, (0, (0, (0, (8, []))))), (92, (1, (6, (0, (0, []))))), (94, (0, (0, (0, (4, []))))), (95, (17, (4, (0, (0, []))))), (96, (17, (2, (0, (0, []))))), (97, (17, (1, (0, (0, []))))), (98, (17, (6, (0, (0, []))))), (99, (0, (0, (0, (255, []))))), (102, (17, (7, (0, (0, []))))), (103, (9, (0, (0, (0, []))))), (104, (2, (0, (0, (0, []))))), (105, (22, (0, (0, (0, []))))), (106, (6, (8, (1, (0, [(0, 97)]))))), (109, (0, (0, (0, (1, []))))), (110, (17, (0, (0, (0, []))))), (111, (7, (8, (1, (0, [(0, 97)]))))), (114, (5, (6, (0, (1, []))))), (117, (20, (0, (13, (0, []))))), (120, (2, (0, (0, (0, []))))), (121, (6, (8, (1, (0, [(0, 97)]))))), (124, (27, (0, (0, (0, [])))))], ([], 8))
set_option maxRecDepth 100000 in
noncomputable def m_X8_byteAt : m_Md := ([(0, (1, (1, (0, (0, []))))), (1, (2, (0, (0, (0, []))))), (2, (6, (8, (2, (0, [(0, 100)]))))), (5, (19, (2, (6, (0, []))))), (8, (0, (0, (0, ((-1), []))))), (9, (20, (0, (22, (0, []))))), (12, (2, (0, (0, (0, []))))), (13, (6, (8, (8, (0, [(0, 103)]))))), (16, (0, (0, (0, ((-1), []))))), (17, (19, (1, (15, (0, []))))), (20, (2, (0, (0, (0, []))))), (21, (6, (8, (9, (0, [(0, 13)]))))), (24, (1, (1, (0, (0, []))))), (25, (8, (0, (0, (0, []))))), (26, (20, (0, (22, (0, []))))), (29, (2, (0, (0, (0, []))))), (30, (6, (8, (10, (0, [(0, 19)]))))), (33, (2, (0, (0, (0, []))))), (34, (6, (8, (8, (0, [(0, 103)]))))), (37, (12, (0, (0, (0, []))))), (38, (1, (1, (0, (0, []))))), (39, (8, (0, (0, (0, []))))), (40, (27, (0, (0, (0, [])))))], ([], 2))
set_option maxRecDepth 100000 in
noncomputable def m_X8_blanks : m_Md := ([(0, (2, (0, (0, (0, []))))), (1, (2, (0, (0, (0, []))))), (2, (6, (8, (4, (0, [(0, 106)]))))), (5, (30, (138, (2, (9, [(0, 109)]))))), (8, (0, (0, (0, (32, []))))), (10, (19, (1, (13, (0, []))))), (13, (2, (0, (0, (0, []))))), (14, (22, (0, (0, (0, []))))), (15, (6, (8, (4, (0, [(0, 106)]))))), (18, (0, (0, (0, (1, []))))), (19, (17, (0, (0, (0, []))))), (20, (7, (8, (4, (0, [(0, 106)]))))), (23, (20, (0, (0, (0, []))))), (26, (29, (0, (0, (0, [])))))], ([], 1))
set_option maxRecDepth 100000 in
noncomputable def m_X8_wrongAt : m_Md := ([(0, (2, (0, (0, (0, []))))), (1, (6, (8, (6, (0, [(0, 113)]))))), (4, (18, (1, (9, (0, []))))), (7, (2, (0, (0, (0, []))))), (8, (1, (1, (0, (0, []))))), (9, (7, (8, (6, (0, [(0, 113)]))))), (12, (2, (0, (0, (0, []))))), (13, (1, (2, (0, (0, []))))), (14, (7, (8, (7, (0, [(0, 116)]))))), (17, (29, (0, (0, (0, [])))))], ([], 3))
set_option maxRecDepth 100000 in
noncomputable def m_X8_isDigit : m_Md := ([(0, (1, (0, (0, (0, []))))), (1, (0, (0, (0, (48, []))))), (3, (19, (2, (8, (0, []))))), (6, (1, (0, (0, (0, []))))), (7, (0, (0, (0, (57, []))))), (9, (19, (4, (8, (0, []))))), (12, (0, (0, (0, (1, []))))), (13, (20, (0, (9, (0, []))))), (16, (0, (0, (0, (0, []))))), (17, (27, (1, (0, (0, [])))))], ([], 1))
set_option maxRecDepth 100000 in
noncomputable def m_X8_number : m_Md := ([(0, (2, (0, (0, (0, []))))), (1, (30, (139, (1, (9, [(0, 119)]))))), (4, (2, (0, (0, (0, []))))), (5, (6, (8, (4, (0, [(0, 106)]))))), (8, (3, (3, (0, (0, []))))), (9, (0, (0, (0, (0, []))))), (10, (3, (4, (0, (0, []))))), (12, (2, (0, (0, (0, []))))), (13, (2, (0, (0, (0, []))))), (14, (6, (8, (4, (0, [(0, 106)]))))), (17, (30, (138, (2, (9, [(0, 109)]))))), (20, (30, (141, (1, (0, [(1, 122)]))))), (23, (18, (1, (18, (0, []))))), (26, (2, (0, (0, (0, []))))), (27, (0, (0, (0, (1, []))))), (28, (2, (0, (0, (0, []))))), (29, (6, (8, (4, (0, [(0, 106)]))))), (32, (30, (140, (3, (9, [(0, 126)]))))), (35, (2, (0, (0, (0, []))))), (36, (2, (0, (0, (0, []))))), (37, (6, (8, (4, (0, [(0, 106)]))))), (40, (30, (138, (2, (9, [(0, 109)]))))), (43, (30, (141, (1, (0, [(1, 122)]))))), (46, (18, (0, (49, (0, []))))), (49, (0, (0, (0, (10, []))))), (51, (1, (4, (0, (0, []))))), (53, (17, (2, (0, (0, []))))), (54, (2, (0, (0, (0, []))))), (55, (2, (0, (0, (0, []))))), (56, (6, (8, (4, (0, [(0, 106)]))))), (59, (30, (138, (2, (9, [(0, 109)]))))), (62, (17, (0, (0, (0, []))))), (63, (0, (0, (0, (48, []))))), (65, (17, (1, (0, (0, []))))), (66, (3, (4, (0, (0, []))))), (68, (1, (4, (0, (0, []))))), (70, (0, (130, (0, (100000, []))))), (72, (19, (5, (40, (0, []))))), (75, (0, (130, (0, (100000, []))))), (77, (20, (0, (41, (0, []))))), (80, (1, (4, (0, (0, []))))), (82, (3, (4, (0, (0, []))))), (84, (2, (0, (0, (0, []))))), (85, (22, (0, (0, (0, []))))), (86, (6, (8, (4, (0, [(0, 106)]))))), (89, (0, (0, (0, (1, []))))), (90, (17, (0, (0, (0, []))))), (91, (7, (8, (4, (0, [(0, 106)]))))), (94, (20, (0, (18, (0, []))))), (97, (1, (4, (0, (0, []))))), (99, (1, (1, (0, (0, []))))), (100, (1, (2, (0, (0, []))))), (101, (30, (135, (3, (0, [(1, 131)]))))), (104, (18, (1, (58, (0, []))))), (107, (2, (0, (0, (0, []))))), (108, (0, (0, (0, (2, []))))), (109, (1, (3, (0, (0, []))))), (110, (30, (140, (3, (9, [(0, 126)]))))), (113, (1, (4, (0, (0, []))))), (115, (27, (0, (0, (0, [])))))], ([], 5))
set_option maxRecDepth 100000 in
noncomputable def m_X8_wordHere : m_Md := ([(0, (2, (0, (0, (0, []))))), (1, (30, (139, (1, (9, [(0, 119)]))))), (4, (0, (0, (0, (0, []))))), (5, (3, (1, (0, (0, []))))), (6, (0, (0, (0, (0, []))))), (7, (3, (2, (0, (0, []))))), (8, (2, (0, (0, (0, []))))), (9, (2, (0, (0, (0, []))))), (10, (6, (8, (4, (0, [(0, 106)]))))), (13, (1, (2, (0, (0, []))))), (14, (17, (0, (0, (0, []))))), (15, (30, (138, (2, (9, [(0, 109)]))))), (18, (0, (0, (0, (97, []))))), (20, (19, (2, (44, (0, []))))), (23, (2, (0, (0, (0, []))))), (24, (2, (0, (0, (0, []))))), (25, (6, (8, (4, (0, [(0, 106)]))))), (28, (1, (2, (0, (0, []))))), (29, (17, (0, (0, (0, []))))), (30, (30, (138, (2, (9, [(0, 109)]))))), (33, (0, (0, (0, (122, []))))), (35, (19, (4, (44, (0, []))))), (38, (1, (2, (0, (0, []))))), (39, (0, (0, (0, (6, []))))), (41, (19, (3, (40, (0, []))))), (44, (0, (0, (0, (27, []))))), (46, (1, (1, (0, (0, []))))), (47, (17, (2, (0, (0, []))))), (48, (2, (0, (0, (0, []))))), (49, (2, (0, (0, (0, []))))), (50, (6, (8, (4, (0, [(0, 106)]))))), (53, (1, (2, (0, (0, []))))), (54, (17, (0, (0, (0, []))))), (55, (30, (138, (2, (9, [(0, 109)]))))), (58, (17, (0, (0, (0, []))))), (59, (0, (0, (0, (97, []))))), (61, (17, (1, (0, (0, []))))), (62, (0, (0, (0, (1, []))))), (63, (17, (0, (0, (0, []))))), (64, (20, (0, (41, (0, []))))), (67, (1, (1, (0, (0, []))))), (68, (3, (1, (0, (0, []))))), (69, (5, (2, (0, (1, []))))), (72, (20, (0, (6, (0, []))))), (75, (1, (2, (0, (0, []))))), (76, (0, (0, (0, (7, []))))), (78, (19, (3, (49, (0, []))))), (81, (1, (1, (0, (0, []))))), (82, (20, (0, (58, (0, []))))), (85, (1, (2, (0, (0, []))))), (86, (0, (0, (0, (7, []))))), (88, (19, (1, (57, (0, []))))), (91, (2, (0, (0, (0, []))))), (92, (30, (144, (1, (9, [(0, 135)]))))), (95, (18, (0, (57, (0, []))))), (98, (0, (0, (0, ((-2), []))))), (100, (20, (0, (58, (0, []))))), (103, (0, (0, (0, ((-1), []))))), (104, (27, (0, (0, (0, [])))))], ([], 3))
set_option maxRecDepth 100000 in
noncomputable def m_X8_isAnswers : m_Md := ([(0, (2, (0, (0, (0, []))))), (1, (2, (0, (0, (0, []))))), (2, (6, (8, (4, (0, [(0, 106)]))))), (5, (30, (138, (2, (9, [(0, 109)]))))), (8, (0, (0, (0, (97, []))))), (10, (19, (1, (56, (0, []))))), (13, (2, (0, (0, (0, []))))), (14, (2, (0, (0, (0, []))))), (15, (6, (8, (4, (0, [(0, 106)]))))), (18, (0, (0, (0, (1, []))))), (19, (17, (0, (0, (0, []))))), (20, (30, (138, (2, (9, [(0, 109)]))))), (23, (0, (0, (0, (110, []))))), (25, (19, (1, (56, (0, []))))), (28, (2, (0, (0, (0, []))))), (29, (2, (0, (0, (0, []))))), (30, (6, (8, (4, (0, [(0, 106)]))))), (33, (0, (0, (0, (2, []))))), (34, (17, (0, (0, (0, []))))), (35, (30, (138, (2, (9, [(0, 109)]))))), (38, (0, (0, (0, (115, []))))), (40, (19, (1, (56, (0, []))))), (43, (2, (0, (0, (0, []))))), (44, (2, (0, (0, (0, []))))), (45, (6, (8, (4, (0, [(0, 106)]))))), (48, (0, (0, (0, (3, []))))), (49, (17, (0, (0, (0, []))))), (50, (30, (138, (2, (9, [(0, 109)]))))), (53, (0, (0, (0, (119, []))))), (55, (19, (1, (56, (0, []))))), (58, (2, (0, (0, (0, []))))), (59, (2, (0, (0, (0, []))))), (60, (6, (8, (4, (0, [(0, 106)]))))), (63, (0, (0, (0, (4, []))))), (64, (17, (0, (0, (0, []))))), (65, (30, (138, (2, (9, [(0, 109)]))))), (68, (0, (0, (0, (101, []))))), (70, (19, (1, (56, (0, []))))), (73, (2, (0, (0, (0, []))))), (74, (2, (0, (0, (0, []))))), (75, (6, (8, (4, (0, [(0, 106)]))))), (78, (0, (0, (0, (5, []))))), (79, (17, (0, (0, (0, []))))), (80, (30, (138, (2, (9, [(0, 109)]))))), (83, (0, (0, (0, (114, []))))), (85, (19, (1, (56, (0, []))))), (88, (2, (0, (0, (0, []))))), (89, (2, (0, (0, (0, []))))), (90, (6, (8, (4, (0, [(0, 106)]))))), (93, (0, (0, (0, (6, []))))), (95, (17, (0, (0, (0, []))))), (96, (30, (138, (2, (9, [(0, 109)]))))), (99, (0, (0, (0, (115, []))))), (101, (19, (1, (56, (0, []))))), (104, (0, (0, (0, (1, []))))), (105, (20, (0, (57, (0, []))))), (108, (0, (0, (0, (0, []))))), (109, (27, (1, (0, (0, [])))))], ([], 1))
set_option maxRecDepth 100000 in
noncomputable def m_X8_word : m_Md := ([(0, (0, (0, (0, (27, []))))), (2, (1, (0, (0, (0, []))))), (3, (17, (2, (0, (0, []))))), (4, (1, (1, (0, (0, []))))), (5, (17, (0, (0, (0, []))))), (6, (3, (6, (0, (0, []))))), (8, (1, (2, (0, (0, []))))), (9, (18, (1, (10, (0, []))))), (12, (1, (6, (0, (0, []))))), (14, (20, (0, (15, (0, []))))), (17, (0, (0, (0, (27, []))))), (19, (1, (6, (0, (0, []))))), (21, (17, (2, (0, (0, []))))), (22, (1, (2, (0, (0, []))))), (23, (17, (0, (0, (0, []))))), (24, (3, (6, (0, (0, []))))), (26, (1, (3, (0, (0, []))))), (27, (18, (1, (20, (0, []))))), (30, (1, (6, (0, (0, []))))), (32, (20, (0, (25, (0, []))))), (35, (0, (0, (0, (27, []))))), (37, (1, (6, (0, (0, []))))), (39, (17, (2, (0, (0, []))))), (40, (1, (3, (0, (0, []))))), (41, (17, (0, (0, (0, []))))), (42, (3, (6, (0, (0, []))))), (44, (1, (4, (0, (0, []))))), (46, (18, (1, (30, (0, []))))), (49, (1, (6, (0, (0, []))))), (51, (20, (0, (35, (0, []))))), (54, (0, (0, (0, (27, []))))), (56, (1, (6, (0, (0, []))))), (58, (17, (2, (0, (0, []))))), (59, (1, (4, (0, (0, []))))), (61, (17, (0, (0, (0, []))))), (62, (3, (6, (0, (0, []))))), (64, (1, (5, (0, (0, []))))), (66, (18, (1, (40, (0, []))))), (69, (1, (6, (0, (0, []))))), (71, (20, (0, (45, (0, []))))), (74, (0, (0, (0, (27, []))))), (76, (1, (6, (0, (0, []))))), (78, (17, (2, (0, (0, []))))), (79, (1, (5, (0, (0, []))))), (81, (17, (0, (0, (0, []))))), (82, (27, (0, (0, (0, [])))))], ([], 7))
set_option maxRecDepth 100000 in
noncomputable def m_X8_isWord : m_Md := ([(0, (2, (0, (0, (0, []))))), (1, (30, (143, (1, (9, [(0, 139)]))))), (4, (1, (1, (0, (0, []))))), (5, (1, (2, (0, (0, []))))), (6, (1, (3, (0, (0, []))))), (7, (1, (4, (0, (0, []))))), (9, (1, (5, (0, (0, []))))), (11, (1, (6, (0, (0, []))))), (13, (30, (145, (6, (0, [(1, 143)]))))), (16, (19, (1, (12, (0, []))))), (19, (0, (0, (0, (1, []))))), (20, (20, (0, (13, (0, []))))), (23, (0, (0, (0, (0, []))))), (24, (27, (1, (0, (0, [])))))], ([], 7))
set_option maxRecDepth 100000 in
noncomputable def m_X8_skipWord : m_Md := ([(0, (2, (0, (0, (0, []))))), (1, (2, (0, (0, (0, []))))), (2, (6, (8, (4, (0, [(0, 106)]))))), (5, (30, (138, (2, (9, [(0, 109)]))))), (8, (0, (0, (0, (97, []))))), (10, (19, (2, (19, (0, []))))), (13, (2, (0, (0, (0, []))))), (14, (2, (0, (0, (0, []))))), (15, (6, (8, (4, (0, [(0, 106)]))))), (18, (30, (138, (2, (9, [(0, 109)]))))), (21, (0, (0, (0, (122, []))))), (23, (19, (4, (19, (0, []))))), (26, (2, (0, (0, (0, []))))), (27, (22, (0, (0, (0, []))))), (28, (6, (8, (4, (0, [(0, 106)]))))), (31, (0, (0, (0, (1, []))))), (32, (17, (0, (0, (0, []))))), (33, (7, (8, (4, (0, [(0, 106)]))))), (36, (20, (0, (0, (0, []))))), (39, (29, (0, (0, (0, [])))))], ([], 1))
set_option maxRecDepth 100000 in
noncomputable def m_X8_sign : m_Md := ([(0, (2, (0, (0, (0, []))))), (1, (30, (139, (1, (9, [(0, 119)]))))), (4, (2, (0, (0, (0, []))))), (5, (2, (0, (0, (0, []))))), (6, (6, (8, (4, (0, [(0, 106)]))))), (9, (30, (138, (2, (9, [(0, 109)]))))), (12, (1, (1, (0, (0, []))))), (13, (19, (1, (15, (0, []))))), (16, (2, (0, (0, (0, []))))), (17, (22, (0, (0, (0, []))))), (18, (6, (8, (4, (0, [(0, 106)]))))), (21, (0, (0, (0, (1, []))))), (22, (17, (0, (0, (0, []))))), (23, (7, (8, (4, (0, [(0, 106)]))))), (26, (20, (0, (20, (0, []))))), (29, (2, (0, (0, (0, []))))), (30, (0, (0, (0, (1, []))))), (31, (2, (0, (0, (0, []))))), (32, (6, (8, (4, (0, [(0, 106)]))))), (35, (30, (140, (3, (9, [(0, 126)]))))), (38, (29, (0, (0, (0, [])))))], ([], 2))
set_option maxRecDepth 100000 in
noncomputable def m_X8_opens : m_Md := ([(0, (2, (0, (0, (0, []))))), (1, (6, (8, (5, (0, [(0, 147)]))))), (4, (0, (0, (0, (6, []))))), (6, (19, (1, (9, (0, []))))), (9, (2, (0, (0, (0, []))))), (10, (0, (0, (0, (3, []))))), (11, (2, (0, (0, (0, []))))), (12, (6, (8, (4, (0, [(0, 106)]))))), (15, (30, (140, (3, (9, [(0, 126)]))))), (18, (2, (0, (0, (0, []))))), (19, (22, (0, (0, (0, []))))), (20, (6, (8, (5, (0, [(0, 147)]))))), (23, (0, (0, (0, (1, []))))), (24, (17, (0, (0, (0, []))))), (25, (7, (8, (5, (0, [(0, 147)]))))), (28, (2, (0, (0, (0, []))))), (29, (22, (0, (0, (0, []))))), (30, (6, (8, (4, (0, [(0, 106)]))))), (33, (1, (1, (0, (0, []))))), (34, (17, (0, (0, (0, []))))), (35, (7, (8, (4, (0, [(0, 106)]))))), (38, (29, (0, (0, (0, [])))))], ([], 2))
set_option maxRecDepth 100000 in
noncomputable def m_X8_nameHere : m_Md := ([(0, (2, (0, (0, (0, []))))), (1, (0, (0, (0, (6, []))))), (3, (0, (0, (0, (1, []))))), (4, (0, (0, (0, (21, []))))), (6, (0, (0, (0, (12, []))))), (8, (0, (0, (0, (20, []))))), (10, (0, (0, (0, (0, []))))), (11, (30, (146, (7, (9, [(0, 150)]))))), (14, (18, (0, (11, (0, []))))), (17, (0, (0, (0, (0, []))))), (18, (27, (0, (0, (0, []))))), (19, (2, (0, (0, (0, []))))), (20, (0, (0, (0, (20, []))))), (22, (0, (0, (0, (8, []))))), (24, (0, (0, (0, (5, []))))), (25, (0, (0, (0, (18, []))))), (27, (0, (0, (0, (5, []))))), (28, (0, (0, (0, (0, []))))), (29, (30, (146, (7, (9, [(0, 150)]))))), (32, (18, (0, (22, (0, []))))), (35, (0, (0, (0, (1, []))))), (36, (27, (0, (0, (0, []))))), (37, (2, (0, (0, (0, []))))), (38, (0, (0, (0, (21, []))))), (40, (0, (0, (0, (19, []))))), (42, (0, (0, (0, (5, []))))), (43, (0, (0, (0, (0, []))))), (44, (0, (0, (0, (0, []))))), (45, (0, (0, (0, (0, []))))), (46, (30, (146, (7, (9, [(0, 150)]))))), (49, (18, (0, (33, (0, []))))), (52, (0, (0, (0, (2, []))))), (53, (27, (0, (0, (0, []))))), (54, (2, (0, (0, (0, []))))), (55, (0, (0, (0, (12, []))))), (57, (0, (0, (0, (1, []))))), (58, (0, (0, (0, (20, []))))), (60, (0, (0, (0, (5, []))))), (61, (0, (0, (0, (0, []))))), (62, (0, (0, (0, (0, []))))), (63, (30, (146, (7, (9, [(0, 150)]))))), (66, (18, (0, (44, (0, []))))), (69, (0, (0, (0, (3, []))))), (70, (27, (0, (0, (0, []))))), (71, (2, (0, (0, (0, []))))), (72, (0, (0, (0, (16, []))))), (74, (0, (0, (0, (1, []))))), (75, (0, (0, (0, (19, []))))), (77, (0, (0, (0, (19, []))))), (79, (0, (0, (0, (5, []))))), (80, (0, (0, (0, (4, []))))), (81, (30, (146, (7, (9, [(0, 150)]))))), (84, (18, (0, (55, (0, []))))), (87, (0, (0, (0, (4, []))))), (88, (27, (0, (0, (0, []))))), (89, (2, (0, (0, (0, []))))), (90, (0, (0, (0, (20, []))))), (92, (0, (0, (0, (5, []))))), (93, (0, (0, (0, (18, []))))), (95, (0, (0, (0, (13, []))))), (97, (0, (0, (0, (0, []))))), (98, (0, (0, (0, (0, []))))), (99, (30, (146, (7, (9, [(0, 150)]))))), (102, (18, (0, (66, (0, []))))), (105, (0, (0, (0, (5, []))))), (106, (27, (0, (0, (0, []))))), (107, (2, (0, (0, (0, []))))), (108, (0, (0, (0, (22, []))))), (110, (0, (0, (0, (1, []))))), (111, (0, (0, (0, (12, []))))), (113, (0, (0, (0, (21, []))))), (115, (0, (0, (0, (5, []))))), (116, (0, (0, (0, (0, []))))), (117, (30, (146, (7, (9, [(0, 150)]))))), (120, (18, (0, (77, (0, []))))), (123, (0, (0, (0, (6, []))))), (125, (27, (0, (0, (0, []))))), (126, (2, (0, (0, (0, []))))), (127, (0, (0, (0, (4, []))))), (128, (0, (0, (0, (1, []))))), (129, (0, (0, (0, (25, []))))), (131, (0, (0, (0, (19, []))))), (133, (0, (0, (0, (0, []))))), (134, (0, (0, (0, (0, []))))), (135, (30, (146, (7, (9, [(0, 150)]))))), (138, (18, (0, (88, (0, []))))), (141, (0, (0, (0, (7, []))))), (143, (20, (0, (89, (0, []))))), (146, (0, (0, (0, ((-1), []))))), (147, (27, (0, (0, (0, [])))))], ([], 1))
set_option maxRecDepth 100000 in
noncomputable def m_X8_unit : m_Md := ([(0, (2, (0, (0, (0, []))))), (1, (6, (8, (6, (0, [(0, 113)]))))), (4, (18, (0, (5, (0, []))))), (7, (0, (0, (0, (0, []))))), (8, (27, (0, (0, (0, []))))), (9, (2, (0, (0, (0, []))))), (10, (30, (139, (1, (9, [(0, 119)]))))), (13, (2, (0, (0, (0, []))))), (14, (2, (0, (0, (0, []))))), (15, (6, (8, (4, (0, [(0, 106)]))))), (18, (30, (138, (2, (9, [(0, 109)]))))), (21, (30, (141, (1, (0, [(1, 122)]))))), (24, (18, (0, (18, (0, []))))), (27, (2, (0, (0, (0, []))))), (28, (0, (0, (0, (0, []))))), (29, (0, (0, (0, (9999, []))))), (32, (30, (142, (3, (9, [(0, 154)]))))), (35, (27, (0, (0, (0, []))))), (36, (2, (0, (0, (0, []))))), (37, (30, (150, (1, (9, [(0, 158)]))))), (40, (3, (1, (0, (0, []))))), (41, (1, (1, (0, (0, []))))), (42, (0, (0, (0, ((-1), []))))), (43, (19, (0, (31, (0, []))))), (46, (2, (0, (0, (0, []))))), (47, (30, (147, (1, (9, [(0, 161)]))))), (50, (2, (0, (0, (0, []))))), (51, (6, (8, (14, (0, [(0, 28)]))))), (54, (1, (1, (0, (0, []))))), (55, (8, (0, (0, (0, []))))), (56, (27, (0, (0, (0, []))))), (57, (2, (0, (0, (0, []))))), (58, (0, (0, (0, (12, []))))), (60, (0, (0, (0, (5, []))))), (61, (0, (0, (0, (1, []))))), (62, (0, (0, (0, (19, []))))), (64, (0, (0, (0, (20, []))))), (66, (0, (0, (0, (0, []))))), (67, (30, (146, (7, (9, [(0, 150)]))))), (70, (3, (2, (0, (0, []))))), (71, (2, (0, (0, (0, []))))), (72, (0, (0, (0, (13, []))))), (74, (0, (0, (0, (15, []))))), (76, (0, (0, (0, (19, []))))), (78, (0, (0, (0, (20, []))))), (80, (0, (0, (0, (0, []))))), (81, (0, (0, (0, (0, []))))), (82, (30, (146, (7, (9, [(0, 150)]))))), (85, (3, (3, (0, (0, []))))), (86, (1, (2, (0, (0, []))))), (87, (18, (1, (53, (0, []))))), (90, (1, (3, (0, (0, []))))), (91, (18, (0, (55, (0, []))))), (94, (2, (0, (0, (0, []))))), (95, (30, (147, (1, (9, [(0, 161)]))))), (98, (2, (0, (0, (0, []))))), (99, (30, (139, (1, (9, [(0, 119)]))))), (102, (2, (0, (0, (0, []))))), (103, (2, (0, (0, (0, []))))), (104, (6, (8, (4, (0, [(0, 106)]))))), (107, (30, (138, (2, (9, [(0, 109)]))))), (110, (0, (0, (0, (40, []))))), (112, (19, (0, (70, (0, []))))), (115, (2, (0, (0, (0, []))))), (116, (0, (0, (0, (1, []))))), (117, (2, (0, (0, (0, []))))), (118, (6, (8, (4, (0, [(0, 106)]))))), (121, (30, (140, (3, (9, [(0, 126)]))))), (124, (0, (0, (0, (0, []))))), (125, (27, (0, (0, (0, []))))), (126, (2, (0, (0, (0, []))))), (127, (0, (0, (0, (1, []))))), (128, (30, (149, (2, (9, [(0, 164)]))))), (131, (2, (0, (0, (0, []))))), (132, (30, (153, (1, (9, [(0, 168)]))))), (135, (3, (4, (0, (0, []))))), (137, (1, (2, (0, (0, []))))), (138, (18, (1, (80, (0, []))))), (141, (1, (3, (0, (0, []))))), (142, (18, (0, (98, (0, []))))), (145, (2, (0, (0, (0, []))))), (146, (0, (0, (0, (44, []))))), (148, (30, (148, (2, (9, [(0, 171)]))))), (151, (2, (0, (0, (0, []))))), (152, (30, (153, (1, (9, [(0, 168)]))))), (155, (3, (5, (0, (0, []))))), (157, (1, (2, (0, (0, []))))), (158, (1, (5, (0, (0, []))))), (160, (1, (4, (0, (0, []))))), (162, (19, (3, (92, (0, []))))), (165, (0, (0, (0, (1, []))))), (166, (20, (0, (93, (0, []))))), (169, (0, (0, (0, (0, []))))), (170, (19, (1, (96, (0, []))))), (173, (1, (5, (0, (0, []))))), (175, (20, (0, (97, (0, []))))), (178, (1, (4, (0, (0, []))))), (180, (3, (4, (0, (0, []))))), (182, (2, (0, (0, (0, []))))), (183, (0, (0, (0, (41, []))))), (185, (30, (148, (2, (9, [(0, 171)]))))), (188, (2, (0, (0, (0, []))))), (189, (22, (0, (0, (0, []))))), (190, (6, (8, (5, (0, [(0, 147)]))))), (193, (0, (0, (0, (1, []))))), (194, (17, (1, (0, (0, []))))), (195, (7, (8, (5, (0, [(0, 147)]))))), (198, (1, (4, (0, (0, []))))), (200, (27, (0, (0, (0, [])))))], ([], 6))
set_option maxRecDepth 100000 in
noncomputable def m_X8_product : m_Md := ([(0, (2, (0, (0, (0, []))))), (1, (30, (151, (1, (9, [(0, 174)]))))), (4, (3, (1, (0, (0, []))))), (5, (2, (0, (0, (0, []))))), (6, (30, (139, (1, (9, [(0, 119)]))))), (9, (2, (0, (0, (0, []))))), (10, (6, (8, (6, (0, [(0, 113)]))))), (13, (18, (1, (52, (0, []))))), (16, (2, (0, (0, (0, []))))), (17, (2, (0, (0, (0, []))))), (18, (6, (8, (4, (0, [(0, 106)]))))), (21, (30, (138, (2, (9, [(0, 109)]))))), (24, (0, (0, (0, (42, []))))), (26, (19, (0, (20, (0, []))))), (29, (2, (0, (0, (0, []))))), (30, (2, (0, (0, (0, []))))), (31, (6, (8, (4, (0, [(0, 106)]))))), (34, (30, (138, (2, (9, [(0, 109)]))))), (37, (0, (0, (0, (47, []))))), (39, (19, (1, (52, (0, []))))), (42, (2, (0, (0, (0, []))))), (43, (2, (0, (0, (0, []))))), (44, (6, (8, (4, (0, [(0, 106)]))))), (47, (30, (138, (2, (9, [(0, 109)]))))), (50, (3, (2, (0, (0, []))))), (51, (2, (0, (0, (0, []))))), (52, (22, (0, (0, (0, []))))), (53, (6, (8, (4, (0, [(0, 106)]))))), (56, (0, (0, (0, (1, []))))), (57, (17, (0, (0, (0, []))))), (58, (7, (8, (4, (0, [(0, 106)]))))), (61, (2, (0, (0, (0, []))))), (62, (30, (151, (1, (9, [(0, 174)]))))), (65, (3, (3, (0, (0, []))))), (66, (1, (2, (0, (0, []))))), (67, (0, (0, (0, (42, []))))), (69, (19, (1, (41, (0, []))))), (72, (1, (1, (0, (0, []))))), (73, (1, (3, (0, (0, []))))), (74, (17, (2, (0, (0, []))))), (75, (20, (0, (48, (0, []))))), (78, (1, (3, (0, (0, []))))), (79, (18, (1, (45, (0, []))))), (82, (0, (0, (0, (0, []))))), (83, (20, (0, (48, (0, []))))), (86, (1, (1, (0, (0, []))))), (87, (1, (3, (0, (0, []))))), (88, (17, (3, (0, (0, []))))), (89, (3, (1, (0, (0, []))))), (90, (2, (0, (0, (0, []))))), (91, (30, (139, (1, (9, [(0, 119)]))))), (94, (20, (0, (5, (0, []))))), (97, (1, (1, (0, (0, []))))), (98, (27, (0, (0, (0, [])))))], ([], 4))
set_option maxRecDepth 100000 in
noncomputable def m_X8_sum : m_Md := ([(0, (2, (0, (0, (0, []))))), (1, (30, (152, (1, (9, [(0, 177)]))))), (4, (3, (1, (0, (0, []))))), (5, (2, (0, (0, (0, []))))), (6, (30, (139, (1, (9, [(0, 119)]))))), (9, (2, (0, (0, (0, []))))), (10, (6, (8, (6, (0, [(0, 113)]))))), (13, (18, (1, (48, (0, []))))), (16, (2, (0, (0, (0, []))))), (17, (2, (0, (0, (0, []))))), (18, (6, (8, (4, (0, [(0, 106)]))))), (21, (30, (138, (2, (9, [(0, 109)]))))), (24, (0, (0, (0, (43, []))))), (26, (19, (0, (20, (0, []))))), (29, (2, (0, (0, (0, []))))), (30, (2, (0, (0, (0, []))))), (31, (6, (8, (4, (0, [(0, 106)]))))), (34, (30, (138, (2, (9, [(0, 109)]))))), (37, (0, (0, (0, (45, []))))), (39, (19, (1, (48, (0, []))))), (42, (2, (0, (0, (0, []))))), (43, (2, (0, (0, (0, []))))), (44, (6, (8, (4, (0, [(0, 106)]))))), (47, (30, (138, (2, (9, [(0, 109)]))))), (50, (3, (2, (0, (0, []))))), (51, (2, (0, (0, (0, []))))), (52, (22, (0, (0, (0, []))))), (53, (6, (8, (4, (0, [(0, 106)]))))), (56, (0, (0, (0, (1, []))))), (57, (17, (0, (0, (0, []))))), (58, (7, (8, (4, (0, [(0, 106)]))))), (61, (2, (0, (0, (0, []))))), (62, (30, (152, (1, (9, [(0, 177)]))))), (65, (3, (3, (0, (0, []))))), (66, (1, (2, (0, (0, []))))), (67, (0, (0, (0, (43, []))))), (69, (19, (1, (41, (0, []))))), (72, (1, (1, (0, (0, []))))), (73, (1, (3, (0, (0, []))))), (74, (17, (0, (0, (0, []))))), (75, (20, (0, (44, (0, []))))), (78, (1, (1, (0, (0, []))))), (79, (1, (3, (0, (0, []))))), (80, (17, (1, (0, (0, []))))), (81, (3, (1, (0, (0, []))))), (82, (2, (0, (0, (0, []))))), (83, (30, (139, (1, (9, [(0, 119)]))))), (86, (20, (0, (5, (0, []))))), (89, (1, (1, (0, (0, []))))), (90, (27, (0, (0, (0, [])))))], ([], 4))
set_option maxRecDepth 100000 in
noncomputable def m_X8_test : m_Md := ([(0, (2, (0, (0, (0, []))))), (1, (6, (8, (6, (0, [(0, 113)]))))), (4, (18, (0, (5, (0, []))))), (7, (0, (0, (0, (0, []))))), (8, (27, (1, (0, (0, []))))), (9, (2, (0, (0, (0, []))))), (10, (0, (0, (0, (14, []))))), (12, (0, (0, (0, (15, []))))), (14, (0, (0, (0, (20, []))))), (16, (0, (0, (0, (0, []))))), (17, (0, (0, (0, (0, []))))), (18, (0, (0, (0, (0, []))))), (19, (30, (146, (7, (9, [(0, 150)]))))), (22, (18, (0, (32, (0, []))))), (25, (2, (0, (0, (0, []))))), (26, (0, (0, (0, (3, []))))), (27, (30, (149, (2, (9, [(0, 164)]))))), (30, (2, (0, (0, (0, []))))), (31, (30, (154, (1, (9, [(0, 180)]))))), (34, (18, (1, (22, (0, []))))), (37, (0, (0, (0, (1, []))))), (38, (20, (0, (23, (0, []))))), (41, (0, (0, (0, (0, []))))), (42, (3, (1, (0, (0, []))))), (43, (2, (0, (0, (0, []))))), (44, (22, (0, (0, (0, []))))), (45, (6, (8, (5, (0, [(0, 147)]))))), (48, (0, (0, (0, (1, []))))), (49, (17, (1, (0, (0, []))))), (50, (7, (8, (5, (0, [(0, 147)]))))), (53, (1, (1, (0, (0, []))))), (54, (27, (1, (0, (0, []))))), (55, (2, (0, (0, (0, []))))), (56, (2, (0, (0, (0, []))))), (57, (6, (8, (4, (0, [(0, 106)]))))), (60, (30, (138, (2, (9, [(0, 109)]))))), (63, (0, (0, (0, (91, []))))), (65, (19, (1, (55, (0, []))))), (68, (2, (0, (0, (0, []))))), (69, (0, (0, (0, (1, []))))), (70, (30, (149, (2, (9, [(0, 164)]))))), (73, (2, (0, (0, (0, []))))), (74, (30, (156, (1, (9, [(0, 183)]))))), (77, (3, (1, (0, (0, []))))), (78, (2, (0, (0, (0, []))))), (79, (0, (0, (0, (93, []))))), (81, (30, (148, (2, (9, [(0, 171)]))))), (84, (2, (0, (0, (0, []))))), (85, (22, (0, (0, (0, []))))), (86, (6, (8, (5, (0, [(0, 147)]))))), (89, (0, (0, (0, (1, []))))), (90, (17, (1, (0, (0, []))))), (91, (7, (8, (5, (0, [(0, 147)]))))), (94, (1, (1, (0, (0, []))))), (95, (27, (1, (0, (0, []))))), (96, (2, (0, (0, (0, []))))), (97, (30, (153, (1, (9, [(0, 168)]))))), (100, (3, (1, (0, (0, []))))), (101, (2, (0, (0, (0, []))))), (102, (30, (139, (1, (9, [(0, 119)]))))), (105, (2, (0, (0, (0, []))))), (106, (2, (0, (0, (0, []))))), (107, (6, (8, (4, (0, [(0, 106)]))))), (110, (30, (138, (2, (9, [(0, 109)]))))), (113, (3, (2, (0, (0, []))))), (114, (1, (2, (0, (0, []))))), (115, (0, (0, (0, (60, []))))), (117, (19, (0, (79, (0, []))))), (120, (1, (2, (0, (0, []))))), (121, (0, (0, (0, (62, []))))), (123, (19, (0, (79, (0, []))))), (126, (1, (2, (0, (0, []))))), (127, (0, (0, (0, (61, []))))), (129, (19, (0, (79, (0, []))))), (132, (2, (0, (0, (0, []))))), (133, (0, (0, (0, (1, []))))), (134, (2, (0, (0, (0, []))))), (135, (6, (8, (4, (0, [(0, 106)]))))), (138, (30, (140, (3, (9, [(0, 126)]))))), (141, (2, (0, (0, (0, []))))), (142, (22, (0, (0, (0, []))))), (143, (6, (8, (4, (0, [(0, 106)]))))), (146, (0, (0, (0, (1, []))))), (147, (17, (0, (0, (0, []))))), (148, (7, (8, (4, (0, [(0, 106)]))))), (151, (2, (0, (0, (0, []))))), (152, (30, (153, (1, (9, [(0, 168)]))))), (155, (3, (3, (0, (0, []))))), (156, (1, (2, (0, (0, []))))), (157, (0, (0, (0, (60, []))))), (159, (19, (1, (98, (0, []))))), (162, (1, (1, (0, (0, []))))), (163, (1, (3, (0, (0, []))))), (164, (19, (3, (96, (0, []))))), (167, (0, (0, (0, (1, []))))), (168, (20, (0, (114, (0, []))))), (171, (0, (0, (0, (0, []))))), (172, (20, (0, (114, (0, []))))), (175, (1, (2, (0, (0, []))))), (176, (0, (0, (0, (62, []))))), (178, (19, (1, (108, (0, []))))), (181, (1, (1, (0, (0, []))))), (182, (1, (3, (0, (0, []))))), (183, (19, (5, (106, (0, []))))), (186, (0, (0, (0, (1, []))))), (187, (20, (0, (114, (0, []))))), (190, (0, (0, (0, (0, []))))), (191, (20, (0, (114, (0, []))))), (194, (1, (1, (0, (0, []))))), (195, (1, (3, (0, (0, []))))), (196, (19, (1, (113, (0, []))))), (199, (0, (0, (0, (1, []))))), (200, (20, (0, (114, (0, []))))), (203, (0, (0, (0, (0, []))))), (204, (27, (1, (0, (0, [])))))], ([], 4))
set_option maxRecDepth 100000 in
noncomputable def m_X8_ands : m_Md := ([(0, (2, (0, (0, (0, []))))), (1, (30, (154, (1, (9, [(0, 180)]))))), (4, (3, (1, (0, (0, []))))), (5, (2, (0, (0, (0, []))))), (6, (6, (8, (6, (0, [(0, 113)]))))), (9, (18, (1, (29, (0, []))))), (12, (2, (0, (0, (0, []))))), (13, (0, (0, (0, (1, []))))), (14, (0, (0, (0, (14, []))))), (16, (0, (0, (0, (4, []))))), (17, (0, (0, (0, (0, []))))), (18, (0, (0, (0, (0, []))))), (19, (0, (0, (0, (0, []))))), (20, (30, (146, (7, (9, [(0, 150)]))))), (23, (18, (0, (29, (0, []))))), (26, (2, (0, (0, (0, []))))), (27, (30, (147, (1, (9, [(0, 161)]))))), (30, (2, (0, (0, (0, []))))), (31, (30, (154, (1, (9, [(0, 180)]))))), (34, (3, (2, (0, (0, []))))), (35, (1, (1, (0, (0, []))))), (36, (18, (0, (26, (0, []))))), (39, (1, (2, (0, (0, []))))), (40, (18, (0, (26, (0, []))))), (43, (0, (0, (0, (1, []))))), (44, (20, (0, (27, (0, []))))), (47, (0, (0, (0, (0, []))))), (48, (3, (1, (0, (0, []))))), (49, (20, (0, (3, (0, []))))), (52, (1, (1, (0, (0, []))))), (53, (27, (1, (0, (0, [])))))], ([], 3))
set_option maxRecDepth 100000 in
noncomputable def m_X8_ors : m_Md := ([(0, (2, (0, (0, (0, []))))), (1, (30, (155, (1, (9, [(0, 186)]))))), (4, (3, (1, (0, (0, []))))), (5, (2, (0, (0, (0, []))))), (6, (6, (8, (6, (0, [(0, 113)]))))), (9, (18, (1, (29, (0, []))))), (12, (2, (0, (0, (0, []))))), (13, (0, (0, (0, (15, []))))), (15, (0, (0, (0, (18, []))))), (17, (0, (0, (0, (0, []))))), (18, (0, (0, (0, (0, []))))), (19, (0, (0, (0, (0, []))))), (20, (0, (0, (0, (0, []))))), (21, (30, (146, (7, (9, [(0, 150)]))))), (24, (18, (0, (29, (0, []))))), (27, (2, (0, (0, (0, []))))), (28, (30, (147, (1, (9, [(0, 161)]))))), (31, (2, (0, (0, (0, []))))), (32, (30, (155, (1, (9, [(0, 186)]))))), (35, (3, (2, (0, (0, []))))), (36, (1, (1, (0, (0, []))))), (37, (18, (1, (24, (0, []))))), (40, (1, (2, (0, (0, []))))), (41, (18, (0, (26, (0, []))))), (44, (0, (0, (0, (1, []))))), (45, (20, (0, (27, (0, []))))), (48, (0, (0, (0, (0, []))))), (49, (3, (1, (0, (0, []))))), (50, (20, (0, (3, (0, []))))), (53, (1, (1, (0, (0, []))))), (54, (27, (1, (0, (0, [])))))], ([], 3))
set_option maxRecDepth 100000 in
noncomputable def m_X8_keepingHere : m_Md := ([(0, (2, (0, (0, (0, []))))), (1, (0, (0, (0, (6, []))))), (3, (0, (0, (0, (18, []))))), (5, (0, (0, (0, (5, []))))), (6, (0, (0, (0, (5, []))))), (7, (0, (0, (0, (0, []))))), (8, (0, (0, (0, (0, []))))), (9, (30, (146, (7, (9, [(0, 150)]))))), (12, (18, (0, (11, (0, []))))), (15, (0, (0, (0, (0, []))))), (16, (27, (0, (0, (0, []))))), (17, (2, (0, (0, (0, []))))), (18, (0, (0, (0, (16, []))))), (20, (0, (0, (0, (1, []))))), (21, (0, (0, (0, (9, []))))), (23, (0, (0, (0, (4, []))))), (24, (0, (0, (0, (0, []))))), (25, (0, (0, (0, (0, []))))), (26, (30, (146, (7, (9, [(0, 150)]))))), (29, (18, (0, (22, (0, []))))), (32, (0, (0, (0, (1, []))))), (33, (27, (0, (0, (0, []))))), (34, (2, (0, (0, (0, []))))), (35, (0, (0, (0, (12, []))))), (37, (0, (0, (0, (5, []))))), (38, (0, (0, (0, (14, []))))), (40, (0, (0, (0, (20, []))))), (42, (0, (0, (0, (0, []))))), (43, (0, (0, (0, (0, []))))), (44, (30, (146, (7, (9, [(0, 150)]))))), (47, (18, (0, (33, (0, []))))), (50, (0, (0, (0, (2, []))))), (51, (27, (0, (0, (0, []))))), (52, (2, (0, (0, (0, []))))), (53, (0, (0, (0, (8, []))))), (55, (0, (0, (0, (9, []))))), (57, (0, (0, (0, (18, []))))), (59, (0, (0, (0, (5, []))))), (60, (0, (0, (0, (4, []))))), (61, (0, (0, (0, (0, []))))), (62, (30, (146, (7, (9, [(0, 150)]))))), (65, (18, (0, (44, (0, []))))), (68, (0, (0, (0, (3, []))))), (69, (27, (0, (0, (0, []))))), (70, (2, (0, (0, (0, []))))), (71, (0, (0, (0, (16, []))))), (73, (0, (0, (0, (12, []))))), (75, (0, (0, (0, (5, []))))), (76, (0, (0, (0, (4, []))))), (77, (0, (0, (0, (7, []))))), (79, (0, (0, (0, (5, []))))), (80, (30, (146, (7, (9, [(0, 150)]))))), (83, (18, (0, (55, (0, []))))), (86, (0, (0, (0, (4, []))))), (87, (27, (0, (0, (0, []))))), (88, (2, (0, (0, (0, []))))), (89, (0, (0, (0, (23, []))))), (91, (0, (0, (0, (15, []))))), (93, (0, (0, (0, (18, []))))), (95, (0, (0, (0, (11, []))))), (97, (0, (0, (0, (0, []))))), (98, (0, (0, (0, (0, []))))), (99, (30, (146, (7, (9, [(0, 150)]))))), (102, (18, (0, (66, (0, []))))), (105, (0, (0, (0, (5, []))))), (106, (27, (0, (0, (0, []))))), (107, (2, (0, (0, (0, []))))), (108, (0, (0, (0, (1, []))))), (109, (0, (0, (0, (14, []))))), (111, (0, (0, (0, (25, []))))), (113, (0, (0, (0, (0, []))))), (114, (0, (0, (0, (0, []))))), (115, (0, (0, (0, (0, []))))), (116, (30, (146, (7, (9, [(0, 150)]))))), (119, (18, (0, (77, (0, []))))), (122, (0, (0, (0, (6, []))))), (124, (20, (0, (78, (0, []))))), (127, (0, (0, (0, ((-1), []))))), (128, (27, (0, (0, (0, [])))))], ([], 1))
set_option maxRecDepth 100000 in
noncomputable def m_X8_harmHere : m_Md := ([(0, (2, (0, (0, (0, []))))), (1, (0, (0, (0, (23, []))))), (3, (0, (0, (0, (15, []))))), (5, (0, (0, (0, (18, []))))), (7, (0, (0, (0, (14, []))))), (9, (0, (0, (0, (0, []))))), (10, (0, (0, (0, (0, []))))), (11, (30, (146, (7, (9, [(0, 150)]))))), (14, (18, (0, (11, (0, []))))), (17, (0, (0, (0, (0, []))))), (18, (27, (0, (0, (0, []))))), (19, (2, (0, (0, (0, []))))), (20, (0, (0, (0, (8, []))))), (22, (0, (0, (0, (21, []))))), (24, (0, (0, (0, (18, []))))), (26, (0, (0, (0, (20, []))))), (28, (0, (0, (0, (0, []))))), (29, (0, (0, (0, (0, []))))), (30, (30, (146, (7, (9, [(0, 150)]))))), (33, (18, (0, (22, (0, []))))), (36, (0, (0, (0, (1, []))))), (37, (27, (0, (0, (0, []))))), (38, (2, (0, (0, (0, []))))), (39, (0, (0, (0, (4, []))))), (40, (0, (0, (0, (9, []))))), (42, (0, (0, (0, (5, []))))), (43, (0, (0, (0, (4, []))))), (44, (0, (0, (0, (0, []))))), (45, (0, (0, (0, (0, []))))), (46, (30, (146, (7, (9, [(0, 150)]))))), (49, (18, (0, (33, (0, []))))), (52, (0, (0, (0, (2, []))))), (53, (27, (0, (0, (0, []))))), (54, (2, (0, (0, (0, []))))), (55, (0, (0, (0, (12, []))))), (57, (0, (0, (0, (15, []))))), (59, (0, (0, (0, (19, []))))), (61, (0, (0, (0, (20, []))))), (63, (0, (0, (0, (0, []))))), (64, (0, (0, (0, (0, []))))), (65, (30, (146, (7, (9, [(0, 150)]))))), (68, (18, (0, (44, (0, []))))), (71, (0, (0, (0, (3, []))))), (72, (27, (0, (0, (0, []))))), (73, (2, (0, (0, (0, []))))), (74, (0, (0, (0, (19, []))))), (76, (0, (0, (0, (20, []))))), (78, (0, (0, (0, (15, []))))), (80, (0, (0, (0, (12, []))))), (82, (0, (0, (0, (5, []))))), (83, (0, (0, (0, (14, []))))), (85, (30, (146, (7, (9, [(0, 150)]))))), (88, (18, (0, (55, (0, []))))), (91, (0, (0, (0, (4, []))))), (92, (27, (0, (0, (0, []))))), (93, (2, (0, (0, (0, []))))), (94, (0, (0, (0, (6, []))))), (96, (0, (0, (0, (15, []))))), (98, (0, (0, (0, (18, []))))), (100, (0, (0, (0, (3, []))))), (101, (0, (0, (0, (5, []))))), (102, (0, (0, (0, (4, []))))), (103, (30, (146, (7, (9, [(0, 150)]))))), (106, (18, (0, (66, (0, []))))), (109, (0, (0, (0, (5, []))))), (110, (27, (0, (0, (0, []))))), (111, (2, (0, (0, (0, []))))), (112, (0, (0, (0, (1, []))))), (113, (0, (0, (0, (12, []))))), (115, (0, (0, (0, (12, []))))), (117, (0, (0, (0, (0, []))))), (118, (0, (0, (0, (0, []))))), (119, (0, (0, (0, (0, []))))), (120, (30, (146, (7, (9, [(0, 150)]))))), (123, (18, (0, (77, (0, []))))), (126, (0, (0, (0, (6, []))))), (128, (20, (0, (78, (0, []))))), (131, (0, (0, (0, ((-1), []))))), (132, (27, (0, (0, (0, [])))))], ([], 1))
set_option maxRecDepth 100000 in
noncomputable def m_X8_harms : m_Md := ([(0, (0, (0, (0, (0, []))))), (1, (3, (1, (0, (0, []))))), (2, (0, (0, (0, (1, []))))), (3, (3, (2, (0, (0, []))))), (4, (1, (2, (0, (0, []))))), (5, (18, (0, (57, (0, []))))), (8, (2, (0, (0, (0, []))))), (9, (6, (8, (6, (0, [(0, 113)]))))), (12, (18, (1, (57, (0, []))))), (15, (2, (0, (0, (0, []))))), (16, (30, (158, (1, (9, [(0, 189)]))))), (19, (3, (3, (0, (0, []))))), (20, (1, (3, (0, (0, []))))), (21, (0, (0, (0, ((-1), []))))), (22, (19, (1, (21, (0, []))))), (25, (2, (0, (0, (0, []))))), (26, (0, (0, (0, (1, []))))), (27, (2, (0, (0, (0, []))))), (28, (6, (8, (4, (0, [(0, 106)]))))), (31, (30, (140, (3, (9, [(0, 126)]))))), (34, (20, (0, (23, (0, []))))), (37, (2, (0, (0, (0, []))))), (38, (30, (147, (1, (9, [(0, 161)]))))), (41, (1, (1, (0, (0, []))))), (42, (18, (1, (32, (0, []))))), (45, (1, (3, (0, (0, []))))), (46, (0, (0, (0, (6, []))))), (48, (19, (0, (32, (0, []))))), (51, (1, (3, (0, (0, []))))), (52, (2, (0, (0, (0, []))))), (53, (6, (8, (16, (0, [(0, 192)]))))), (56, (19, (1, (34, (0, []))))), (59, (0, (0, (0, (1, []))))), (60, (20, (0, (35, (0, []))))), (63, (0, (0, (0, (0, []))))), (64, (3, (1, (0, (0, []))))), (65, (2, (0, (0, (0, []))))), (66, (30, (139, (1, (9, [(0, 119)]))))), (69, (2, (0, (0, (0, []))))), (70, (2, (0, (0, (0, []))))), (71, (6, (8, (4, (0, [(0, 106)]))))), (74, (30, (138, (2, (9, [(0, 109)]))))), (77, (0, (0, (0, (44, []))))), (79, (19, (1, (46, (0, []))))), (82, (0, (0, (0, (1, []))))), (83, (20, (0, (47, (0, []))))), (86, (0, (0, (0, (0, []))))), (87, (3, (2, (0, (0, []))))), (88, (1, (2, (0, (0, []))))), (89, (18, (0, (56, (0, []))))), (92, (2, (0, (0, (0, []))))), (93, (22, (0, (0, (0, []))))), (94, (6, (8, (4, (0, [(0, 106)]))))), (97, (0, (0, (0, (1, []))))), (98, (17, (0, (0, (0, []))))), (99, (7, (8, (4, (0, [(0, 106)]))))), (102, (20, (0, (4, (0, []))))), (105, (1, (1, (0, (0, []))))), (106, (27, (1, (0, (0, [])))))], ([], 4))
set_option maxRecDepth 100000 in
noncomputable def m_X8_terms : m_Md := ([(0, (0, (0, (0, (0, []))))), (1, (3, (1, (0, (0, []))))), (2, (0, (0, (0, (1, []))))), (3, (3, (2, (0, (0, []))))), (4, (1, (2, (0, (0, []))))), (5, (18, (0, (43, (0, []))))), (8, (2, (0, (0, (0, []))))), (9, (6, (8, (6, (0, [(0, 113)]))))), (12, (18, (1, (43, (0, []))))), (15, (2, (0, (0, (0, []))))), (16, (0, (0, (0, (1, []))))), (17, (0, (0, (0, (3, []))))), (18, (30, (142, (3, (9, [(0, 154)]))))), (21, (2, (0, (0, (0, []))))), (22, (6, (8, (17, (0, [(0, 195)]))))), (25, (19, (0, (18, (0, []))))), (28, (1, (1, (0, (0, []))))), (29, (18, (0, (20, (0, []))))), (32, (0, (0, (0, (1, []))))), (33, (20, (0, (21, (0, []))))), (36, (0, (0, (0, (0, []))))), (37, (3, (1, (0, (0, []))))), (38, (2, (0, (0, (0, []))))), (39, (30, (139, (1, (9, [(0, 119)]))))), (42, (2, (0, (0, (0, []))))), (43, (2, (0, (0, (0, []))))), (44, (6, (8, (4, (0, [(0, 106)]))))), (47, (30, (138, (2, (9, [(0, 109)]))))), (50, (0, (0, (0, (44, []))))), (52, (19, (1, (32, (0, []))))), (55, (0, (0, (0, (1, []))))), (56, (20, (0, (33, (0, []))))), (59, (0, (0, (0, (0, []))))), (60, (3, (2, (0, (0, []))))), (61, (1, (2, (0, (0, []))))), (62, (18, (0, (4, (0, []))))), (65, (2, (0, (0, (0, []))))), (66, (22, (0, (0, (0, []))))), (67, (6, (8, (4, (0, [(0, 106)]))))), (70, (0, (0, (0, (1, []))))), (71, (17, (0, (0, (0, []))))), (72, (7, (8, (4, (0, [(0, 106)]))))), (75, (20, (0, (4, (0, []))))), (78, (1, (1, (0, (0, []))))), (79, (27, (1, (0, (0, [])))))], ([], 3))
set_option maxRecDepth 100000 in
noncomputable def m_X8_clause : m_Md := ([(0, (2, (0, (0, (0, []))))), (1, (30, (157, (1, (9, [(0, 198)]))))), (4, (3, (1, (0, (0, []))))), (5, (1, (1, (0, (0, []))))), (6, (0, (0, (0, ((-1), []))))), (7, (19, (1, (17, (0, []))))), (10, (2, (0, (0, (0, []))))), (11, (0, (0, (0, (13, []))))), (13, (0, (0, (0, (9, []))))), (15, (0, (0, (0, (24, []))))), (17, (0, (0, (0, (5, []))))), (18, (0, (0, (0, (4, []))))), (19, (0, (0, (0, (0, []))))), (20, (30, (146, (7, (9, [(0, 150)]))))), (23, (18, (0, (17, (0, []))))), (26, (0, (0, (0, (1, []))))), (27, (20, (0, (18, (0, []))))), (30, (0, (0, (0, (0, []))))), (31, (3, (2, (0, (0, []))))), (32, (1, (1, (0, (0, []))))), (33, (0, (0, (0, ((-1), []))))), (34, (19, (1, (30, (0, []))))), (37, (1, (2, (0, (0, []))))), (38, (18, (1, (30, (0, []))))), (41, (2, (0, (0, (0, []))))), (42, (0, (0, (0, (1, []))))), (43, (2, (0, (0, (0, []))))), (44, (6, (8, (4, (0, [(0, 106)]))))), (47, (30, (140, (3, (9, [(0, 126)]))))), (50, (20, (0, (39, (0, []))))), (53, (2, (0, (0, (0, []))))), (54, (6, (8, (18, (0, [(0, 201)]))))), (57, (0, (0, (0, (24, []))))), (59, (19, (1, (39, (0, []))))), (62, (2, (0, (0, (0, []))))), (63, (0, (0, (0, (3, []))))), (64, (2, (0, (0, (0, []))))), (65, (6, (8, (4, (0, [(0, 106)]))))), (68, (30, (140, (3, (9, [(0, 126)]))))), (71, (2, (0, (0, (0, []))))), (72, (6, (8, (6, (0, [(0, 113)]))))), (75, (18, (0, (43, (0, []))))), (78, (29, (0, (0, (0, []))))), (79, (2, (0, (0, (0, []))))), (80, (30, (147, (1, (9, [(0, 161)]))))), (83, (1, (2, (0, (0, []))))), (84, (18, (0, (50, (0, []))))), (87, (2, (0, (0, (0, []))))), (88, (30, (162, (1, (9, [(0, 204)]))))), (91, (20, (0, (62, (0, []))))), (94, (2, (0, (0, (0, []))))), (95, (1, (1, (0, (0, []))))), (96, (0, (0, (0, (6, []))))), (98, (19, (0, (58, (0, []))))), (101, (1, (1, (0, (0, []))))), (102, (2, (0, (0, (0, []))))), (103, (6, (8, (15, (0, [(0, 207)]))))), (106, (19, (1, (60, (0, []))))), (109, (0, (0, (0, (1, []))))), (110, (20, (0, (61, (0, []))))), (113, (0, (0, (0, (0, []))))), (114, (30, (163, (2, (9, [(0, 210)]))))), (117, (2, (0, (0, (0, []))))), (118, (6, (8, (6, (0, [(0, 113)]))))), (121, (18, (1, (68, (0, []))))), (124, (2, (0, (0, (0, []))))), (125, (0, (0, (0, (59, []))))), (127, (30, (148, (2, (9, [(0, 171)]))))), (130, (2, (0, (0, (0, []))))), (131, (22, (0, (0, (0, []))))), (132, (6, (8, (18, (0, [(0, 201)]))))), (135, (0, (0, (0, (1, []))))), (136, (17, (0, (0, (0, []))))), (137, (7, (8, (18, (0, [(0, 201)]))))), (140, (29, (0, (0, (0, [])))))], ([], 3))
set_option maxRecDepth 100000 in
noncomputable def m_X8_mixes : m_Md := ([(0, (2, (0, (0, (0, []))))), (1, (0, (0, (0, (16, []))))), (3, (0, (0, (0, (1, []))))), (4, (0, (0, (0, (18, []))))), (6, (0, (0, (0, (20, []))))), (8, (0, (0, (0, (19, []))))), (10, (0, (0, (0, (0, []))))), (11, (30, (146, (7, (9, [(0, 150)]))))), (14, (3, (1, (0, (0, []))))), (15, (2, (0, (0, (0, []))))), (16, (0, (0, (0, (12, []))))), (18, (0, (0, (0, (1, []))))), (19, (0, (0, (0, (19, []))))), (21, (0, (0, (0, (20, []))))), (23, (0, (0, (0, (0, []))))), (24, (0, (0, (0, (0, []))))), (25, (30, (146, (7, (9, [(0, 150)]))))), (28, (3, (2, (0, (0, []))))), (29, (1, (1, (0, (0, []))))), (30, (18, (1, (27, (0, []))))), (33, (1, (2, (0, (0, []))))), (34, (18, (1, (27, (0, []))))), (37, (2, (0, (0, (0, []))))), (38, (0, (0, (0, (1, []))))), (39, (2, (0, (0, (0, []))))), (40, (6, (8, (4, (0, [(0, 106)]))))), (43, (30, (140, (3, (9, [(0, 126)]))))), (46, (2, (0, (0, (0, []))))), (47, (6, (8, (6, (0, [(0, 113)]))))), (50, (18, (0, (31, (0, []))))), (53, (29, (0, (0, (0, []))))), (54, (2, (0, (0, (0, []))))), (55, (30, (147, (1, (9, [(0, 161)]))))), (58, (2, (0, (0, (0, []))))), (59, (1, (1, (0, (0, []))))), (60, (18, (0, (38, (0, []))))), (63, (0, (0, (0, (1, []))))), (64, (20, (0, (39, (0, []))))), (67, (0, (0, (0, (2, []))))), (68, (7, (8, (20, (0, [(0, 214)]))))), (71, (29, (0, (0, (0, [])))))], ([], 3))
set_option maxRecDepth 100000 in
noncomputable def m_X8_says : m_Md := ([(0, (2, (0, (0, (0, []))))), (1, (30, (143, (1, (9, [(0, 139)]))))), (4, (3, (2, (0, (0, []))))), (5, (1, (2, (0, (0, []))))), (6, (0, (0, (0, (19, []))))), (8, (0, (0, (0, (23, []))))), (10, (0, (0, (0, (5, []))))), (11, (0, (0, (0, (1, []))))), (12, (0, (0, (0, (18, []))))), (14, (0, (0, (0, (19, []))))), (16, (30, (145, (6, (0, [(1, 143)]))))), (19, (19, (1, (14, (0, []))))), (22, (0, (0, (0, (1, []))))), (23, (20, (0, (15, (0, []))))), (26, (0, (0, (0, (0, []))))), (27, (3, (3, (0, (0, []))))), (28, (1, (2, (0, (0, []))))), (29, (0, (0, (0, ((-2), []))))), (31, (19, (0, (21, (0, []))))), (34, (1, (3, (0, (0, []))))), (35, (18, (0, (68, (0, []))))), (38, (2, (0, (0, (0, []))))), (39, (30, (147, (1, (9, [(0, 161)]))))), (42, (2, (0, (0, (0, []))))), (43, (30, (159, (1, (9, [(0, 217)]))))), (46, (3, (4, (0, (0, []))))), (48, (0, (0, (0, (1, []))))), (49, (3, (5, (0, (0, []))))), (51, (2, (0, (0, (0, []))))), (52, (6, (8, (6, (0, [(0, 113)]))))), (55, (18, (1, (45, (0, []))))), (58, (2, (0, (0, (0, []))))), (59, (0, (0, (0, (9, []))))), (61, (0, (0, (0, (6, []))))), (63, (0, (0, (0, (0, []))))), (64, (0, (0, (0, (0, []))))), (65, (0, (0, (0, (0, []))))), (66, (0, (0, (0, (0, []))))), (67, (30, (146, (7, (9, [(0, 150)]))))), (70, (18, (0, (45, (0, []))))), (73, (2, (0, (0, (0, []))))), (74, (30, (147, (1, (9, [(0, 161)]))))), (77, (2, (0, (0, (0, []))))), (78, (30, (156, (1, (9, [(0, 183)]))))), (81, (3, (5, (0, (0, []))))), (83, (1, (1, (0, (0, []))))), (84, (18, (0, (56, (0, []))))), (87, (1, (4, (0, (0, []))))), (89, (18, (0, (56, (0, []))))), (92, (1, (5, (0, (0, []))))), (94, (18, (0, (56, (0, []))))), (97, (1, (3, (0, (0, []))))), (98, (18, (0, (56, (0, []))))), (101, (2, (0, (0, (0, []))))), (102, (0, (0, (0, (1, []))))), (103, (7, (8, (22, (1, [(0, 220)]))))), (106, (1, (1, (0, (0, []))))), (107, (18, (0, (67, (0, []))))), (110, (1, (4, (0, (0, []))))), (112, (18, (0, (67, (0, []))))), (115, (1, (5, (0, (0, []))))), (117, (18, (0, (67, (0, []))))), (120, (1, (3, (0, (0, []))))), (121, (18, (1, (67, (0, []))))), (124, (2, (0, (0, (0, []))))), (125, (0, (0, (0, (1, []))))), (126, (7, (8, (21, (1, [(0, 224)]))))), (129, (20, (0, (145, (0, []))))), (132, (1, (2, (0, (0, []))))), (133, (0, (0, (0, (15, []))))), (135, (0, (0, (0, (23, []))))), (137, (0, (0, (0, (5, []))))), (138, (0, (0, (0, (19, []))))), (140, (0, (0, (0, (0, []))))), (141, (0, (0, (0, (0, []))))), (142, (30, (145, (6, (0, [(1, 143)]))))), (145, (19, (1, (91, (0, []))))), (148, (2, (0, (0, (0, []))))), (149, (30, (147, (1, (9, [(0, 161)]))))), (152, (2, (0, (0, (0, []))))), (153, (30, (153, (1, (9, [(0, 168)]))))), (156, (3, (4, (0, (0, []))))), (158, (1, (1, (0, (0, []))))), (159, (18, (0, (90, (0, []))))), (162, (2, (0, (0, (0, []))))), (163, (0, (0, (0, (1, []))))), (164, (7, (8, (23, (1, [(0, 227)]))))), (167, (2, (0, (0, (0, []))))), (168, (1, (4, (0, (0, []))))), (170, (7, (8, (19, (0, [(0, 230)]))))), (173, (20, (0, (145, (0, []))))), (176, (1, (2, (0, (0, []))))), (177, (0, (0, (0, (12, []))))), (179, (0, (0, (0, (5, []))))), (180, (0, (0, (0, (20, []))))), (182, (0, (0, (0, (19, []))))), (184, (0, (0, (0, (0, []))))), (185, (0, (0, (0, (0, []))))), (186, (30, (145, (6, (0, [(1, 143)]))))), (189, (19, (1, (118, (0, []))))), (192, (2, (0, (0, (0, []))))), (193, (30, (147, (1, (9, [(0, 161)]))))), (196, (2, (0, (0, (0, []))))), (197, (30, (160, (1, (9, [(0, 233)]))))), (200, (3, (4, (0, (0, []))))), (202, (2, (0, (0, (0, []))))), (203, (2, (0, (0, (0, []))))), (204, (6, (8, (24, (0, [(0, 236)]))))), (207, (18, (1, (113, (0, []))))), (210, (1, (1, (0, (0, []))))), (211, (18, (0, (115, (0, []))))), (214, (1, (4, (0, (0, []))))), (216, (18, (0, (115, (0, []))))), (219, (0, (0, (0, (1, []))))), (220, (20, (0, (116, (0, []))))), (223, (0, (0, (0, (0, []))))), (224, (7, (8, (24, (1, [(0, 236)]))))), (227, (20, (0, (145, (0, []))))), (230, (1, (2, (0, (0, []))))), (231, (0, (0, (0, (20, []))))), (233, (0, (0, (0, (23, []))))), (235, (0, (0, (0, (9, []))))), (237, (0, (0, (0, (3, []))))), (238, (0, (0, (0, (5, []))))), (239, (0, (0, (0, (0, []))))), (240, (30, (145, (6, (0, [(1, 143)]))))), (243, (19, (1, (140, (0, []))))), (246, (2, (0, (0, (0, []))))), (247, (30, (147, (1, (9, [(0, 161)]))))), (250, (2, (0, (0, (0, []))))), (251, (2, (0, (0, (0, []))))), (252, (6, (8, (25, (0, [(0, 239)]))))), (255, (18, (1, (135, (0, []))))), (258, (1, (1, (0, (0, []))))), (259, (18, (0, (137, (0, []))))), (262, (0, (0, (0, (1, []))))), (263, (20, (0, (138, (0, []))))), (266, (0, (0, (0, (0, []))))), (267, (7, (8, (25, (1, [(0, 239)]))))), (270, (20, (0, (145, (0, []))))), (273, (2, (0, (0, (0, []))))), (274, (0, (0, (0, (1, []))))), (275, (2, (0, (0, (0, []))))), (276, (6, (8, (4, (0, [(0, 106)]))))), (279, (30, (140, (3, (9, [(0, 126)]))))), (282, (29, (0, (0, (0, [])))))], ([], 6))
set_option maxRecDepth 100000 in
noncomputable def m_X8_walks : m_Md := ([(0, (2, (0, (0, (0, []))))), (1, (0, (0, (0, (0, []))))), (2, (7, (8, (4, (0, [(0, 106)]))))), (5, (2, (0, (0, (0, []))))), (6, (0, (0, (0, (0, []))))), (7, (7, (8, (5, (0, [(0, 147)]))))), (10, (2, (0, (0, (0, []))))), (11, (0, (0, (0, (0, []))))), (12, (7, (8, (6, (0, [(0, 113)]))))), (15, (2, (0, (0, (0, []))))), (16, (0, (0, (0, ((-1), []))))), (17, (7, (8, (7, (0, [(0, 116)]))))), (20, (2, (0, (0, (0, []))))), (21, (0, (0, (0, (0, []))))), (22, (7, (8, (18, (0, [(0, 201)]))))), (25, (2, (0, (0, (0, []))))), (26, (0, (0, (0, (0, []))))), (27, (7, (8, (21, (1, [(0, 224)]))))), (30, (2, (0, (0, (0, []))))), (31, (0, (0, (0, (0, []))))), (32, (7, (8, (22, (1, [(0, 220)]))))), (35, (2, (0, (0, (0, []))))), (36, (0, (0, (0, (0, []))))), (37, (7, (8, (23, (1, [(0, 227)]))))), (40, (2, (0, (0, (0, []))))), (41, (0, (0, (0, (0, []))))), (42, (7, (8, (19, (0, [(0, 230)]))))), (45, (2, (0, (0, (0, []))))), (46, (0, (0, (0, (0, []))))), (47, (7, (8, (24, (1, [(0, 236)]))))), (50, (2, (0, (0, (0, []))))), (51, (0, (0, (0, (0, []))))), (52, (7, (8, (25, (1, [(0, 239)]))))), (55, (2, (0, (0, (0, []))))), (56, (0, (0, (0, (0, []))))), (57, (7, (8, (20, (0, [(0, 214)]))))), (60, (2, (0, (0, (0, []))))), (61, (30, (139, (1, (9, [(0, 119)]))))), (64, (2, (0, (0, (0, []))))), (65, (6, (8, (6, (0, [(0, 113)]))))), (68, (18, (1, (51, (0, []))))), (71, (2, (0, (0, (0, []))))), (72, (6, (8, (4, (0, [(0, 106)]))))), (75, (2, (0, (0, (0, []))))), (76, (6, (8, (2, (0, [(0, 100)]))))), (79, (19, (3, (51, (0, []))))), (82, (2, (0, (0, (0, []))))), (83, (30, (161, (1, (9, [(0, 242)]))))), (86, (2, (0, (0, (0, []))))), (87, (30, (139, (1, (9, [(0, 119)]))))), (90, (20, (0, (38, (0, []))))), (93, (29, (0, (0, (0, [])))))], ([], 1))
set_option maxRecDepth 100000 in
noncomputable def m_X8_law : m_Md := ([(0, (2, (0, (0, (0, []))))), (1, (0, (0, (0, (0, []))))), (2, (7, (8, (0, (0, [(0, 94)]))))), (5, (2, (0, (0, (0, []))))), (6, (1, (1, (0, (0, []))))), (7, (0, (0, (0, (0, []))))), (8, (2, (0, (0, (0, []))))), (9, (6, (8, (1, (0, [(0, 97)]))))), (12, (30, (135, (3, (0, [(1, 131)]))))), (15, (18, (1, (12, (0, []))))), (18, (0, (0, (0, (1, []))))), (19, (20, (0, (13, (0, []))))), (22, (0, (0, (0, (0, []))))), (23, (0, (0, (0, (1, []))))), (24, (30, (134, (3, (9, [(0, 245)]))))), (27, (18, (0, (18, (0, []))))), (30, (0, (0, (0, (0, []))))), (31, (27, (0, (0, (0, []))))), (32, (2, (0, (0, (0, []))))), (33, (0, (0, (0, (0, []))))), (34, (7, (8, (1, (0, [(0, 97)]))))), (37, (2, (0, (0, (0, []))))), (38, (0, (0, (0, ((-1), []))))), (39, (7, (8, (3, (0, [(0, 9)]))))), (42, (2, (0, (0, (0, []))))), (43, (6, (8, (12, (0, [(0, 249)]))))), (46, (0, (0, (0, (4, []))))), (47, (19, (1, (30, (0, []))))), (50, (0, (0, (0, ((-1), []))))), (51, (27, (0, (0, (0, []))))), (52, (2, (0, (0, (0, []))))), (53, (0, (0, (0, ((-1), []))))), (54, (7, (8, (8, (0, [(0, 103)]))))), (57, (2, (0, (0, (0, []))))), (58, (1, (1, (0, (0, []))))), (59, (7, (8, (2, (0, [(0, 100)]))))), (62, (2, (0, (0, (0, []))))), (63, (30, (164, (1, (9, [(0, 252)]))))), (66, (2, (0, (0, (0, []))))), (67, (2, (0, (0, (0, []))))), (68, (6, (8, (7, (0, [(0, 116)]))))), (71, (7, (8, (3, (0, [(0, 9)]))))), (74, (2, (0, (0, (0, []))))), (75, (6, (8, (6, (0, [(0, 113)]))))), (78, (18, (0, (50, (0, []))))), (81, (2, (0, (0, (0, []))))), (82, (6, (8, (6, (0, [(0, 113)]))))), (85, (0, (0, (0, (10, []))))), (87, (17, (1, (0, (0, []))))), (88, (27, (0, (0, (0, []))))), (89, (0, (0, (0, (0, []))))), (90, (3, (2, (0, (0, []))))), (91, (1, (2, (0, (0, []))))), (92, (1, (1, (0, (0, []))))), (93, (19, (3, (68, (0, []))))), (96, (2, (0, (0, (0, []))))), (97, (6, (8, (10, (0, [(0, 19)]))))), (100, (2, (0, (0, (0, []))))), (101, (6, (8, (12, (0, [(0, 249)]))))), (104, (12, (0, (0, (0, []))))), (105, (1, (2, (0, (0, []))))), (106, (2, (0, (0, (0, []))))), (107, (6, (8, (9, (0, [(0, 13)]))))), (110, (1, (2, (0, (0, []))))), (111, (8, (0, (0, (0, []))))), (112, (9, (0, (0, (0, []))))), (113, (5, (2, (0, (1, []))))), (116, (20, (0, (52, (0, []))))), (119, (2, (0, (0, (0, []))))), (120, (6, (8, (11, (0, [(0, 22)]))))), (123, (2, (0, (0, (0, []))))), (124, (6, (8, (12, (0, [(0, 249)]))))), (127, (1, (1, (0, (0, []))))), (128, (9, (0, (0, (0, []))))), (129, (2, (0, (0, (0, []))))), (130, (22, (0, (0, (0, []))))), (131, (6, (8, (12, (0, [(0, 249)]))))), (134, (0, (0, (0, (1, []))))), (135, (17, (0, (0, (0, []))))), (136, (7, (8, (12, (0, [(0, 249)]))))), (139, (2, (0, (0, (0, []))))), (140, (6, (8, (12, (0, [(0, 249)]))))), (143, (0, (0, (0, (1, []))))), (144, (17, (1, (0, (0, []))))), (145, (27, (0, (0, (0, [])))))], ([], 3))
set_option maxRecDepth 100000 in
noncomputable def m_X8_fault : m_Md := ([(0, (2, (0, (0, (0, []))))), (1, (0, (0, (0, (0, []))))), (2, (7, (8, (0, (0, [(0, 94)]))))), (5, (2, (0, (0, (0, []))))), (6, (6, (8, (3, (0, [(0, 9)]))))), (9, (27, (0, (0, (0, [])))))], ([], 1))
set_option maxRecDepth 100000 in
noncomputable def m_X8_force : m_Md := ([(0, (2, (0, (0, (0, []))))), (1, (0, (0, (0, (0, []))))), (2, (7, (8, (0, (0, [(0, 94)]))))), (5, (2, (0, (0, (0, []))))), (6, (1, (1, (0, (0, []))))), (7, (0, (0, (0, ((-1), []))))), (8, (2, (0, (0, (0, []))))), (9, (6, (8, (12, (0, [(0, 249)]))))), (12, (0, (0, (0, (1, []))))), (13, (17, (1, (0, (0, []))))), (14, (30, (135, (3, (0, [(1, 131)]))))), (17, (18, (1, (14, (0, []))))), (20, (0, (0, (0, (1, []))))), (21, (20, (0, (15, (0, []))))), (24, (0, (0, (0, (0, []))))), (25, (0, (0, (0, (1, []))))), (26, (30, (134, (3, (9, [(0, 245)]))))), (29, (18, (0, (20, (0, []))))), (32, (0, (0, (0, (0, []))))), (33, (27, (0, (0, (0, []))))), (34, (2, (0, (0, (0, []))))), (35, (6, (8, (13, (0, [(0, 25)]))))), (38, (3, (2, (0, (0, []))))), (39, (2, (0, (0, (0, []))))), (40, (1, (1, (0, (0, []))))), (41, (7, (8, (13, (0, [(0, 25)]))))), (44, (1, (2, (0, (0, []))))), (45, (27, (0, (0, (0, [])))))], ([], 3))
set_option maxRecDepth 100000 in
noncomputable def m_X8_asks : m_Md := ([(0, (2, (0, (0, (0, []))))), (1, (1, (2, (0, (0, []))))), (2, (7, (8, (15, (0, [(0, 207)]))))), (5, (2, (0, (0, (0, []))))), (6, (1, (3, (0, (0, []))))), (7, (7, (8, (16, (0, [(0, 192)]))))), (10, (2, (0, (0, (0, []))))), (11, (1, (4, (0, (0, []))))), (13, (7, (8, (17, (0, [(0, 195)]))))), (16, (2, (0, (0, (0, []))))), (17, (0, (0, (0, (0, []))))), (18, (7, (8, (21, (1, [(0, 224)]))))), (21, (2, (0, (0, (0, []))))), (22, (0, (0, (0, (0, []))))), (23, (7, (8, (22, (1, [(0, 220)]))))), (26, (2, (0, (0, (0, []))))), (27, (0, (0, (0, (0, []))))), (28, (7, (8, (24, (1, [(0, 236)]))))), (31, (2, (0, (0, (0, []))))), (32, (0, (0, (0, (0, []))))), (33, (7, (8, (25, (1, [(0, 239)]))))), (36, (2, (0, (0, (0, []))))), (37, (0, (0, (0, (0, []))))), (38, (7, (8, (20, (0, [(0, 214)]))))), (41, (1, (1, (0, (0, []))))), (42, (0, (0, (0, ((-1), []))))), (43, (19, (1, (34, (0, []))))), (46, (2, (0, (0, (0, []))))), (47, (2, (0, (0, (0, []))))), (48, (6, (8, (14, (0, [(0, 28)]))))), (51, (0, (0, (0, (6, []))))), (53, (8, (0, (0, (0, []))))), (54, (7, (8, (19, (0, [(0, 230)]))))), (57, (29, (0, (0, (0, []))))), (58, (2, (0, (0, (0, []))))), (59, (1, (1, (0, (0, []))))), (60, (7, (8, (8, (0, [(0, 103)]))))), (63, (2, (0, (0, (0, []))))), (64, (2, (0, (0, (0, []))))), (65, (6, (8, (11, (0, [(0, 22)]))))), (68, (1, (1, (0, (0, []))))), (69, (8, (0, (0, (0, []))))), (70, (7, (8, (2, (0, [(0, 100)]))))), (73, (2, (0, (0, (0, []))))), (74, (30, (164, (1, (9, [(0, 252)]))))), (77, (2, (0, (0, (0, []))))), (78, (2, (0, (0, (0, []))))), (79, (6, (8, (23, (0, [(0, 227)]))))), (82, (18, (1, (54, (0, []))))), (85, (2, (0, (0, (0, []))))), (86, (6, (8, (14, (0, [(0, 28)]))))), (89, (0, (0, (0, (6, []))))), (91, (8, (0, (0, (0, []))))), (92, (20, (0, (63, (0, []))))), (95, (2, (0, (0, (0, []))))), (96, (6, (8, (19, (0, [(0, 230)]))))), (99, (18, (3, (59, (0, []))))), (102, (0, (0, (0, (0, []))))), (103, (20, (0, (63, (0, []))))), (106, (2, (0, (0, (0, []))))), (107, (6, (8, (19, (0, [(0, 230)]))))), (110, (0, (0, (0, (9999, []))))), (113, (30, (136, (2, (0, [(1, 255)]))))), (116, (7, (8, (19, (0, [(0, 230)]))))), (119, (29, (0, (0, (0, [])))))], ([], 5))
set_option maxRecDepth 100000 in
noncomputable def m_X8_tellsBits : m_Md := ([(0, (0, (0, (0, (0, []))))), (1, (3, (2, (0, (0, []))))), (2, (1, (2, (0, (0, []))))), (3, (0, (0, (0, (5, []))))), (4, (19, (3, (16, (0, []))))), (7, (2, (0, (0, (0, []))))), (8, (6, (8, (14, (0, [(0, 28)]))))), (11, (1, (2, (0, (0, []))))), (12, (1, (1, (0, (0, []))))), (13, (1, (2, (0, (0, []))))), (14, (17, (6, (0, (0, []))))), (15, (0, (0, (0, (1, []))))), (16, (17, (7, (0, (0, []))))), (17, (9, (0, (0, (0, []))))), (18, (5, (2, (0, (1, []))))), (21, (20, (0, (2, (0, []))))), (24, (29, (0, (0, (0, [])))))], ([], 3))
set_option maxRecDepth 100000 in
noncomputable def m_X8_words : m_Md := ([(0, (2, (0, (0, (0, []))))), (1, (0, (0, (0, (0, []))))), (2, (7, (8, (0, (0, [(0, 94)]))))), (5, (2, (0, (0, (0, []))))), (6, (1, (1, (0, (0, []))))), (7, (0, (0, (0, (0, []))))), (8, (2, (0, (0, (0, []))))), (9, (6, (8, (12, (0, [(0, 249)]))))), (12, (0, (0, (0, (1, []))))), (13, (17, (1, (0, (0, []))))), (14, (30, (135, (3, (0, [(1, 131)]))))), (17, (18, (0, (37, (0, []))))), (20, (1, (2, (0, (0, []))))), (21, (0, (0, (0, (0, []))))), (22, (0, (0, (0, (1151, []))))), (25, (30, (135, (3, (0, [(1, 131)]))))), (28, (18, (0, (37, (0, []))))), (31, (1, (3, (0, (0, []))))), (32, (0, (0, (0, (0, []))))), (33, (0, (0, (0, (3, []))))), (34, (30, (135, (3, (0, [(1, 131)]))))), (37, (18, (0, (37, (0, []))))), (40, (1, (4, (0, (0, []))))), (42, (0, (0, (0, (0, []))))), (43, (0, (0, (0, (9999, []))))), (46, (30, (135, (3, (0, [(1, 131)]))))), (49, (18, (0, (37, (0, []))))), (52, (1, (5, (0, (0, []))))), (54, (0, (0, (0, (0, []))))), (55, (0, (0, (0, (9999, []))))), (58, (30, (135, (3, (0, [(1, 131)]))))), (61, (18, (0, (37, (0, []))))), (64, (1, (6, (0, (0, []))))), (66, (0, (0, (0, (0, []))))), (67, (0, (0, (0, (2, []))))), (68, (30, (135, (3, (0, [(1, 131)]))))), (71, (18, (1, (39, (0, []))))), (74, (0, (0, (0, (1, []))))), (75, (20, (0, (40, (0, []))))), (78, (0, (0, (0, (0, []))))), (79, (0, (0, (0, (1, []))))), (80, (30, (134, (3, (9, [(0, 245)]))))), (83, (18, (0, (45, (0, []))))), (86, (0, (0, (0, (0, []))))), (87, (27, (0, (0, (0, []))))), (88, (2, (0, (0, (0, []))))), (89, (1, (2, (0, (0, []))))), (90, (0, (0, (0, (32, []))))), (92, (17, (4, (0, (0, []))))), (93, (30, (169, (2, (9, [(0, 258)]))))), (96, (2, (0, (0, (0, []))))), (97, (6, (8, (14, (0, [(0, 28)]))))), (100, (0, (0, (0, (5, []))))), (101, (1, (3, (0, (0, []))))), (102, (9, (0, (0, (0, []))))), (103, (2, (0, (0, (0, []))))), (104, (6, (8, (14, (0, [(0, 28)]))))), (107, (0, (0, (0, (6, []))))), (109, (1, (4, (0, (0, []))))), (111, (9, (0, (0, (0, []))))), (112, (2, (0, (0, (0, []))))), (113, (6, (8, (14, (0, [(0, 28)]))))), (116, (0, (0, (0, (7, []))))), (118, (1, (5, (0, (0, []))))), (120, (9, (0, (0, (0, []))))), (121, (2, (0, (0, (0, []))))), (122, (1, (1, (0, (0, []))))), (123, (1, (2, (0, (0, []))))), (124, (0, (0, (0, (192, []))))), (127, (17, (3, (0, (0, []))))), (128, (1, (2, (0, (0, []))))), (129, (0, (0, (0, (32, []))))), (131, (17, (3, (0, (0, []))))), (132, (0, (0, (0, (6, []))))), (134, (17, (4, (0, (0, []))))), (135, (0, (0, (0, (0, []))))), (136, (30, (168, (5, (9, [(0, 261)]))))), (139, (1, (6, (0, (0, []))))), (141, (18, (1, (86, (0, []))))), (144, (2, (0, (0, (0, []))))), (145, (6, (8, (21, (0, [(0, 224)]))))), (148, (18, (0, (84, (0, []))))), (151, (0, (0, (0, (1, []))))), (152, (20, (0, (98, (0, []))))), (155, (0, (0, (0, (0, []))))), (156, (20, (0, (98, (0, []))))), (159, (1, (6, (0, (0, []))))), (161, (0, (0, (0, (1, []))))), (162, (19, (1, (96, (0, []))))), (165, (2, (0, (0, (0, []))))), (166, (6, (8, (22, (0, [(0, 220)]))))), (169, (18, (0, (94, (0, []))))), (172, (0, (0, (0, (1, []))))), (173, (20, (0, (98, (0, []))))), (176, (0, (0, (0, (0, []))))), (177, (20, (0, (98, (0, []))))), (180, (2, (0, (0, (0, []))))), (181, (6, (8, (19, (0, [(0, 230)]))))), (184, (27, (0, (0, (0, [])))))], ([], 7))
set_option maxRecDepth 100000 in
noncomputable def m_X8_lets : m_Md := ([(0, (2, (0, (0, (0, []))))), (1, (0, (0, (0, (0, []))))), (2, (7, (8, (0, (0, [(0, 94)]))))), (5, (2, (0, (0, (0, []))))), (6, (1, (1, (0, (0, []))))), (7, (0, (0, (0, (0, []))))), (8, (2, (0, (0, (0, []))))), (9, (6, (8, (12, (0, [(0, 249)]))))), (12, (0, (0, (0, (1, []))))), (13, (17, (1, (0, (0, []))))), (14, (30, (135, (3, (0, [(1, 131)]))))), (17, (18, (0, (22, (0, []))))), (20, (1, (2, (0, (0, []))))), (21, (0, (0, (0, (0, []))))), (22, (0, (0, (0, (5, []))))), (23, (30, (135, (3, (0, [(1, 131)]))))), (26, (18, (0, (22, (0, []))))), (29, (1, (3, (0, (0, []))))), (30, (0, (0, (0, (0, []))))), (31, (0, (0, (0, (3, []))))), (32, (30, (135, (3, (0, [(1, 131)]))))), (35, (18, (1, (24, (0, []))))), (38, (0, (0, (0, (1, []))))), (39, (20, (0, (25, (0, []))))), (42, (0, (0, (0, (0, []))))), (43, (0, (0, (0, (1, []))))), (44, (30, (134, (3, (9, [(0, 245)]))))), (47, (18, (0, (30, (0, []))))), (50, (0, (0, (0, (0, []))))), (51, (27, (1, (0, (0, []))))), (52, (0, (0, (0, (0, []))))), (53, (3, (4, (0, (0, []))))), (55, (1, (4, (0, (0, []))))), (57, (0, (0, (0, (8, []))))), (59, (19, (3, (42, (0, []))))), (62, (2, (0, (0, (0, []))))), (63, (6, (8, (14, (0, [(0, 28)]))))), (66, (1, (4, (0, (0, []))))), (68, (0, (0, (0, (0, []))))), (69, (9, (0, (0, (0, []))))), (70, (5, (4, (0, (1, []))))), (73, (20, (0, (32, (0, []))))), (76, (2, (0, (0, (0, []))))), (77, (1, (1, (0, (0, []))))), (78, (1, (2, (0, (0, []))))), (79, (0, (0, (0, (0, []))))), (80, (1, (3, (0, (0, []))))), (81, (30, (168, (5, (9, [(0, 261)]))))), (84, (1, (3, (0, (0, []))))), (85, (18, (1, (53, (0, []))))), (88, (2, (0, (0, (0, []))))), (89, (6, (8, (25, (0, [(0, 239)]))))), (92, (20, (0, (55, (0, []))))), (95, (2, (0, (0, (0, []))))), (96, (6, (8, (24, (0, [(0, 236)]))))), (99, (27, (1, (0, (0, [])))))], ([], 5))
set_option maxRecDepth 100000 in
noncomputable def m_X8_pass : m_Md := ([(0, (2, (0, (0, (0, []))))), (1, (0, (0, (0, (0, []))))), (2, (7, (8, (0, (0, [(0, 94)]))))), (5, (2, (0, (0, (0, []))))), (6, (1, (1, (0, (0, []))))), (7, (0, (0, (0, (0, []))))), (8, (0, (0, (0, (5, []))))), (9, (30, (135, (3, (0, [(1, 131)]))))), (12, (18, (0, (24, (0, []))))), (15, (1, (2, (0, (0, []))))), (16, (0, (0, (0, (0, []))))), (17, (0, (0, (0, (999, []))))), (20, (30, (135, (3, (0, [(1, 131)]))))), (23, (18, (0, (24, (0, []))))), (26, (1, (3, (0, (0, []))))), (27, (0, (0, (0, (0, []))))), (28, (0, (0, (0, (999, []))))), (31, (30, (135, (3, (0, [(1, 131)]))))), (34, (18, (0, (24, (0, []))))), (37, (1, (4, (0, (0, []))))), (39, (0, (0, (0, (0, []))))), (40, (0, (0, (0, (3, []))))), (41, (30, (135, (3, (0, [(1, 131)]))))), (44, (18, (1, (26, (0, []))))), (47, (0, (0, (0, (1, []))))), (48, (20, (0, (27, (0, []))))), (51, (0, (0, (0, (0, []))))), (52, (0, (0, (0, (1, []))))), (53, (30, (134, (3, (9, [(0, 245)]))))), (56, (18, (0, (32, (0, []))))), (59, (0, (0, (0, (0, []))))), (60, (27, (0, (0, (0, []))))), (61, (2, (0, (0, (0, []))))), (62, (6, (8, (26, (0, [(0, 31)]))))), (65, (0, (0, (0, (13, []))))), (67, (19, (1, (38, (0, []))))), (70, (0, (0, (0, ((-1), []))))), (71, (27, (0, (0, (0, []))))), (72, (2, (0, (0, (0, []))))), (73, (6, (8, (26, (0, [(0, 31)]))))), (76, (0, (0, (0, (1, []))))), (77, (19, (5, (55, (0, []))))), (80, (1, (2, (0, (0, []))))), (81, (2, (0, (0, (0, []))))), (82, (6, (8, (30, (0, [(0, 40)]))))), (85, (2, (0, (0, (0, []))))), (86, (6, (8, (26, (0, [(0, 31)]))))), (89, (0, (0, (0, (1, []))))), (90, (17, (1, (0, (0, []))))), (91, (12, (0, (0, (0, []))))), (92, (0, (0, (0, (1, []))))), (93, (8, (0, (0, (0, []))))), (94, (19, (3, (55, (0, []))))), (97, (0, (0, (0, ((-2), []))))), (99, (27, (0, (0, (0, []))))), (100, (2, (0, (0, (0, []))))), (101, (6, (8, (30, (0, [(0, 40)]))))), (104, (2, (0, (0, (0, []))))), (105, (6, (8, (26, (0, [(0, 31)]))))), (108, (12, (0, (0, (0, []))))), (109, (0, (0, (0, (0, []))))), (110, (1, (1, (0, (0, []))))), (111, (9, (0, (0, (0, []))))), (112, (2, (0, (0, (0, []))))), (113, (6, (8, (30, (0, [(0, 40)]))))), (116, (2, (0, (0, (0, []))))), (117, (6, (8, (26, (0, [(0, 31)]))))), (120, (12, (0, (0, (0, []))))), (121, (0, (0, (0, (1, []))))), (122, (1, (2, (0, (0, []))))), (123, (9, (0, (0, (0, []))))), (124, (2, (0, (0, (0, []))))), (125, (6, (8, (30, (0, [(0, 40)]))))), (128, (2, (0, (0, (0, []))))), (129, (6, (8, (26, (0, [(0, 31)]))))), (132, (12, (0, (0, (0, []))))), (133, (0, (0, (0, (2, []))))), (134, (1, (3, (0, (0, []))))), (135, (9, (0, (0, (0, []))))), (136, (2, (0, (0, (0, []))))), (137, (6, (8, (30, (0, [(0, 40)]))))), (140, (2, (0, (0, (0, []))))), (141, (6, (8, (26, (0, [(0, 31)]))))), (144, (12, (0, (0, (0, []))))), (145, (0, (0, (0, (3, []))))), (146, (1, (4, (0, (0, []))))), (148, (9, (0, (0, (0, []))))), (149, (2, (0, (0, (0, []))))), (150, (6, (8, (30, (0, [(0, 40)]))))), (153, (2, (0, (0, (0, []))))), (154, (6, (8, (26, (0, [(0, 31)]))))), (157, (12, (0, (0, (0, []))))), (158, (0, (0, (0, (4, []))))), (159, (1, (5, (0, (0, []))))), (161, (18, (0, (97, (0, []))))), (164, (0, (0, (0, (1, []))))), (165, (20, (0, (98, (0, []))))), (168, (0, (0, (0, (0, []))))), (169, (9, (0, (0, (0, []))))), (170, (2, (0, (0, (0, []))))), (171, (6, (8, (31, (0, [(0, 43)]))))), (174, (2, (0, (0, (0, []))))), (175, (6, (8, (26, (0, [(0, 31)]))))), (178, (0, (0, (0, (9999, []))))), (181, (9, (0, (0, (0, []))))), (182, (2, (0, (0, (0, []))))), (183, (6, (8, (32, (0, [(0, 46)]))))), (186, (2, (0, (0, (0, []))))), (187, (6, (8, (26, (0, [(0, 31)]))))), (190, (0, (0, (0, (0, []))))), (191, (9, (0, (0, (0, []))))), (192, (0, (0, (0, (0, []))))), (193, (3, (6, (0, (0, []))))), (195, (1, (6, (0, (0, []))))), (197, (0, (0, (0, (4, []))))), (198, (19, (3, (126, (0, []))))), (201, (2, (0, (0, (0, []))))), (202, (6, (8, (33, (0, [(0, 51)]))))), (205, (2, (0, (0, (0, []))))), (206, (6, (8, (26, (0, [(0, 31)]))))), (209, (12, (0, (0, (0, []))))), (210, (1, (6, (0, (0, []))))), (212, (0, (0, (0, (0, []))))), (213, (11, (0, (0, (0, []))))), (214, (5, (6, (0, (1, []))))), (217, (20, (0, (113, (0, []))))), (220, (2, (0, (0, (0, []))))), (221, (22, (0, (0, (0, []))))), (222, (6, (8, (26, (0, [(0, 31)]))))), (225, (0, (0, (0, (1, []))))), (226, (17, (0, (0, (0, []))))), (227, (7, (8, (26, (0, [(0, 31)]))))), (230, (2, (0, (0, (0, []))))), (231, (6, (8, (26, (0, [(0, 31)]))))), (234, (0, (0, (0, (1, []))))), (235, (17, (1, (0, (0, []))))), (236, (27, (0, (0, (0, [])))))], ([], 7))
set_option maxRecDepth 100000 in
noncomputable def m_X8_isHand : m_Md := ([(0, (1, (1, (0, (0, []))))), (1, (0, (0, (0, (0, []))))), (2, (2, (0, (0, (0, []))))), (3, (6, (8, (26, (0, [(0, 31)]))))), (6, (0, (0, (0, (1, []))))), (7, (17, (1, (0, (0, []))))), (8, (30, (135, (3, (0, [(1, 131)]))))), (11, (27, (1, (0, (0, [])))))], ([], 2))
set_option maxRecDepth 100000 in
noncomputable def m_X8_hand : m_Md := ([(0, (2, (0, (0, (0, []))))), (1, (0, (0, (0, (0, []))))), (2, (7, (8, (0, (0, [(0, 94)]))))), (5, (2, (0, (0, (0, []))))), (6, (2, (0, (0, (0, []))))), (7, (1, (1, (0, (0, []))))), (8, (30, (173, (2, (9, [(0, 265)]))))), (11, (18, (1, (10, (0, []))))), (14, (0, (0, (0, (1, []))))), (15, (20, (0, (11, (0, []))))), (18, (0, (0, (0, (0, []))))), (19, (0, (0, (0, (1, []))))), (20, (30, (134, (3, (9, [(0, 245)]))))), (23, (18, (1, (26, (0, []))))), (26, (2, (0, (0, (0, []))))), (27, (1, (2, (0, (0, []))))), (28, (0, (0, (0, (0, []))))), (29, (0, (0, (0, (5, []))))), (30, (30, (135, (3, (0, [(1, 131)]))))), (33, (18, (1, (22, (0, []))))), (36, (0, (0, (0, (1, []))))), (37, (20, (0, (23, (0, []))))), (40, (0, (0, (0, (0, []))))), (41, (0, (0, (0, (2, []))))), (42, (30, (134, (3, (9, [(0, 245)]))))), (45, (18, (0, (28, (0, []))))), (48, (0, (0, (0, (0, []))))), (49, (27, (0, (0, (0, []))))), (50, (1, (2, (0, (0, []))))), (51, (0, (0, (0, (5, []))))), (52, (19, (1, (36, (0, []))))), (55, (2, (0, (0, (0, []))))), (56, (6, (8, (31, (0, [(0, 43)]))))), (59, (1, (1, (0, (0, []))))), (60, (8, (0, (0, (0, []))))), (61, (20, (0, (46, (0, []))))), (64, (1, (1, (0, (0, []))))), (65, (18, (1, (40, (0, []))))), (68, (0, (0, (0, ((-1), []))))), (69, (20, (0, (46, (0, []))))), (72, (2, (0, (0, (0, []))))), (73, (6, (8, (30, (0, [(0, 40)]))))), (76, (1, (1, (0, (0, []))))), (77, (12, (0, (0, (0, []))))), (78, (1, (2, (0, (0, []))))), (79, (8, (0, (0, (0, []))))), (80, (27, (0, (0, (0, [])))))], ([], 3))
set_option maxRecDepth 100000 in
noncomputable def m_X8_value : m_Md := ([(0, (2, (0, (0, (0, []))))), (1, (0, (0, (0, (0, []))))), (2, (7, (8, (0, (0, [(0, 94)]))))), (5, (2, (0, (0, (0, []))))), (6, (1, (1, (0, (0, []))))), (7, (0, (0, (0, (0, []))))), (8, (0, (0, (0, (9999, []))))), (11, (30, (135, (3, (0, [(1, 131)]))))), (14, (18, (1, (11, (0, []))))), (17, (0, (0, (0, (1, []))))), (18, (20, (0, (12, (0, []))))), (21, (0, (0, (0, (0, []))))), (22, (0, (0, (0, (1, []))))), (23, (30, (134, (3, (9, [(0, 245)]))))), (26, (18, (0, (17, (0, []))))), (29, (0, (0, (0, (0, []))))), (30, (27, (0, (0, (0, []))))), (31, (2, (0, (0, (0, []))))), (32, (6, (8, (27, (0, [(0, 34)]))))), (35, (3, (2, (0, (0, []))))), (36, (2, (0, (0, (0, []))))), (37, (1, (1, (0, (0, []))))), (38, (7, (8, (27, (0, [(0, 34)]))))), (41, (1, (2, (0, (0, []))))), (42, (27, (0, (0, (0, [])))))], ([], 3))
set_option maxRecDepth 100000 in
noncomputable def m_X8_purse : m_Md := ([(0, (2, (0, (0, (0, []))))), (1, (0, (0, (0, (0, []))))), (2, (7, (8, (0, (0, [(0, 94)]))))), (5, (2, (0, (0, (0, []))))), (6, (2, (0, (0, (0, []))))), (7, (1, (1, (0, (0, []))))), (8, (30, (173, (2, (9, [(0, 265)]))))), (11, (18, (1, (10, (0, []))))), (14, (0, (0, (0, (1, []))))), (15, (20, (0, (11, (0, []))))), (18, (0, (0, (0, (0, []))))), (19, (0, (0, (0, (1, []))))), (20, (30, (134, (3, (9, [(0, 245)]))))), (23, (18, (1, (26, (0, []))))), (26, (2, (0, (0, (0, []))))), (27, (1, (2, (0, (0, []))))), (28, (0, (0, (0, (0, []))))), (29, (0, (0, (0, (9999, []))))), (32, (30, (135, (3, (0, [(1, 131)]))))), (35, (18, (1, (22, (0, []))))), (38, (0, (0, (0, (1, []))))), (39, (20, (0, (23, (0, []))))), (42, (0, (0, (0, (0, []))))), (43, (0, (0, (0, (2, []))))), (44, (30, (134, (3, (9, [(0, 245)]))))), (47, (18, (0, (28, (0, []))))), (50, (0, (0, (0, (0, []))))), (51, (27, (0, (0, (0, []))))), (52, (2, (0, (0, (0, []))))), (53, (6, (8, (31, (0, [(0, 43)]))))), (56, (1, (1, (0, (0, []))))), (57, (8, (0, (0, (0, []))))), (58, (3, (3, (0, (0, []))))), (59, (2, (0, (0, (0, []))))), (60, (6, (8, (31, (0, [(0, 43)]))))), (63, (1, (1, (0, (0, []))))), (64, (1, (2, (0, (0, []))))), (65, (9, (0, (0, (0, []))))), (66, (1, (3, (0, (0, []))))), (67, (27, (0, (0, (0, [])))))], ([], 4))
set_option maxRecDepth 100000 in
noncomputable def m_X8_fact : m_Md := ([(0, (2, (0, (0, (0, []))))), (1, (0, (0, (0, (0, []))))), (2, (7, (8, (0, (0, [(0, 94)]))))), (5, (2, (0, (0, (0, []))))), (6, (2, (0, (0, (0, []))))), (7, (1, (1, (0, (0, []))))), (8, (30, (173, (2, (9, [(0, 265)]))))), (11, (18, (1, (10, (0, []))))), (14, (0, (0, (0, (1, []))))), (15, (20, (0, (11, (0, []))))), (18, (0, (0, (0, (0, []))))), (19, (0, (0, (0, (1, []))))), (20, (30, (134, (3, (9, [(0, 245)]))))), (23, (18, (1, (26, (0, []))))), (26, (2, (0, (0, (0, []))))), (27, (1, (2, (0, (0, []))))), (28, (0, (0, (0, (0, []))))), (29, (0, (0, (0, (3, []))))), (30, (30, (135, (3, (0, [(1, 131)]))))), (33, (18, (1, (22, (0, []))))), (36, (0, (0, (0, (1, []))))), (37, (20, (0, (23, (0, []))))), (40, (0, (0, (0, (0, []))))), (41, (0, (0, (0, (2, []))))), (42, (30, (134, (3, (9, [(0, 245)]))))), (45, (18, (0, (28, (0, []))))), (48, (0, (0, (0, (0, []))))), (49, (27, (1, (0, (0, []))))), (50, (2, (0, (0, (0, []))))), (51, (6, (8, (33, (0, [(0, 51)]))))), (54, (1, (1, (0, (0, []))))), (55, (12, (0, (0, (0, []))))), (56, (1, (2, (0, (0, []))))), (57, (10, (0, (0, (0, []))))), (58, (3, (4, (0, (0, []))))), (60, (2, (0, (0, (0, []))))), (61, (6, (8, (33, (0, [(0, 51)]))))), (64, (1, (1, (0, (0, []))))), (65, (12, (0, (0, (0, []))))), (66, (1, (2, (0, (0, []))))), (67, (1, (3, (0, (0, []))))), (68, (11, (0, (0, (0, []))))), (69, (1, (4, (0, (0, []))))), (71, (27, (1, (0, (0, [])))))], ([], 5))
set_option maxRecDepth 100000 in
noncomputable def m_X8_harm : m_Md := ([(0, (2, (0, (0, (0, []))))), (1, (0, (0, (0, (0, []))))), (2, (7, (8, (0, (0, [(0, 94)]))))), (5, (2, (0, (0, (0, []))))), (6, (1, (1, (0, (0, []))))), (7, (0, (0, (0, ((-1), []))))), (8, (0, (0, (0, (5, []))))), (9, (30, (135, (3, (0, [(1, 131)]))))), (12, (18, (0, (14, (0, []))))), (15, (1, (2, (0, (0, []))))), (16, (0, (0, (0, (0, []))))), (17, (0, (0, (0, (999, []))))), (20, (30, (135, (3, (0, [(1, 131)]))))), (23, (18, (1, (16, (0, []))))), (26, (0, (0, (0, (1, []))))), (27, (20, (0, (17, (0, []))))), (30, (0, (0, (0, (0, []))))), (31, (0, (0, (0, (1, []))))), (32, (30, (134, (3, (9, [(0, 245)]))))), (35, (18, (0, (22, (0, []))))), (38, (0, (0, (0, (0, []))))), (39, (27, (0, (0, (0, []))))), (40, (2, (0, (0, (0, []))))), (41, (6, (8, (28, (0, [(0, 37)]))))), (44, (3, (3, (0, (0, []))))), (45, (2, (0, (0, (0, []))))), (46, (1, (1, (0, (0, []))))), (47, (7, (8, (28, (0, [(0, 37)]))))), (50, (2, (0, (0, (0, []))))), (51, (1, (2, (0, (0, []))))), (52, (7, (8, (29, (0, [(0, 268)]))))), (55, (1, (3, (0, (0, []))))), (56, (27, (0, (0, (0, [])))))], ([], 4))
set_option maxRecDepth 100000 in
noncomputable def m_X8_findHolder : m_Md := ([(0, (2, (0, (0, (0, []))))), (1, (2, (0, (0, (0, []))))), (2, (6, (8, (28, (0, [(0, 37)]))))), (5, (0, (0, (0, ((-1), []))))), (6, (19, (1, (7, (0, []))))), (9, (0, (0, (0, ((-1), []))))), (10, (20, (0, (8, (0, []))))), (13, (0, (0, (0, (0, []))))), (14, (7, (8, (34, (0, [(0, 271)]))))), (17, (0, (0, (0, (1, []))))), (18, (3, (1, (0, (0, []))))), (19, (1, (1, (0, (0, []))))), (20, (2, (0, (0, (0, []))))), (21, (6, (8, (26, (0, [(0, 31)]))))), (24, (19, (3, (33, (0, []))))), (27, (2, (0, (0, (0, []))))), (28, (6, (8, (28, (0, [(0, 37)]))))), (31, (0, (0, (0, ((-1), []))))), (32, (19, (0, (33, (0, []))))), (35, (2, (0, (0, (0, []))))), (36, (6, (8, (30, (0, [(0, 40)]))))), (39, (1, (1, (0, (0, []))))), (40, (12, (0, (0, (0, []))))), (41, (0, (0, (0, (1, []))))), (42, (8, (0, (0, (0, []))))), (43, (2, (0, (0, (0, []))))), (44, (6, (8, (29, (0, [(0, 268)]))))), (47, (19, (4, (31, (0, []))))), (50, (2, (0, (0, (0, []))))), (51, (1, (1, (0, (0, []))))), (52, (7, (8, (34, (0, [(0, 271)]))))), (55, (5, (1, (0, (1, []))))), (58, (20, (0, (11, (0, []))))), (61, (29, (0, (0, (0, [])))))], ([], 2))
set_option maxRecDepth 100000 in
noncomputable def m_X8_hasPassed : m_Md := ([(0, (1, (1, (0, (0, []))))), (1, (2, (0, (0, (0, []))))), (2, (6, (8, (34, (0, [(0, 271)]))))), (5, (19, (0, (13, (0, []))))), (8, (2, (0, (0, (0, []))))), (9, (6, (8, (30, (0, [(0, 40)]))))), (12, (1, (1, (0, (0, []))))), (13, (12, (0, (0, (0, []))))), (14, (0, (0, (0, (4, []))))), (15, (8, (0, (0, (0, []))))), (16, (18, (1, (13, (0, []))))), (19, (0, (0, (0, (1, []))))), (20, (20, (0, (14, (0, []))))), (23, (0, (0, (0, (0, []))))), (24, (27, (1, (0, (0, [])))))], ([], 2))
set_option maxRecDepth 100000 in
noncomputable def m_X8_tellsNames : m_Md := ([(0, (2, (0, (0, (0, []))))), (1, (1, (2, (0, (0, []))))), (2, (2, (0, (0, (0, []))))), (3, (6, (8, (30, (0, [(0, 40)]))))), (6, (1, (1, (0, (0, []))))), (7, (12, (0, (0, (0, []))))), (8, (0, (0, (0, (0, []))))), (9, (8, (0, (0, (0, []))))), (10, (2, (0, (0, (0, []))))), (11, (6, (8, (28, (0, [(0, 37)]))))), (14, (2, (0, (0, (0, []))))), (15, (6, (8, (30, (0, [(0, 40)]))))), (18, (1, (1, (0, (0, []))))), (19, (12, (0, (0, (0, []))))), (20, (0, (0, (0, (3, []))))), (21, (8, (0, (0, (0, []))))), (22, (30, (168, (5, (9, [(0, 261)]))))), (25, (2, (0, (0, (0, []))))), (26, (6, (8, (24, (0, [(0, 236)]))))), (29, (3, (3, (0, (0, []))))), (30, (2, (0, (0, (0, []))))), (31, (6, (8, (14, (0, [(0, 28)]))))), (34, (0, (0, (0, (0, []))))), (35, (2, (0, (0, (0, []))))), (36, (6, (8, (33, (0, [(0, 51)]))))), (39, (1, (1, (0, (0, []))))), (40, (12, (0, (0, (0, []))))), (41, (0, (0, (0, (0, []))))), (42, (10, (0, (0, (0, []))))), (43, (18, (0, (32, (0, []))))), (46, (0, (0, (0, (1, []))))), (47, (20, (0, (33, (0, []))))), (50, (0, (0, (0, (0, []))))), (51, (9, (0, (0, (0, []))))), (52, (2, (0, (0, (0, []))))), (53, (6, (8, (14, (0, [(0, 28)]))))), (56, (0, (0, (0, (1, []))))), (57, (2, (0, (0, (0, []))))), (58, (6, (8, (33, (0, [(0, 51)]))))), (61, (1, (1, (0, (0, []))))), (62, (12, (0, (0, (0, []))))), (63, (0, (0, (0, (1, []))))), (64, (10, (0, (0, (0, []))))), (65, (18, (0, (46, (0, []))))), (68, (0, (0, (0, (1, []))))), (69, (20, (0, (47, (0, []))))), (72, (0, (0, (0, (0, []))))), (73, (9, (0, (0, (0, []))))), (74, (2, (0, (0, (0, []))))), (75, (6, (8, (14, (0, [(0, 28)]))))), (78, (0, (0, (0, (2, []))))), (79, (2, (0, (0, (0, []))))), (80, (6, (8, (33, (0, [(0, 51)]))))), (83, (1, (1, (0, (0, []))))), (84, (12, (0, (0, (0, []))))), (85, (0, (0, (0, (2, []))))), (86, (10, (0, (0, (0, []))))), (87, (18, (0, (60, (0, []))))), (90, (0, (0, (0, (1, []))))), (91, (20, (0, (61, (0, []))))), (94, (0, (0, (0, (0, []))))), (95, (9, (0, (0, (0, []))))), (96, (2, (0, (0, (0, []))))), (97, (6, (8, (14, (0, [(0, 28)]))))), (100, (0, (0, (0, (3, []))))), (101, (2, (0, (0, (0, []))))), (102, (6, (8, (29, (0, [(0, 268)]))))), (105, (2, (0, (0, (0, []))))), (106, (6, (8, (30, (0, [(0, 40)]))))), (109, (1, (1, (0, (0, []))))), (110, (12, (0, (0, (0, []))))), (111, (0, (0, (0, (2, []))))), (112, (8, (0, (0, (0, []))))), (113, (19, (5, (76, (0, []))))), (116, (0, (0, (0, (1, []))))), (117, (20, (0, (77, (0, []))))), (120, (0, (0, (0, (0, []))))), (121, (9, (0, (0, (0, []))))), (122, (2, (0, (0, (0, []))))), (123, (6, (8, (14, (0, [(0, 28)]))))), (126, (0, (0, (0, (4, []))))), (127, (2, (0, (0, (0, []))))), (128, (1, (1, (0, (0, []))))), (129, (30, (180, (2, (9, [(0, 274)]))))), (132, (18, (0, (87, (0, []))))), (135, (0, (0, (0, (1, []))))), (136, (20, (0, (88, (0, []))))), (139, (0, (0, (0, (0, []))))), (140, (9, (0, (0, (0, []))))), (141, (2, (0, (0, (0, []))))), (142, (6, (8, (14, (0, [(0, 28)]))))), (145, (0, (0, (0, (5, []))))), (146, (1, (3, (0, (0, []))))), (147, (18, (0, (101, (0, []))))), (150, (2, (0, (0, (0, []))))), (151, (6, (8, (30, (0, [(0, 40)]))))), (154, (1, (1, (0, (0, []))))), (155, (12, (0, (0, (0, []))))), (156, (0, (0, (0, (3, []))))), (157, (8, (0, (0, (0, []))))), (158, (20, (0, (102, (0, []))))), (161, (0, (0, (0, (0, []))))), (162, (9, (0, (0, (0, []))))), (163, (2, (0, (0, (0, []))))), (164, (6, (8, (14, (0, [(0, 28)]))))), (167, (0, (0, (0, (6, []))))), (169, (2, (0, (0, (0, []))))), (170, (6, (8, (27, (0, [(0, 34)]))))), (173, (9, (0, (0, (0, []))))), (174, (2, (0, (0, (0, []))))), (175, (6, (8, (14, (0, [(0, 28)]))))), (178, (0, (0, (0, (7, []))))), (180, (2, (0, (0, (0, []))))), (181, (6, (8, (29, (0, [(0, 268)]))))), (184, (2, (0, (0, (0, []))))), (185, (6, (8, (30, (0, [(0, 40)]))))), (188, (1, (1, (0, (0, []))))), (189, (12, (0, (0, (0, []))))), (190, (0, (0, (0, (1, []))))), (191, (8, (0, (0, (0, []))))), (192, (17, (1, (0, (0, []))))), (193, (9, (0, (0, (0, []))))), (194, (29, (0, (0, (0, [])))))], ([], 4))
set_option maxRecDepth 100000 in
noncomputable def m_X8_ends : m_Md := ([(0, (2, (0, (0, (0, []))))), (1, (30, (179, (1, (9, [(0, 277)]))))), (4, (0, (0, (0, (0, []))))), (5, (3, (2, (0, (0, []))))), (6, (1, (2, (0, (0, []))))), (7, (0, (0, (0, (13, []))))), (9, (19, (3, (44, (0, []))))), (12, (2, (0, (0, (0, []))))), (13, (6, (8, (35, (0, [(0, 54)]))))), (16, (1, (2, (0, (0, []))))), (17, (0, (0, (0, (0, []))))), (18, (9, (0, (0, (0, []))))), (19, (2, (0, (0, (0, []))))), (20, (6, (8, (36, (0, [(0, 57)]))))), (23, (1, (2, (0, (0, []))))), (24, (0, (0, (0, ((-1), []))))), (25, (9, (0, (0, (0, []))))), (26, (2, (0, (0, (0, []))))), (27, (6, (8, (37, (0, [(0, 60)]))))), (30, (1, (2, (0, (0, []))))), (31, (0, (0, (0, (0, []))))), (32, (9, (0, (0, (0, []))))), (33, (2, (0, (0, (0, []))))), (34, (6, (8, (38, (0, [(0, 63)]))))), (37, (1, (2, (0, (0, []))))), (38, (0, (0, (0, (0, []))))), (39, (9, (0, (0, (0, []))))), (40, (2, (0, (0, (0, []))))), (41, (6, (8, (39, (0, [(0, 66)]))))), (44, (1, (2, (0, (0, []))))), (45, (0, (0, (0, (0, []))))), (46, (9, (0, (0, (0, []))))), (47, (2, (0, (0, (0, []))))), (48, (6, (8, (40, (0, [(0, 69)]))))), (51, (1, (2, (0, (0, []))))), (52, (0, (0, (0, (0, []))))), (53, (11, (0, (0, (0, []))))), (54, (2, (0, (0, (0, []))))), (55, (6, (8, (41, (0, [(0, 73)]))))), (58, (1, (2, (0, (0, []))))), (59, (0, (0, (0, (0, []))))), (60, (11, (0, (0, (0, []))))), (61, (5, (2, (0, (1, []))))), (64, (20, (0, (4, (0, []))))), (67, (2, (0, (0, (0, []))))), (68, (6, (8, (28, (0, [(0, 37)]))))), (71, (0, (0, (0, ((-1), []))))), (72, (19, (1, (49, (0, []))))), (75, (29, (0, (0, (0, []))))), (76, (0, (0, (0, (1, []))))), (77, (3, (2, (0, (0, []))))), (78, (1, (2, (0, (0, []))))), (79, (2, (0, (0, (0, []))))), (80, (6, (8, (34, (0, [(0, 271)]))))), (83, (19, (4, (148, (0, []))))), (86, (2, (0, (0, (0, []))))), (87, (1, (2, (0, (0, []))))), (88, (1, (1, (0, (0, []))))), (89, (30, (181, (3, (9, [(0, 280)]))))), (92, (0, (0, (0, (0, []))))), (93, (3, (3, (0, (0, []))))), (94, (1, (3, (0, (0, []))))), (95, (0, (0, (0, (8, []))))), (97, (19, (3, (76, (0, []))))), (100, (2, (0, (0, (0, []))))), (101, (6, (8, (42, (0, [(0, 76)]))))), (104, (1, (2, (0, (0, []))))), (105, (12, (0, (0, (0, []))))), (106, (1, (3, (0, (0, []))))), (107, (2, (0, (0, (0, []))))), (108, (6, (8, (14, (0, [(0, 28)]))))), (111, (1, (3, (0, (0, []))))), (112, (8, (0, (0, (0, []))))), (113, (9, (0, (0, (0, []))))), (114, (5, (3, (0, (1, []))))), (117, (20, (0, (61, (0, []))))), (120, (2, (0, (0, (0, []))))), (121, (1, (1, (0, (0, []))))), (122, (2, (0, (0, (0, []))))), (123, (6, (8, (30, (0, [(0, 40)]))))), (126, (1, (2, (0, (0, []))))), (127, (12, (0, (0, (0, []))))), (128, (0, (0, (0, (0, []))))), (129, (8, (0, (0, (0, []))))), (130, (2, (0, (0, (0, []))))), (131, (6, (8, (28, (0, [(0, 37)]))))), (134, (0, (0, (0, (0, []))))), (135, (30, (168, (5, (9, [(0, 261)]))))), (138, (2, (0, (0, (0, []))))), (139, (6, (8, (40, (0, [(0, 69)]))))), (142, (1, (2, (0, (0, []))))), (143, (2, (0, (0, (0, []))))), (144, (6, (8, (22, (0, [(0, 220)]))))), (147, (18, (0, (99, (0, []))))), (150, (2, (0, (0, (0, []))))), (151, (6, (8, (21, (0, [(0, 224)]))))), (154, (18, (1, (99, (0, []))))), (157, (0, (0, (0, (1, []))))), (158, (20, (0, (100, (0, []))))), (161, (0, (0, (0, (0, []))))), (162, (11, (0, (0, (0, []))))), (163, (2, (0, (0, (0, []))))), (164, (6, (8, (41, (0, [(0, 73)]))))), (167, (1, (2, (0, (0, []))))), (168, (2, (0, (0, (0, []))))), (169, (6, (8, (25, (0, [(0, 239)]))))), (172, (11, (0, (0, (0, []))))), (173, (2, (0, (0, (0, []))))), (174, (6, (8, (35, (0, [(0, 54)]))))), (177, (1, (2, (0, (0, []))))), (178, (2, (0, (0, (0, []))))), (179, (6, (8, (21, (0, [(0, 224)]))))), (182, (18, (1, (123, (0, []))))), (185, (2, (0, (0, (0, []))))), (186, (6, (8, (22, (0, [(0, 220)]))))), (189, (18, (0, (126, (0, []))))), (192, (2, (0, (0, (0, []))))), (193, (6, (8, (33, (0, [(0, 51)]))))), (196, (1, (2, (0, (0, []))))), (197, (12, (0, (0, (0, []))))), (198, (0, (0, (0, (3, []))))), (199, (10, (0, (0, (0, []))))), (200, (18, (1, (126, (0, []))))), (203, (2, (0, (0, (0, []))))), (204, (6, (8, (19, (0, [(0, 230)]))))), (207, (20, (0, (127, (0, []))))), (210, (0, (0, (0, (0, []))))), (211, (9, (0, (0, (0, []))))), (212, (2, (0, (0, (0, []))))), (213, (6, (8, (36, (0, [(0, 57)]))))), (216, (1, (2, (0, (0, []))))), (217, (1, (2, (0, (0, []))))), (218, (0, (0, (0, (1, []))))), (219, (19, (5, (142, (0, []))))), (222, (2, (0, (0, (0, []))))), (223, (1, (2, (0, (0, []))))), (224, (0, (0, (0, (1, []))))), (225, (17, (1, (0, (0, []))))), (226, (30, (180, (2, (9, [(0, 274)]))))), (229, (18, (0, (142, (0, []))))), (232, (0, (0, (0, (0, []))))), (233, (20, (0, (145, (0, []))))), (236, (1, (2, (0, (0, []))))), (237, (0, (0, (0, (1, []))))), (238, (17, (1, (0, (0, []))))), (239, (9, (0, (0, (0, []))))), (240, (5, (2, (0, (1, []))))), (243, (20, (0, (51, (0, []))))), (246, (2, (0, (0, (0, []))))), (247, (6, (8, (34, (0, [(0, 271)]))))), (250, (3, (2, (0, (0, []))))), (251, (1, (2, (0, (0, []))))), (252, (18, (5, (192, (0, []))))), (255, (2, (0, (0, (0, []))))), (256, (6, (8, (37, (0, [(0, 60)]))))), (259, (1, (2, (0, (0, []))))), (260, (2, (0, (0, (0, []))))), (261, (6, (8, (35, (0, [(0, 54)]))))), (264, (1, (2, (0, (0, []))))), (265, (8, (0, (0, (0, []))))), (266, (2, (0, (0, (0, []))))), (267, (6, (8, (31, (0, [(0, 43)]))))), (270, (1, (2, (0, (0, []))))), (271, (8, (0, (0, (0, []))))), (272, (2, (0, (0, (0, []))))), (273, (6, (8, (38, (0, [(0, 63)]))))), (276, (1, (2, (0, (0, []))))), (277, (8, (0, (0, (0, []))))), (278, (17, (0, (0, (0, []))))), (279, (30, (136, (2, (0, [(1, 255)]))))), (282, (9, (0, (0, (0, []))))), (283, (2, (0, (0, (0, []))))), (284, (6, (8, (36, (0, [(0, 57)]))))), (287, (1, (2, (0, (0, []))))), (288, (8, (0, (0, (0, []))))), (289, (18, (5, (190, (0, []))))), (292, (2, (0, (0, (0, []))))), (293, (6, (8, (38, (0, [(0, 63)]))))), (296, (2, (0, (0, (0, []))))), (297, (6, (8, (36, (0, [(0, 57)]))))), (300, (1, (2, (0, (0, []))))), (301, (8, (0, (0, (0, []))))), (302, (23, (0, (0, (0, []))))), (303, (8, (0, (0, (0, []))))), (304, (2, (0, (0, (0, []))))), (305, (6, (8, (37, (0, [(0, 60)]))))), (308, (1, (2, (0, (0, []))))), (309, (8, (0, (0, (0, []))))), (310, (17, (0, (0, (0, []))))), (311, (9, (0, (0, (0, []))))), (312, (5, (2, (0, ((-1), []))))), (315, (20, (0, (151, (0, []))))), (318, (2, (0, (0, (0, []))))), (319, (6, (8, (27, (0, [(0, 34)]))))), (322, (3, (2, (0, (0, []))))), (323, (0, (0, (0, (1, []))))), (324, (3, (3, (0, (0, []))))), (325, (1, (3, (0, (0, []))))), (326, (2, (0, (0, (0, []))))), (327, (6, (8, (34, (0, [(0, 271)]))))), (330, (19, (4, (226, (0, []))))), (333, (2, (0, (0, (0, []))))), (334, (6, (8, (36, (0, [(0, 57)]))))), (337, (1, (3, (0, (0, []))))), (338, (8, (0, (0, (0, []))))), (339, (18, (5, (207, (0, []))))), (342, (20, (0, (224, (0, []))))), (345, (2, (0, (0, (0, []))))), (346, (6, (8, (37, (0, [(0, 60)]))))), (349, (1, (3, (0, (0, []))))), (350, (2, (0, (0, (0, []))))), (351, (6, (8, (37, (0, [(0, 60)]))))), (354, (1, (3, (0, (0, []))))), (355, (8, (0, (0, (0, []))))), (356, (1, (2, (0, (0, []))))), (357, (30, (136, (2, (0, [(1, 255)]))))), (360, (9, (0, (0, (0, []))))), (361, (1, (2, (0, (0, []))))), (362, (2, (0, (0, (0, []))))), (363, (6, (8, (37, (0, [(0, 60)]))))), (366, (1, (3, (0, (0, []))))), (367, (8, (0, (0, (0, []))))), (368, (17, (1, (0, (0, []))))), (369, (3, (2, (0, (0, []))))), (370, (5, (3, (0, (1, []))))), (373, (20, (0, (197, (0, []))))), (376, (0, (0, (0, (1, []))))), (377, (3, (3, (0, (0, []))))), (378, (1, (3, (0, (0, []))))), (379, (2, (0, (0, (0, []))))), (380, (6, (8, (34, (0, [(0, 271)]))))), (383, (19, (4, (247, (0, []))))), (386, (2, (0, (0, (0, []))))), (387, (6, (8, (39, (0, [(0, 66)]))))), (390, (1, (3, (0, (0, []))))), (391, (2, (0, (0, (0, []))))), (392, (6, (8, (37, (0, [(0, 60)]))))), (395, (1, (3, (0, (0, []))))), (396, (8, (0, (0, (0, []))))), (397, (2, (0, (0, (0, []))))), (398, (6, (8, (38, (0, [(0, 63)]))))), (401, (1, (3, (0, (0, []))))), (402, (8, (0, (0, (0, []))))), (403, (17, (1, (0, (0, []))))), (404, (9, (0, (0, (0, []))))), (405, (5, (3, (0, (1, []))))), (408, (20, (0, (228, (0, []))))), (411, (2, (0, (0, (0, []))))), (412, (6, (8, (39, (0, [(0, 66)]))))), (415, (0, (0, (0, (0, []))))), (416, (1, (2, (0, (0, []))))), (417, (9, (0, (0, (0, []))))), (418, (29, (0, (0, (0, [])))))], ([], 4))
set_option maxRecDepth 100000 in
noncomputable def m_X8_holder : m_Md := ([(0, (2, (0, (0, (0, []))))), (1, (0, (0, (0, (0, []))))), (2, (7, (8, (0, (0, [(0, 94)]))))), (5, (2, (0, (0, (0, []))))), (6, (30, (179, (1, (9, [(0, 277)]))))), (9, (2, (0, (0, (0, []))))), (10, (6, (8, (34, (0, [(0, 271)]))))), (13, (27, (0, (0, (0, [])))))], ([], 1))
set_option maxRecDepth 100000 in
noncomputable def m_X8_isWithin : m_Md := ([(0, (1, (1, (0, (0, []))))), (1, (18, (5, (8, (0, []))))), (4, (1, (1, (0, (0, []))))), (5, (2, (0, (0, (0, []))))), (6, (6, (8, (34, (0, [(0, 271)]))))), (9, (19, (4, (8, (0, []))))), (12, (0, (0, (0, (1, []))))), (13, (20, (0, (9, (0, []))))), (16, (0, (0, (0, (0, []))))), (17, (27, (1, (0, (0, [])))))], ([], 2))
set_option maxRecDepth 100000 in
noncomputable def m_X8_name : m_Md := ([(0, (2, (0, (0, (0, []))))), (1, (0, (0, (0, (0, []))))), (2, (7, (8, (0, (0, [(0, 94)]))))), (5, (2, (0, (0, (0, []))))), (6, (2, (0, (0, (0, []))))), (7, (1, (1, (0, (0, []))))), (8, (30, (173, (2, (9, [(0, 265)]))))), (11, (18, (1, (10, (0, []))))), (14, (0, (0, (0, (1, []))))), (15, (20, (0, (11, (0, []))))), (18, (0, (0, (0, (0, []))))), (19, (0, (0, (0, (1, []))))), (20, (30, (134, (3, (9, [(0, 245)]))))), (23, (18, (1, (26, (0, []))))), (26, (2, (0, (0, (0, []))))), (27, (1, (2, (0, (0, []))))), (28, (0, (0, (0, (0, []))))), (29, (0, (0, (0, (7, []))))), (31, (30, (135, (3, (0, [(1, 131)]))))), (34, (18, (1, (22, (0, []))))), (37, (0, (0, (0, (1, []))))), (38, (20, (0, (23, (0, []))))), (41, (0, (0, (0, (0, []))))), (42, (0, (0, (0, (2, []))))), (43, (30, (134, (3, (9, [(0, 245)]))))), (46, (18, (0, (28, (0, []))))), (49, (0, (0, (0, (0, []))))), (50, (27, (0, (0, (0, []))))), (51, (2, (0, (0, (0, []))))), (52, (2, (0, (0, (0, []))))), (53, (6, (8, (13, (0, [(0, 25)]))))), (56, (30, (182, (2, (9, [(0, 283)]))))), (59, (2, (0, (0, (0, []))))), (60, (1, (1, (0, (0, []))))), (61, (30, (184, (2, (9, [(0, 286)]))))), (64, (18, (0, (43, (0, []))))), (67, (2, (0, (0, (0, []))))), (68, (6, (8, (42, (0, [(0, 76)]))))), (71, (1, (1, (0, (0, []))))), (72, (12, (0, (0, (0, []))))), (73, (1, (2, (0, (0, []))))), (74, (8, (0, (0, (0, []))))), (75, (20, (0, (44, (0, []))))), (78, (0, (0, (0, ((-1), []))))), (79, (27, (0, (0, (0, [])))))], ([], 3))
set_option maxRecDepth 100000 in
noncomputable def m_X8_claim : m_Md := ([(0, (2, (0, (0, (0, []))))), (1, (0, (0, (0, (0, []))))), (2, (7, (8, (0, (0, [(0, 94)]))))), (5, (2, (0, (0, (0, []))))), (6, (2, (0, (0, (0, []))))), (7, (1, (1, (0, (0, []))))), (8, (30, (173, (2, (9, [(0, 265)]))))), (11, (18, (1, (10, (0, []))))), (14, (0, (0, (0, (1, []))))), (15, (20, (0, (11, (0, []))))), (18, (0, (0, (0, (0, []))))), (19, (0, (0, (0, (1, []))))), (20, (30, (134, (3, (9, [(0, 245)]))))), (23, (18, (0, (16, (0, []))))), (26, (0, (0, (0, (0, []))))), (27, (27, (0, (0, (0, []))))), (28, (2, (0, (0, (0, []))))), (29, (2, (0, (0, (0, []))))), (30, (6, (8, (13, (0, [(0, 25)]))))), (33, (30, (182, (2, (9, [(0, 283)]))))), (36, (2, (0, (0, (0, []))))), (37, (6, (8, (35, (0, [(0, 54)]))))), (40, (1, (1, (0, (0, []))))), (41, (8, (0, (0, (0, []))))), (42, (27, (0, (0, (0, [])))))], ([], 2))
set_option maxRecDepth 100000 in
noncomputable def m_X8_whom : m_Md := ([(0, (2, (0, (0, (0, []))))), (1, (0, (0, (0, (0, []))))), (2, (7, (8, (0, (0, [(0, 94)]))))), (5, (2, (0, (0, (0, []))))), (6, (2, (0, (0, (0, []))))), (7, (1, (1, (0, (0, []))))), (8, (30, (173, (2, (9, [(0, 265)]))))), (11, (18, (1, (10, (0, []))))), (14, (0, (0, (0, (1, []))))), (15, (20, (0, (11, (0, []))))), (18, (0, (0, (0, (0, []))))), (19, (0, (0, (0, (1, []))))), (20, (30, (134, (3, (9, [(0, 245)]))))), (23, (18, (0, (16, (0, []))))), (26, (0, (0, (0, (0, []))))), (27, (27, (0, (0, (0, []))))), (28, (2, (0, (0, (0, []))))), (29, (2, (0, (0, (0, []))))), (30, (6, (8, (13, (0, [(0, 25)]))))), (33, (30, (182, (2, (9, [(0, 283)]))))), (36, (2, (0, (0, (0, []))))), (37, (6, (8, (36, (0, [(0, 57)]))))), (40, (1, (1, (0, (0, []))))), (41, (8, (0, (0, (0, []))))), (42, (27, (0, (0, (0, [])))))], ([], 2))
set_option maxRecDepth 100000 in
noncomputable def m_X8_pays : m_Md := ([(0, (2, (0, (0, (0, []))))), (1, (0, (0, (0, (0, []))))), (2, (7, (8, (0, (0, [(0, 94)]))))), (5, (2, (0, (0, (0, []))))), (6, (2, (0, (0, (0, []))))), (7, (1, (1, (0, (0, []))))), (8, (30, (173, (2, (9, [(0, 265)]))))), (11, (18, (1, (10, (0, []))))), (14, (0, (0, (0, (1, []))))), (15, (20, (0, (11, (0, []))))), (18, (0, (0, (0, (0, []))))), (19, (0, (0, (0, (1, []))))), (20, (30, (134, (3, (9, [(0, 245)]))))), (23, (18, (0, (16, (0, []))))), (26, (0, (0, (0, (0, []))))), (27, (27, (0, (0, (0, []))))), (28, (2, (0, (0, (0, []))))), (29, (2, (0, (0, (0, []))))), (30, (6, (8, (13, (0, [(0, 25)]))))), (33, (30, (182, (2, (9, [(0, 283)]))))), (36, (2, (0, (0, (0, []))))), (37, (6, (8, (37, (0, [(0, 60)]))))), (40, (1, (1, (0, (0, []))))), (41, (8, (0, (0, (0, []))))), (42, (27, (0, (0, (0, [])))))], ([], 2))
set_option maxRecDepth 100000 in
noncomputable def m_X8_bears : m_Md := ([(0, (2, (0, (0, (0, []))))), (1, (0, (0, (0, (0, []))))), (2, (7, (8, (0, (0, [(0, 94)]))))), (5, (2, (0, (0, (0, []))))), (6, (2, (0, (0, (0, []))))), (7, (1, (1, (0, (0, []))))), (8, (30, (173, (2, (9, [(0, 265)]))))), (11, (18, (1, (10, (0, []))))), (14, (0, (0, (0, (1, []))))), (15, (20, (0, (11, (0, []))))), (18, (0, (0, (0, (0, []))))), (19, (0, (0, (0, (1, []))))), (20, (30, (134, (3, (9, [(0, 245)]))))), (23, (18, (0, (16, (0, []))))), (26, (0, (0, (0, (0, []))))), (27, (27, (0, (0, (0, []))))), (28, (2, (0, (0, (0, []))))), (29, (2, (0, (0, (0, []))))), (30, (6, (8, (13, (0, [(0, 25)]))))), (33, (30, (182, (2, (9, [(0, 283)]))))), (36, (2, (0, (0, (0, []))))), (37, (6, (8, (39, (0, [(0, 66)]))))), (40, (1, (1, (0, (0, []))))), (41, (8, (0, (0, (0, []))))), (42, (27, (0, (0, (0, [])))))], ([], 2))
set_option maxRecDepth 100000 in
noncomputable def m_X8_must : m_Md := ([(0, (2, (0, (0, (0, []))))), (1, (0, (0, (0, (0, []))))), (2, (7, (8, (0, (0, [(0, 94)]))))), (5, (2, (0, (0, (0, []))))), (6, (2, (0, (0, (0, []))))), (7, (1, (1, (0, (0, []))))), (8, (30, (173, (2, (9, [(0, 265)]))))), (11, (18, (1, (10, (0, []))))), (14, (0, (0, (0, (1, []))))), (15, (20, (0, (11, (0, []))))), (18, (0, (0, (0, (0, []))))), (19, (0, (0, (0, (1, []))))), (20, (30, (134, (3, (9, [(0, 245)]))))), (23, (18, (0, (16, (0, []))))), (26, (0, (0, (0, (0, []))))), (27, (27, (1, (0, (0, []))))), (28, (2, (0, (0, (0, []))))), (29, (2, (0, (0, (0, []))))), (30, (6, (8, (13, (0, [(0, 25)]))))), (33, (30, (182, (2, (9, [(0, 283)]))))), (36, (2, (0, (0, (0, []))))), (37, (6, (8, (40, (0, [(0, 69)]))))), (40, (1, (1, (0, (0, []))))), (41, (10, (0, (0, (0, []))))), (42, (18, (0, (34, (0, []))))), (45, (2, (0, (0, (0, []))))), (46, (6, (8, (33, (0, [(0, 51)]))))), (49, (1, (1, (0, (0, []))))), (50, (12, (0, (0, (0, []))))), (51, (0, (0, (0, (3, []))))), (52, (10, (0, (0, (0, []))))), (53, (18, (1, (34, (0, []))))), (56, (0, (0, (0, (1, []))))), (57, (20, (0, (35, (0, []))))), (60, (0, (0, (0, (0, []))))), (61, (27, (1, (0, (0, [])))))], ([], 2))
set_option maxRecDepth 100000 in
noncomputable def m_X8_frees : m_Md := ([(0, (2, (0, (0, (0, []))))), (1, (0, (0, (0, (0, []))))), (2, (7, (8, (0, (0, [(0, 94)]))))), (5, (2, (0, (0, (0, []))))), (6, (2, (0, (0, (0, []))))), (7, (1, (1, (0, (0, []))))), (8, (30, (173, (2, (9, [(0, 265)]))))), (11, (18, (1, (10, (0, []))))), (14, (0, (0, (0, (1, []))))), (15, (20, (0, (11, (0, []))))), (18, (0, (0, (0, (0, []))))), (19, (0, (0, (0, (1, []))))), (20, (30, (134, (3, (9, [(0, 245)]))))), (23, (18, (0, (16, (0, []))))), (26, (0, (0, (0, (0, []))))), (27, (27, (0, (0, (0, []))))), (28, (2, (0, (0, (0, []))))), (29, (6, (8, (33, (0, [(0, 51)]))))), (32, (1, (1, (0, (0, []))))), (33, (12, (0, (0, (0, []))))), (34, (0, (0, (0, (3, []))))), (35, (10, (0, (0, (0, []))))), (36, (18, (0, (25, (0, []))))), (39, (0, (0, (0, (0, []))))), (40, (27, (0, (0, (0, []))))), (41, (2, (0, (0, (0, []))))), (42, (2, (0, (0, (0, []))))), (43, (6, (8, (13, (0, [(0, 25)]))))), (46, (30, (182, (2, (9, [(0, 283)]))))), (49, (2, (0, (0, (0, []))))), (50, (6, (8, (39, (0, [(0, 66)]))))), (53, (1, (1, (0, (0, []))))), (54, (8, (0, (0, (0, []))))), (55, (3, (2, (0, (0, []))))), (56, (2, (0, (0, (0, []))))), (57, (6, (8, (33, (0, [(0, 51)]))))), (60, (1, (1, (0, (0, []))))), (61, (12, (0, (0, (0, []))))), (62, (0, (0, (0, (3, []))))), (63, (0, (0, (0, (1, []))))), (64, (11, (0, (0, (0, []))))), (65, (2, (0, (0, (0, []))))), (66, (2, (0, (0, (0, []))))), (67, (6, (8, (13, (0, [(0, 25)]))))), (70, (30, (182, (2, (9, [(0, 283)]))))), (73, (2, (0, (0, (0, []))))), (74, (6, (8, (33, (0, [(0, 51)]))))), (77, (1, (1, (0, (0, []))))), (78, (12, (0, (0, (0, []))))), (79, (0, (0, (0, (3, []))))), (80, (0, (0, (0, (0, []))))), (81, (11, (0, (0, (0, []))))), (82, (1, (2, (0, (0, []))))), (83, (2, (0, (0, (0, []))))), (84, (6, (8, (39, (0, [(0, 66)]))))), (87, (1, (1, (0, (0, []))))), (88, (8, (0, (0, (0, []))))), (89, (17, (1, (0, (0, []))))), (90, (27, (0, (0, (0, [])))))], ([], 3))
set_option maxRecDepth 100000 in
noncomputable def m_X8_question : m_Md := ([(0, (2, (0, (0, (0, []))))), (1, (0, (0, (0, (0, []))))), (2, (7, (8, (0, (0, [(0, 94)]))))), (5, (2, (0, (0, (0, []))))), (6, (1, (1, (0, (0, []))))), (7, (0, (0, (0, (0, []))))), (8, (0, (0, (0, (3, []))))), (9, (30, (135, (3, (0, [(1, 131)]))))), (12, (18, (0, (15, (0, []))))), (15, (2, (0, (0, (0, []))))), (16, (1, (2, (0, (0, []))))), (17, (30, (173, (2, (9, [(0, 265)]))))), (20, (18, (1, (15, (0, []))))), (23, (0, (0, (0, (1, []))))), (24, (20, (0, (16, (0, []))))), (27, (0, (0, (0, (0, []))))), (28, (0, (0, (0, (1, []))))), (29, (30, (134, (3, (9, [(0, 245)]))))), (32, (18, (1, (47, (0, []))))), (35, (2, (0, (0, (0, []))))), (36, (1, (1, (0, (0, []))))), (37, (0, (0, (0, (0, []))))), (38, (0, (0, (0, (5, []))))), (39, (30, (135, (3, (0, [(1, 131)]))))), (42, (18, (0, (41, (0, []))))), (45, (1, (1, (0, (0, []))))), (46, (0, (0, (0, (4, []))))), (47, (19, (1, (33, (0, []))))), (50, (1, (3, (0, (0, []))))), (51, (0, (0, (0, (0, []))))), (52, (0, (0, (0, (5, []))))), (53, (30, (135, (3, (0, [(1, 131)]))))), (56, (18, (0, (41, (0, []))))), (59, (1, (1, (0, (0, []))))), (60, (0, (0, (0, (5, []))))), (61, (19, (1, (43, (0, []))))), (64, (1, (3, (0, (0, []))))), (65, (0, (0, (0, (0, []))))), (66, (0, (0, (0, (999, []))))), (69, (30, (135, (3, (0, [(1, 131)]))))), (72, (18, (1, (43, (0, []))))), (75, (0, (0, (0, (1, []))))), (76, (20, (0, (44, (0, []))))), (79, (0, (0, (0, (0, []))))), (80, (0, (0, (0, (2, []))))), (81, (30, (134, (3, (9, [(0, 245)]))))), (84, (18, (0, (49, (0, []))))), (87, (0, (0, (0, (0, []))))), (88, (27, (0, (0, (0, []))))), (89, (2, (0, (0, (0, []))))), (90, (6, (8, (43, (0, [(0, 289)]))))), (93, (0, (0, (0, (8, []))))), (95, (19, (1, (55, (0, []))))), (98, (0, (0, (0, ((-1), []))))), (99, (27, (0, (0, (0, []))))), (100, (2, (0, (0, (0, []))))), (101, (6, (8, (44, (0, [(0, 79)]))))), (104, (2, (0, (0, (0, []))))), (105, (6, (8, (43, (0, [(0, 289)]))))), (108, (12, (0, (0, (0, []))))), (109, (0, (0, (0, (0, []))))), (110, (1, (1, (0, (0, []))))), (111, (9, (0, (0, (0, []))))), (112, (2, (0, (0, (0, []))))), (113, (6, (8, (44, (0, [(0, 79)]))))), (116, (2, (0, (0, (0, []))))), (117, (6, (8, (43, (0, [(0, 289)]))))), (120, (12, (0, (0, (0, []))))), (121, (0, (0, (0, (1, []))))), (122, (1, (2, (0, (0, []))))), (123, (9, (0, (0, (0, []))))), (124, (2, (0, (0, (0, []))))), (125, (6, (8, (44, (0, [(0, 79)]))))), (128, (2, (0, (0, (0, []))))), (129, (6, (8, (43, (0, [(0, 289)]))))), (132, (12, (0, (0, (0, []))))), (133, (0, (0, (0, (2, []))))), (134, (1, (3, (0, (0, []))))), (135, (9, (0, (0, (0, []))))), (136, (2, (0, (0, (0, []))))), (137, (22, (0, (0, (0, []))))), (138, (6, (8, (43, (0, [(0, 289)]))))), (141, (0, (0, (0, (1, []))))), (142, (17, (0, (0, (0, []))))), (143, (7, (8, (43, (0, [(0, 289)]))))), (146, (2, (0, (0, (0, []))))), (147, (6, (8, (43, (0, [(0, 289)]))))), (150, (0, (0, (0, (1, []))))), (151, (17, (1, (0, (0, []))))), (152, (27, (0, (0, (0, [])))))], ([], 4))
set_option maxRecDepth 100000 in
noncomputable def m_X8_goesInto : m_Md := ([(0, (2, (0, (0, (0, []))))), (1, (2, (0, (0, (0, []))))), (2, (6, (8, (28, (0, [(0, 37)]))))), (5, (7, (8, (46, (0, [(0, 292)]))))), (8, (2, (0, (0, (0, []))))), (9, (2, (0, (0, (0, []))))), (10, (6, (8, (29, (0, [(0, 268)]))))), (13, (7, (8, (47, (0, [(0, 295)]))))), (16, (0, (0, (0, (0, []))))), (17, (3, (2, (0, (0, []))))), (18, (1, (2, (0, (0, []))))), (19, (0, (0, (0, (13, []))))), (21, (19, (3, (34, (0, []))))), (24, (0, (0, (0, (0, []))))), (25, (3, (3, (0, (0, []))))), (26, (1, (3, (0, (0, []))))), (27, (0, (0, (0, (4, []))))), (28, (19, (3, (32, (0, []))))), (31, (2, (0, (0, (0, []))))), (32, (6, (8, (45, (0, [(0, 82)]))))), (35, (1, (2, (0, (0, []))))), (36, (12, (0, (0, (0, []))))), (37, (1, (3, (0, (0, []))))), (38, (2, (0, (0, (0, []))))), (39, (6, (8, (33, (0, [(0, 51)]))))), (42, (1, (2, (0, (0, []))))), (43, (12, (0, (0, (0, []))))), (44, (1, (3, (0, (0, []))))), (45, (10, (0, (0, (0, []))))), (46, (11, (0, (0, (0, []))))), (47, (5, (3, (0, (1, []))))), (50, (20, (0, (15, (0, []))))), (53, (5, (2, (0, (1, []))))), (56, (20, (0, (10, (0, []))))), (59, (0, (0, (0, (0, []))))), (60, (3, (2, (0, (0, []))))), (61, (1, (2, (0, (0, []))))), (62, (2, (0, (0, (0, []))))), (63, (6, (8, (43, (0, [(0, 289)]))))), (66, (19, (3, (107, (0, []))))), (69, (1, (1, (0, (0, []))))), (70, (1, (2, (0, (0, []))))), (71, (17, (6, (0, (0, []))))), (72, (0, (0, (0, (1, []))))), (73, (17, (7, (0, (0, []))))), (74, (0, (0, (0, (1, []))))), (75, (19, (1, (49, (0, []))))), (78, (0, (0, (0, (1, []))))), (79, (20, (0, (50, (0, []))))), (82, (0, (0, (0, (0, []))))), (83, (3, (3, (0, (0, []))))), (84, (2, (0, (0, (0, []))))), (85, (6, (8, (44, (0, [(0, 79)]))))), (88, (1, (2, (0, (0, []))))), (89, (12, (0, (0, (0, []))))), (90, (0, (0, (0, (0, []))))), (91, (8, (0, (0, (0, []))))), (92, (3, (4, (0, (0, []))))), (94, (1, (4, (0, (0, []))))), (96, (0, (0, (0, (4, []))))), (97, (19, (3, (73, (0, []))))), (100, (2, (0, (0, (0, []))))), (101, (6, (8, (33, (0, [(0, 51)]))))), (104, (2, (0, (0, (0, []))))), (105, (6, (8, (44, (0, [(0, 79)]))))), (108, (1, (2, (0, (0, []))))), (109, (12, (0, (0, (0, []))))), (110, (0, (0, (0, (1, []))))), (111, (8, (0, (0, (0, []))))), (112, (12, (0, (0, (0, []))))), (113, (1, (4, (0, (0, []))))), (115, (1, (3, (0, (0, []))))), (116, (11, (0, (0, (0, []))))), (117, (1, (4, (0, (0, []))))), (119, (0, (0, (0, (4, []))))), (120, (19, (1, (89, (0, []))))), (123, (2, (0, (0, (0, []))))), (124, (1, (3, (0, (0, []))))), (125, (18, (0, (86, (0, []))))), (128, (2, (0, (0, (0, []))))), (129, (6, (8, (44, (0, [(0, 79)]))))), (132, (1, (2, (0, (0, []))))), (133, (12, (0, (0, (0, []))))), (134, (0, (0, (0, (2, []))))), (135, (8, (0, (0, (0, []))))), (136, (20, (0, (88, (0, []))))), (139, (2, (0, (0, (0, []))))), (140, (6, (8, (46, (0, [(0, 292)]))))), (143, (7, (8, (28, (0, [(0, 37)]))))), (146, (1, (4, (0, (0, []))))), (148, (0, (0, (0, (5, []))))), (149, (19, (1, (105, (0, []))))), (152, (2, (0, (0, (0, []))))), (153, (1, (3, (0, (0, []))))), (154, (18, (0, (102, (0, []))))), (157, (2, (0, (0, (0, []))))), (158, (6, (8, (44, (0, [(0, 79)]))))), (161, (1, (2, (0, (0, []))))), (162, (12, (0, (0, (0, []))))), (163, (0, (0, (0, (2, []))))), (164, (8, (0, (0, (0, []))))), (165, (20, (0, (104, (0, []))))), (168, (2, (0, (0, (0, []))))), (169, (6, (8, (47, (0, [(0, 295)]))))), (172, (7, (8, (29, (0, [(0, 268)]))))), (175, (5, (2, (0, (1, []))))), (178, (20, (0, (36, (0, []))))), (181, (29, (0, (0, (0, [])))))], ([], 5))
set_option maxRecDepth 100000 in
noncomputable def m_X8_comesBack : m_Md := ([(0, (2, (0, (0, (0, []))))), (1, (2, (0, (0, (0, []))))), (2, (6, (8, (46, (0, [(0, 292)]))))), (5, (7, (8, (28, (0, [(0, 37)]))))), (8, (2, (0, (0, (0, []))))), (9, (2, (0, (0, (0, []))))), (10, (6, (8, (47, (0, [(0, 295)]))))), (13, (7, (8, (29, (0, [(0, 268)]))))), (16, (0, (0, (0, (0, []))))), (17, (3, (1, (0, (0, []))))), (18, (1, (1, (0, (0, []))))), (19, (0, (0, (0, (13, []))))), (21, (19, (3, (34, (0, []))))), (24, (0, (0, (0, (0, []))))), (25, (3, (2, (0, (0, []))))), (26, (1, (2, (0, (0, []))))), (27, (0, (0, (0, (4, []))))), (28, (19, (3, (32, (0, []))))), (31, (2, (0, (0, (0, []))))), (32, (6, (8, (33, (0, [(0, 51)]))))), (35, (1, (1, (0, (0, []))))), (36, (12, (0, (0, (0, []))))), (37, (1, (2, (0, (0, []))))), (38, (2, (0, (0, (0, []))))), (39, (6, (8, (45, (0, [(0, 82)]))))), (42, (1, (1, (0, (0, []))))), (43, (12, (0, (0, (0, []))))), (44, (1, (2, (0, (0, []))))), (45, (10, (0, (0, (0, []))))), (46, (11, (0, (0, (0, []))))), (47, (5, (2, (0, (1, []))))), (50, (20, (0, (15, (0, []))))), (53, (5, (1, (0, (1, []))))), (56, (20, (0, (10, (0, []))))), (59, (29, (0, (0, (0, [])))))], ([], 3))
set_option maxRecDepth 100000 in
noncomputable def m_X8_caseMany : m_Md := ([(0, (0, (0, (0, (1, []))))), (1, (2, (0, (0, (0, []))))), (2, (6, (8, (43, (0, [(0, 289)]))))), (5, (17, (5, (0, (0, []))))), (6, (27, (0, (0, (0, [])))))], ([], 1))
set_option maxRecDepth 100000 in
noncomputable def m_X8_findCases : m_Md := ([(0, (0, (0, (0, (0, []))))), (1, (3, (1, (0, (0, []))))), (2, (1, (1, (0, (0, []))))), (3, (2, (0, (0, (0, []))))), (4, (30, (195, (1, (9, [(0, 298)]))))), (7, (19, (3, (34, (0, []))))), (10, (2, (0, (0, (0, []))))), (11, (1, (1, (0, (0, []))))), (12, (30, (193, (2, (9, [(0, 301)]))))), (15, (2, (0, (0, (0, []))))), (16, (2, (0, (0, (0, []))))), (17, (6, (8, (13, (0, [(0, 25)]))))), (20, (30, (182, (2, (9, [(0, 283)]))))), (23, (0, (0, (0, (0, []))))), (24, (3, (2, (0, (0, []))))), (25, (1, (2, (0, (0, []))))), (26, (0, (0, (0, (13, []))))), (28, (19, (3, (30, (0, []))))), (31, (2, (0, (0, (0, []))))), (32, (6, (8, (48, (0, [(0, 85)]))))), (35, (1, (1, (0, (0, []))))), (36, (12, (0, (0, (0, []))))), (37, (1, (2, (0, (0, []))))), (38, (2, (0, (0, (0, []))))), (39, (6, (8, (39, (0, [(0, 66)]))))), (42, (1, (2, (0, (0, []))))), (43, (8, (0, (0, (0, []))))), (44, (9, (0, (0, (0, []))))), (45, (5, (2, (0, (1, []))))), (48, (20, (0, (15, (0, []))))), (51, (2, (0, (0, (0, []))))), (52, (30, (194, (1, (9, [(0, 304)]))))), (55, (5, (1, (0, (1, []))))), (58, (20, (0, (2, (0, []))))), (61, (29, (0, (0, (0, [])))))], ([], 3))
set_option maxRecDepth 100000 in
noncomputable def m_X8_inCase : m_Md := ([(0, (2, (0, (0, (0, []))))), (1, (0, (0, (0, (0, []))))), (2, (7, (8, (0, (0, [(0, 94)]))))), (5, (2, (0, (0, (0, []))))), (6, (2, (0, (0, (0, []))))), (7, (1, (2, (0, (0, []))))), (8, (30, (173, (2, (9, [(0, 265)]))))), (11, (18, (1, (10, (0, []))))), (14, (0, (0, (0, (1, []))))), (15, (20, (0, (11, (0, []))))), (18, (0, (0, (0, (0, []))))), (19, (0, (0, (0, (1, []))))), (20, (30, (134, (3, (9, [(0, 245)]))))), (23, (18, (1, (29, (0, []))))), (26, (2, (0, (0, (0, []))))), (27, (1, (1, (0, (0, []))))), (28, (0, (0, (0, (0, []))))), (29, (2, (0, (0, (0, []))))), (30, (30, (195, (1, (9, [(0, 298)]))))), (33, (0, (0, (0, (1, []))))), (34, (17, (1, (0, (0, []))))), (35, (30, (135, (3, (0, [(1, 131)]))))), (38, (18, (1, (25, (0, []))))), (41, (0, (0, (0, (1, []))))), (42, (20, (0, (26, (0, []))))), (45, (0, (0, (0, (0, []))))), (46, (0, (0, (0, (2, []))))), (47, (30, (134, (3, (9, [(0, 245)]))))), (50, (18, (0, (31, (0, []))))), (53, (0, (0, (0, (0, []))))), (54, (27, (0, (0, (0, []))))), (55, (2, (0, (0, (0, []))))), (56, (30, (196, (1, (9, [(0, 307)]))))), (59, (2, (0, (0, (0, []))))), (60, (6, (8, (48, (0, [(0, 85)]))))), (63, (1, (1, (0, (0, []))))), (64, (12, (0, (0, (0, []))))), (65, (1, (2, (0, (0, []))))), (66, (8, (0, (0, (0, []))))), (67, (27, (0, (0, (0, [])))))], ([], 3))
set_option maxRecDepth 100000 in
noncomputable def m_X8_casesOf : m_Md := ([(0, (2, (0, (0, (0, []))))), (1, (30, (196, (1, (9, [(0, 307)]))))), (4, (0, (0, (0, (0, []))))), (5, (3, (2, (0, (0, []))))), (6, (0, (0, (0, (0, []))))), (7, (3, (3, (0, (0, []))))), (8, (1, (3, (0, (0, []))))), (9, (2, (0, (0, (0, []))))), (10, (30, (195, (1, (9, [(0, 298)]))))), (13, (19, (3, (25, (0, []))))), (16, (1, (2, (0, (0, []))))), (17, (2, (0, (0, (0, []))))), (18, (6, (8, (48, (0, [(0, 85)]))))), (21, (1, (3, (0, (0, []))))), (22, (12, (0, (0, (0, []))))), (23, (1, (1, (0, (0, []))))), (24, (8, (0, (0, (0, []))))), (25, (18, (5, (20, (0, []))))), (28, (0, (0, (0, (1, []))))), (29, (20, (0, (21, (0, []))))), (32, (0, (0, (0, (0, []))))), (33, (17, (0, (0, (0, []))))), (34, (3, (2, (0, (0, []))))), (35, (5, (3, (0, (1, []))))), (38, (20, (0, (6, (0, []))))), (41, (1, (2, (0, (0, []))))), (42, (27, (0, (0, (0, [])))))], ([], 4))
set_option maxRecDepth 100000 in
noncomputable def m_X8_sure : m_Md := ([(0, (2, (0, (0, (0, []))))), (1, (0, (0, (0, (0, []))))), (2, (7, (8, (0, (0, [(0, 94)]))))), (5, (2, (0, (0, (0, []))))), (6, (2, (0, (0, (0, []))))), (7, (1, (1, (0, (0, []))))), (8, (30, (173, (2, (9, [(0, 265)]))))), (11, (18, (1, (10, (0, []))))), (14, (0, (0, (0, (1, []))))), (15, (20, (0, (11, (0, []))))), (18, (0, (0, (0, (0, []))))), (19, (0, (0, (0, (1, []))))), (20, (30, (134, (3, (9, [(0, 245)]))))), (23, (18, (0, (16, (0, []))))), (26, (0, (0, (0, (0, []))))), (27, (27, (0, (0, (0, []))))), (28, (2, (0, (0, (0, []))))), (29, (1, (1, (0, (0, []))))), (30, (30, (198, (2, (9, [(0, 310)]))))), (33, (3, (2, (0, (0, []))))), (34, (1, (2, (0, (0, []))))), (35, (2, (0, (0, (0, []))))), (36, (30, (195, (1, (9, [(0, 298)]))))), (39, (19, (1, (26, (0, []))))), (42, (0, (0, (0, (2, []))))), (43, (20, (0, (31, (0, []))))), (46, (1, (2, (0, (0, []))))), (47, (18, (5, (30, (0, []))))), (50, (0, (0, (0, (1, []))))), (51, (20, (0, (31, (0, []))))), (54, (0, (0, (0, (0, []))))), (55, (27, (0, (0, (0, [])))))], ([], 3))
set_option maxRecDepth 100000 in
noncomputable def m_X8_cases : m_Md := ([(0, (2, (0, (0, (0, []))))), (1, (0, (0, (0, (0, []))))), (2, (7, (8, (0, (0, [(0, 94)]))))), (5, (2, (0, (0, (0, []))))), (6, (2, (0, (0, (0, []))))), (7, (1, (1, (0, (0, []))))), (8, (30, (173, (2, (9, [(0, 265)]))))), (11, (18, (1, (10, (0, []))))), (14, (0, (0, (0, (1, []))))), (15, (20, (0, (11, (0, []))))), (18, (0, (0, (0, (0, []))))), (19, (0, (0, (0, (1, []))))), (20, (30, (134, (3, (9, [(0, 245)]))))), (23, (18, (0, (16, (0, []))))), (26, (0, (0, (0, (0, []))))), (27, (27, (0, (0, (0, []))))), (28, (2, (0, (0, (0, []))))), (29, (1, (1, (0, (0, []))))), (30, (30, (198, (2, (9, [(0, 310)]))))), (33, (27, (0, (0, (0, [])))))], ([], 2))
set_option maxRecDepth 100000 in
noncomputable def m_X8_hangs : m_Md := ([(0, (2, (0, (0, (0, []))))), (1, (0, (0, (0, (0, []))))), (2, (7, (8, (0, (0, [(0, 94)]))))), (5, (2, (0, (0, (0, []))))), (6, (2, (0, (0, (0, []))))), (7, (1, (1, (0, (0, []))))), (8, (30, (173, (2, (9, [(0, 265)]))))), (11, (18, (1, (10, (0, []))))), (14, (0, (0, (0, (1, []))))), (15, (20, (0, (11, (0, []))))), (18, (0, (0, (0, (0, []))))), (19, (0, (0, (0, (1, []))))), (20, (30, (134, (3, (9, [(0, 245)]))))), (23, (18, (0, (16, (0, []))))), (26, (0, (0, (0, (0, []))))), (27, (27, (0, (0, (0, []))))), (28, (2, (0, (0, (0, []))))), (29, (30, (196, (1, (9, [(0, 307)]))))), (32, (0, (0, (0, (0, []))))), (33, (3, (2, (0, (0, []))))), (34, (1, (2, (0, (0, []))))), (35, (2, (0, (0, (0, []))))), (36, (6, (8, (43, (0, [(0, 289)]))))), (39, (19, (3, (94, (0, []))))), (42, (0, (0, (0, (0, []))))), (43, (3, (3, (0, (0, []))))), (44, (0, (0, (0, (0, []))))), (45, (3, (4, (0, (0, []))))), (47, (0, (0, (0, (0, []))))), (48, (3, (5, (0, (0, []))))), (50, (1, (5, (0, (0, []))))), (52, (2, (0, (0, (0, []))))), (53, (30, (195, (1, (9, [(0, 298)]))))), (56, (19, (3, (82, (0, []))))), (59, (2, (0, (0, (0, []))))), (60, (6, (8, (48, (0, [(0, 85)]))))), (63, (1, (5, (0, (0, []))))), (65, (12, (0, (0, (0, []))))), (66, (1, (1, (0, (0, []))))), (67, (8, (0, (0, (0, []))))), (68, (18, (5, (43, (0, []))))), (71, (0, (0, (0, (1, []))))), (72, (20, (0, (44, (0, []))))), (75, (0, (0, (0, (0, []))))), (76, (3, (6, (0, (0, []))))), (78, (1, (3, (0, (0, []))))), (79, (1, (6, (0, (0, []))))), (81, (1, (5, (0, (0, []))))), (83, (1, (2, (0, (0, []))))), (84, (17, (6, (0, (0, []))))), (85, (0, (0, (0, (1, []))))), (86, (17, (7, (0, (0, []))))), (87, (0, (0, (0, (1, []))))), (88, (19, (1, (56, (0, []))))), (91, (0, (0, (0, (1, []))))), (92, (20, (0, (57, (0, []))))), (95, (0, (0, (0, (0, []))))), (96, (19, (1, (60, (0, []))))), (99, (0, (0, (0, (1, []))))), (100, (20, (0, (61, (0, []))))), (103, (0, (0, (0, (0, []))))), (104, (17, (0, (0, (0, []))))), (105, (3, (3, (0, (0, []))))), (106, (1, (4, (0, (0, []))))), (108, (1, (6, (0, (0, []))))), (110, (1, (5, (0, (0, []))))), (112, (1, (2, (0, (0, []))))), (113, (17, (6, (0, (0, []))))), (114, (0, (0, (0, (1, []))))), (115, (17, (7, (0, (0, []))))), (116, (18, (1, (73, (0, []))))), (119, (0, (0, (0, (1, []))))), (120, (20, (0, (74, (0, []))))), (123, (0, (0, (0, (0, []))))), (124, (19, (1, (77, (0, []))))), (127, (0, (0, (0, (1, []))))), (128, (20, (0, (78, (0, []))))), (131, (0, (0, (0, (0, []))))), (132, (17, (0, (0, (0, []))))), (133, (3, (4, (0, (0, []))))), (135, (5, (5, (0, (1, []))))), (138, (20, (0, (30, (0, []))))), (141, (1, (3, (0, (0, []))))), (142, (2, (0, (0, (0, []))))), (143, (30, (195, (1, (9, [(0, 298)]))))), (146, (19, (0, (90, (0, []))))), (149, (1, (4, (0, (0, []))))), (151, (2, (0, (0, (0, []))))), (152, (30, (195, (1, (9, [(0, 298)]))))), (155, (19, (1, (92, (0, []))))), (158, (1, (2, (0, (0, []))))), (159, (27, (0, (0, (0, []))))), (160, (5, (2, (0, (1, []))))), (163, (20, (0, (20, (0, []))))), (166, (0, (0, (0, ((-1), []))))), (167, (27, (0, (0, (0, [])))))], ([], 7))
set_option maxRecDepth 100000 in
noncomputable def m_X8_ones : m_Md := ([(0, (0, (0, (0, (0, []))))), (1, (3, (1, (0, (0, []))))), (2, (0, (0, (0, (0, []))))), (3, (3, (2, (0, (0, []))))), (4, (1, (2, (0, (0, []))))), (5, (0, (0, (0, (8, []))))), (7, (19, (3, (17, (0, []))))), (10, (1, (1, (0, (0, []))))), (11, (1, (0, (0, (0, []))))), (12, (1, (2, (0, (0, []))))), (13, (17, (6, (0, (0, []))))), (14, (0, (0, (0, (1, []))))), (15, (17, (7, (0, (0, []))))), (16, (17, (0, (0, (0, []))))), (17, (3, (1, (0, (0, []))))), (18, (5, (2, (0, (1, []))))), (21, (20, (0, (4, (0, []))))), (24, (1, (1, (0, (0, []))))), (25, (27, (0, (0, (0, [])))))], ([], 3))
set_option maxRecDepth 100000 in
noncomputable def m_X8_areAlike : m_Md := ([(0, (0, (0, (0, (0, []))))), (1, (3, (3, (0, (0, []))))), (2, (1, (3, (0, (0, []))))), (3, (0, (0, (0, (13, []))))), (5, (19, (3, (22, (0, []))))), (8, (2, (0, (0, (0, []))))), (9, (6, (8, (48, (0, [(0, 85)]))))), (12, (1, (1, (0, (0, []))))), (13, (12, (0, (0, (0, []))))), (14, (1, (3, (0, (0, []))))), (15, (8, (0, (0, (0, []))))), (16, (2, (0, (0, (0, []))))), (17, (6, (8, (48, (0, [(0, 85)]))))), (20, (1, (2, (0, (0, []))))), (21, (12, (0, (0, (0, []))))), (22, (1, (3, (0, (0, []))))), (23, (8, (0, (0, (0, []))))), (24, (19, (0, (20, (0, []))))), (27, (0, (0, (0, (0, []))))), (28, (27, (1, (0, (0, []))))), (29, (5, (3, (0, (1, []))))), (32, (20, (0, (2, (0, []))))), (35, (0, (0, (0, (1, []))))), (36, (27, (1, (0, (0, [])))))], ([], 4))
set_option maxRecDepth 100000 in
noncomputable def m_X8_settles : m_Md := ([(0, (0, (0, (0, (0, []))))), (1, (3, (2, (0, (0, []))))), (2, (1, (2, (0, (0, []))))), (3, (2, (0, (0, (0, []))))), (4, (30, (195, (1, (9, [(0, 298)]))))), (7, (19, (3, (17, (0, []))))), (10, (2, (0, (0, (0, []))))), (11, (1, (2, (0, (0, []))))), (12, (1, (2, (0, (0, []))))), (13, (1, (1, (0, (0, []))))), (14, (17, (7, (0, (0, []))))), (15, (30, (203, (3, (9, [(0, 313)]))))), (18, (18, (1, (15, (0, []))))), (21, (0, (0, (0, (0, []))))), (22, (27, (1, (0, (0, []))))), (23, (5, (2, (0, (1, []))))), (26, (20, (0, (2, (0, []))))), (29, (0, (0, (0, (1, []))))), (30, (27, (1, (0, (0, [])))))], ([], 3))
set_option maxRecDepth 100000 in
noncomputable def m_X8_least : m_Md := ([(0, (2, (0, (0, (0, []))))), (1, (0, (0, (0, (0, []))))), (2, (7, (8, (0, (0, [(0, 94)]))))), (5, (2, (0, (0, (0, []))))), (6, (30, (196, (1, (9, [(0, 307)]))))), (9, (0, (0, (0, (0, []))))), (10, (3, (1, (0, (0, []))))), (11, (1, (1, (0, (0, []))))), (12, (2, (0, (0, (0, []))))), (13, (6, (8, (43, (0, [(0, 289)]))))), (16, (19, (4, (31, (0, []))))), (19, (0, (0, (0, (0, []))))), (20, (3, (2, (0, (0, []))))), (21, (1, (2, (0, (0, []))))), (22, (2, (0, (0, (0, []))))), (23, (30, (195, (1, (9, [(0, 298)]))))), (26, (19, (3, (29, (0, []))))), (29, (1, (2, (0, (0, []))))), (30, (30, (202, (1, (0, [(1, 317)]))))), (33, (1, (1, (0, (0, []))))), (34, (19, (1, (27, (0, []))))), (37, (2, (0, (0, (0, []))))), (38, (1, (2, (0, (0, []))))), (39, (30, (204, (2, (9, [(0, 320)]))))), (42, (18, (0, (27, (0, []))))), (45, (1, (2, (0, (0, []))))), (46, (27, (0, (0, (0, []))))), (47, (5, (2, (0, (1, []))))), (50, (20, (0, (13, (0, []))))), (53, (5, (1, (0, (1, []))))), (56, (20, (0, (7, (0, []))))), (59, (2, (0, (0, (0, []))))), (60, (30, (195, (1, (9, [(0, 298)]))))), (63, (0, (0, (0, (1, []))))), (64, (17, (1, (0, (0, []))))), (65, (27, (0, (0, (0, [])))))], ([], 3))
set_option maxRecDepth 100000 in
noncomputable def m_X8_find : m_Md := ([(0, (2, (0, (0, (0, []))))), (1, (0, (0, (0, (0, []))))), (2, (7, (8, (0, (0, [(0, 94)]))))), (5, (2, (0, (0, (0, []))))), (6, (1, (1, (0, (0, []))))), (7, (0, (0, (0, (0, []))))), (8, (2, (0, (0, (0, []))))), (9, (6, (8, (43, (0, [(0, 289)]))))), (12, (0, (0, (0, (1, []))))), (13, (17, (1, (0, (0, []))))), (14, (30, (135, (3, (0, [(1, 131)]))))), (17, (18, (1, (14, (0, []))))), (20, (0, (0, (0, (1, []))))), (21, (20, (0, (15, (0, []))))), (24, (0, (0, (0, (0, []))))), (25, (0, (0, (0, (1, []))))), (26, (30, (134, (3, (9, [(0, 245)]))))), (29, (18, (0, (20, (0, []))))), (32, (0, (0, (0, (0, []))))), (33, (27, (0, (0, (0, []))))), (34, (2, (0, (0, (0, []))))), (35, (6, (8, (44, (0, [(0, 79)]))))), (38, (1, (1, (0, (0, []))))), (39, (12, (0, (0, (0, []))))), (40, (0, (0, (0, (0, []))))), (41, (8, (0, (0, (0, []))))), (42, (3, (3, (0, (0, []))))), (43, (2, (0, (0, (0, []))))), (44, (6, (8, (44, (0, [(0, 79)]))))), (47, (1, (1, (0, (0, []))))), (48, (12, (0, (0, (0, []))))), (49, (0, (0, (0, (1, []))))), (50, (8, (0, (0, (0, []))))), (51, (3, (4, (0, (0, []))))), (53, (2, (0, (0, (0, []))))), (54, (6, (8, (44, (0, [(0, 79)]))))), (57, (1, (1, (0, (0, []))))), (58, (12, (0, (0, (0, []))))), (59, (0, (0, (0, (2, []))))), (60, (8, (0, (0, (0, []))))), (61, (3, (5, (0, (0, []))))), (63, (1, (3, (0, (0, []))))), (64, (0, (0, (0, (4, []))))), (65, (19, (3, (51, (0, []))))), (68, (2, (0, (0, (0, []))))), (69, (6, (8, (33, (0, [(0, 51)]))))), (72, (1, (4, (0, (0, []))))), (74, (12, (0, (0, (0, []))))), (75, (1, (3, (0, (0, []))))), (76, (1, (2, (0, (0, []))))), (77, (11, (0, (0, (0, []))))), (78, (1, (3, (0, (0, []))))), (79, (0, (0, (0, (4, []))))), (80, (19, (1, (59, (0, []))))), (83, (1, (2, (0, (0, []))))), (84, (18, (0, (59, (0, []))))), (87, (2, (0, (0, (0, []))))), (88, (1, (5, (0, (0, []))))), (90, (7, (8, (28, (0, [(0, 37)]))))), (93, (1, (3, (0, (0, []))))), (94, (0, (0, (0, (5, []))))), (95, (19, (1, (67, (0, []))))), (98, (1, (2, (0, (0, []))))), (99, (18, (0, (67, (0, []))))), (102, (2, (0, (0, (0, []))))), (103, (1, (5, (0, (0, []))))), (105, (7, (8, (29, (0, [(0, 268)]))))), (108, (1, (1, (0, (0, []))))), (109, (3, (6, (0, (0, []))))), (111, (1, (6, (0, (0, []))))), (113, (0, (0, (0, (1, []))))), (114, (17, (0, (0, (0, []))))), (115, (2, (0, (0, (0, []))))), (116, (6, (8, (43, (0, [(0, 289)]))))), (119, (19, (3, (98, (0, []))))), (122, (0, (0, (0, (0, []))))), (123, (3, (7, (0, (0, []))))), (125, (1, (7, (0, (0, []))))), (127, (0, (0, (0, (3, []))))), (128, (19, (3, (96, (0, []))))), (131, (2, (0, (0, (0, []))))), (132, (6, (8, (44, (0, [(0, 79)]))))), (135, (1, (6, (0, (0, []))))), (137, (12, (0, (0, (0, []))))), (138, (1, (7, (0, (0, []))))), (140, (2, (0, (0, (0, []))))), (141, (6, (8, (44, (0, [(0, 79)]))))), (144, (1, (6, (0, (0, []))))), (146, (0, (0, (0, (1, []))))), (147, (17, (0, (0, (0, []))))), (148, (12, (0, (0, (0, []))))), (149, (1, (7, (0, (0, []))))), (151, (8, (0, (0, (0, []))))), (152, (9, (0, (0, (0, []))))), (153, (5, (7, (0, (1, []))))), (156, (20, (0, (77, (0, []))))), (159, (5, (6, (0, (1, []))))), (162, (20, (0, (69, (0, []))))), (165, (2, (0, (0, (0, []))))), (166, (22, (0, (0, (0, []))))), (167, (6, (8, (43, (0, [(0, 289)]))))), (170, (0, (0, (0, (1, []))))), (171, (17, (1, (0, (0, []))))), (172, (7, (8, (43, (0, [(0, 289)]))))), (175, (1, (3, (0, (0, []))))), (176, (27, (0, (0, (0, [])))))], ([], 8))
set_option maxRecDepth 100000 in
noncomputable def m_X8_titleNow : m_Md := ([(0, (2, (0, (0, (0, []))))), (1, (2, (0, (0, (0, []))))), (2, (6, (8, (13, (0, [(0, 25)]))))), (5, (30, (182, (2, (9, [(0, 283)]))))), (8, (0, (0, (0, (0, []))))), (9, (3, (1, (0, (0, []))))), (10, (0, (0, (0, (0, []))))), (11, (3, (2, (0, (0, []))))), (12, (1, (2, (0, (0, []))))), (13, (0, (0, (0, ((-1), []))))), (14, (19, (0, (57, (0, []))))), (17, (0, (0, (0, ((-1), []))))), (18, (3, (2, (0, (0, []))))), (19, (2, (0, (0, (0, []))))), (20, (6, (8, (34, (0, [(0, 271)]))))), (23, (3, (3, (0, (0, []))))), (24, (1, (3, (0, (0, []))))), (25, (18, (5, (49, (0, []))))), (28, (2, (0, (0, (0, []))))), (29, (6, (8, (36, (0, [(0, 57)]))))), (32, (1, (3, (0, (0, []))))), (33, (8, (0, (0, (0, []))))), (34, (1, (1, (0, (0, []))))), (35, (19, (1, (47, (0, []))))), (38, (2, (0, (0, (0, []))))), (39, (6, (8, (35, (0, [(0, 54)]))))), (42, (1, (3, (0, (0, []))))), (43, (8, (0, (0, (0, []))))), (44, (18, (5, (47, (0, []))))), (47, (2, (0, (0, (0, []))))), (48, (6, (8, (35, (0, [(0, 54)]))))), (51, (1, (3, (0, (0, []))))), (52, (8, (0, (0, (0, []))))), (53, (2, (0, (0, (0, []))))), (54, (6, (8, (27, (0, [(0, 34)]))))), (57, (19, (2, (47, (0, []))))), (60, (2, (0, (0, (0, []))))), (61, (6, (8, (37, (0, [(0, 60)]))))), (64, (1, (3, (0, (0, []))))), (65, (8, (0, (0, (0, []))))), (66, (2, (0, (0, (0, []))))), (67, (6, (8, (35, (0, [(0, 54)]))))), (70, (1, (3, (0, (0, []))))), (71, (8, (0, (0, (0, []))))), (72, (19, (1, (47, (0, []))))), (75, (1, (3, (0, (0, []))))), (76, (3, (2, (0, (0, []))))), (77, (5, (3, (0, ((-1), []))))), (80, (20, (0, (16, (0, []))))), (83, (1, (2, (0, (0, []))))), (84, (0, (0, (0, ((-1), []))))), (85, (19, (1, (54, (0, []))))), (88, (1, (1, (0, (0, []))))), (89, (20, (0, (55, (0, []))))), (92, (1, (2, (0, (0, []))))), (93, (3, (1, (0, (0, []))))), (94, (20, (0, (8, (0, []))))), (97, (1, (1, (0, (0, []))))), (98, (27, (0, (0, (0, [])))))], ([], 4))
set_option maxRecDepth 100000 in
noncomputable def m_X8_title : m_Md := ([(0, (2, (0, (0, (0, []))))), (1, (0, (0, (0, (0, []))))), (2, (7, (8, (0, (0, [(0, 94)]))))), (5, (2, (0, (0, (0, []))))), (6, (30, (207, (1, (9, [(0, 323)]))))), (9, (27, (0, (0, (0, [])))))], ([], 1))
set_option maxRecDepth 100000 in
noncomputable def m_X8_found : m_Md := ([(0, (2, (0, (0, (0, []))))), (1, (0, (0, (0, (0, []))))), (2, (7, (8, (0, (0, [(0, 94)]))))), (5, (2, (0, (0, (0, []))))), (6, (2, (0, (0, (0, []))))), (7, (1, (1, (0, (0, []))))), (8, (30, (173, (2, (9, [(0, 265)]))))), (11, (18, (1, (10, (0, []))))), (14, (0, (0, (0, (1, []))))), (15, (20, (0, (11, (0, []))))), (18, (0, (0, (0, (0, []))))), (19, (0, (0, (0, (1, []))))), (20, (30, (134, (3, (9, [(0, 245)]))))), (23, (18, (1, (26, (0, []))))), (26, (2, (0, (0, (0, []))))), (27, (1, (2, (0, (0, []))))), (28, (0, (0, (0, (0, []))))), (29, (0, (0, (0, (9999, []))))), (32, (30, (135, (3, (0, [(1, 131)]))))), (35, (18, (1, (22, (0, []))))), (38, (0, (0, (0, (1, []))))), (39, (20, (0, (23, (0, []))))), (42, (0, (0, (0, (0, []))))), (43, (0, (0, (0, (2, []))))), (44, (30, (134, (3, (9, [(0, 245)]))))), (47, (18, (0, (28, (0, []))))), (50, (0, (0, (0, (0, []))))), (51, (27, (0, (0, (0, []))))), (52, (2, (0, (0, (0, []))))), (53, (30, (207, (1, (9, [(0, 323)]))))), (56, (1, (1, (0, (0, []))))), (57, (19, (0, (34, (0, []))))), (60, (0, (0, (0, (0, []))))), (61, (27, (0, (0, (0, []))))), (62, (1, (1, (0, (0, []))))), (63, (18, (5, (57, (0, []))))), (66, (2, (0, (0, (0, []))))), (67, (6, (8, (41, (0, [(0, 73)]))))), (70, (1, (1, (0, (0, []))))), (71, (10, (0, (0, (0, []))))), (72, (18, (0, (57, (0, []))))), (75, (2, (0, (0, (0, []))))), (76, (6, (8, (40, (0, [(0, 69)]))))), (79, (1, (1, (0, (0, []))))), (80, (10, (0, (0, (0, []))))), (81, (18, (0, (57, (0, []))))), (84, (2, (0, (0, (0, []))))), (85, (6, (8, (33, (0, [(0, 51)]))))), (88, (1, (1, (0, (0, []))))), (89, (12, (0, (0, (0, []))))), (90, (0, (0, (0, (3, []))))), (91, (10, (0, (0, (0, []))))), (92, (18, (1, (57, (0, []))))), (95, (0, (0, (0, (2, []))))), (96, (1, (2, (0, (0, []))))), (97, (17, (2, (0, (0, []))))), (98, (20, (0, (58, (0, []))))), (101, (1, (2, (0, (0, []))))), (102, (27, (0, (0, (0, [])))))], ([], 3))
set_option maxRecDepth 100000 in
noncomputable def m_X8_put : m_Md := ([(0, (2, (0, (0, (0, []))))), (1, (0, (0, (0, (0, []))))), (2, (7, (8, (0, (0, [(0, 94)]))))), (5, (2, (0, (0, (0, []))))), (6, (1, (1, (0, (0, []))))), (7, (0, (0, (0, (0, []))))), (8, (0, (0, (0, (5, []))))), (9, (30, (135, (3, (0, [(1, 131)]))))), (12, (18, (0, (14, (0, []))))), (15, (1, (2, (0, (0, []))))), (16, (0, (0, (0, (0, []))))), (17, (0, (0, (0, (999, []))))), (20, (30, (135, (3, (0, [(1, 131)]))))), (23, (18, (1, (16, (0, []))))), (26, (0, (0, (0, (1, []))))), (27, (20, (0, (17, (0, []))))), (30, (0, (0, (0, (0, []))))), (31, (0, (0, (0, (1, []))))), (32, (30, (134, (3, (9, [(0, 245)]))))), (35, (18, (0, (22, (0, []))))), (38, (0, (0, (0, (0, []))))), (39, (27, (0, (0, (0, []))))), (40, (2, (0, (0, (0, []))))), (41, (6, (8, (49, (0, [(0, 326)]))))), (44, (0, (0, (0, (20, []))))), (46, (19, (1, (28, (0, []))))), (49, (0, (0, (0, ((-1), []))))), (50, (27, (0, (0, (0, []))))), (51, (2, (0, (0, (0, []))))), (52, (6, (8, (51, (0, [(0, 88)]))))), (55, (2, (0, (0, (0, []))))), (56, (6, (8, (49, (0, [(0, 326)]))))), (59, (12, (0, (0, (0, []))))), (60, (0, (0, (0, (0, []))))), (61, (1, (1, (0, (0, []))))), (62, (9, (0, (0, (0, []))))), (63, (2, (0, (0, (0, []))))), (64, (6, (8, (51, (0, [(0, 88)]))))), (67, (2, (0, (0, (0, []))))), (68, (6, (8, (49, (0, [(0, 326)]))))), (71, (12, (0, (0, (0, []))))), (72, (0, (0, (0, (1, []))))), (73, (1, (2, (0, (0, []))))), (74, (9, (0, (0, (0, []))))), (75, (2, (0, (0, (0, []))))), (76, (22, (0, (0, (0, []))))), (77, (6, (8, (49, (0, [(0, 326)]))))), (80, (0, (0, (0, (1, []))))), (81, (17, (0, (0, (0, []))))), (82, (7, (8, (49, (0, [(0, 326)]))))), (85, (2, (0, (0, (0, []))))), (86, (22, (0, (0, (0, []))))), (87, (6, (8, (50, (0, [(0, 329)]))))), (90, (1, (2, (0, (0, []))))), (91, (17, (0, (0, (0, []))))), (92, (7, (8, (50, (0, [(0, 329)]))))), (95, (2, (0, (0, (0, []))))), (96, (6, (8, (50, (0, [(0, 329)]))))), (99, (27, (0, (0, (0, [])))))], ([], 3))
set_option maxRecDepth 100000 in
noncomputable def m_X8_share : m_Md := ([(0, (2, (0, (0, (0, []))))), (1, (0, (0, (0, (0, []))))), (2, (7, (8, (0, (0, [(0, 94)]))))), (5, (2, (0, (0, (0, []))))), (6, (1, (1, (0, (0, []))))), (7, (0, (0, (0, (0, []))))), (8, (0, (0, (0, (5, []))))), (9, (30, (135, (3, (0, [(1, 131)]))))), (12, (18, (0, (15, (0, []))))), (15, (1, (2, (0, (0, []))))), (16, (0, (0, (0, (0, []))))), (17, (2, (0, (0, (0, []))))), (18, (6, (8, (50, (0, [(0, 329)]))))), (21, (30, (135, (3, (0, [(1, 131)]))))), (24, (18, (1, (17, (0, []))))), (27, (0, (0, (0, (1, []))))), (28, (20, (0, (18, (0, []))))), (31, (0, (0, (0, (0, []))))), (32, (0, (0, (0, (1, []))))), (33, (30, (134, (3, (9, [(0, 245)]))))), (36, (18, (0, (23, (0, []))))), (39, (0, (0, (0, (0, []))))), (40, (27, (0, (0, (0, []))))), (41, (0, (0, (0, (0, []))))), (42, (3, (3, (0, (0, []))))), (43, (1, (3, (0, (0, []))))), (44, (0, (0, (0, (8, []))))), (46, (19, (3, (35, (0, []))))), (49, (2, (0, (0, (0, []))))), (50, (6, (8, (14, (0, [(0, 28)]))))), (53, (1, (3, (0, (0, []))))), (54, (0, (0, (0, (0, []))))), (55, (9, (0, (0, (0, []))))), (56, (5, (3, (0, (1, []))))), (59, (20, (0, (25, (0, []))))), (62, (2, (0, (0, (0, []))))), (63, (2, (0, (0, (0, []))))), (64, (6, (8, (13, (0, [(0, 25)]))))), (67, (0, (0, (0, (0, []))))), (68, (0, (0, (0, (0, []))))), (69, (0, (0, (0, (0, []))))), (70, (30, (168, (5, (9, [(0, 261)]))))), (73, (0, (0, (0, (0, []))))), (74, (3, (3, (0, (0, []))))), (75, (0, (0, (0, (0, []))))), (76, (3, (4, (0, (0, []))))), (78, (1, (2, (0, (0, []))))), (79, (3, (5, (0, (0, []))))), (81, (2, (0, (0, (0, []))))), (82, (6, (8, (49, (0, [(0, 326)]))))), (85, (0, (0, (0, (1, []))))), (86, (17, (1, (0, (0, []))))), (87, (3, (6, (0, (0, []))))), (89, (1, (6, (0, (0, []))))), (91, (18, (2, (92, (0, []))))), (94, (1, (5, (0, (0, []))))), (96, (2, (0, (0, (0, []))))), (97, (6, (8, (51, (0, [(0, 88)]))))), (100, (1, (6, (0, (0, []))))), (102, (12, (0, (0, (0, []))))), (103, (0, (0, (0, (1, []))))), (104, (8, (0, (0, (0, []))))), (105, (30, (136, (2, (0, [(1, 255)]))))), (108, (3, (7, (0, (0, []))))), (110, (1, (5, (0, (0, []))))), (112, (1, (7, (0, (0, []))))), (114, (17, (1, (0, (0, []))))), (115, (3, (5, (0, (0, []))))), (117, (2, (0, (0, (0, []))))), (118, (6, (8, (51, (0, [(0, 88)]))))), (121, (1, (6, (0, (0, []))))), (123, (12, (0, (0, (0, []))))), (124, (0, (0, (0, (0, []))))), (125, (8, (0, (0, (0, []))))), (126, (1, (1, (0, (0, []))))), (127, (19, (0, (77, (0, []))))), (130, (20, (0, (90, (0, []))))), (133, (1, (3, (0, (0, []))))), (134, (2, (0, (0, (0, []))))), (135, (6, (8, (51, (0, [(0, 88)]))))), (138, (1, (6, (0, (0, []))))), (140, (12, (0, (0, (0, []))))), (141, (0, (0, (0, (1, []))))), (142, (8, (0, (0, (0, []))))), (143, (17, (0, (0, (0, []))))), (144, (3, (3, (0, (0, []))))), (145, (1, (4, (0, (0, []))))), (147, (1, (7, (0, (0, []))))), (149, (17, (0, (0, (0, []))))), (150, (3, (4, (0, (0, []))))), (152, (5, (6, (0, ((-1), []))))), (155, (20, (0, (53, (0, []))))), (158, (2, (0, (0, (0, []))))), (159, (6, (8, (20, (0, [(0, 214)]))))), (162, (18, (1, (97, (0, []))))), (165, (0, (0, (0, (0, []))))), (166, (20, (0, (109, (0, []))))), (169, (2, (0, (0, (0, []))))), (170, (6, (8, (20, (0, [(0, 214)]))))), (173, (0, (0, (0, (1, []))))), (174, (19, (1, (105, (0, []))))), (177, (1, (2, (0, (0, []))))), (178, (1, (3, (0, (0, []))))), (179, (17, (2, (0, (0, []))))), (180, (20, (0, (109, (0, []))))), (183, (1, (4, (0, (0, []))))), (185, (2, (0, (0, (0, []))))), (186, (6, (8, (50, (0, [(0, 329)]))))), (189, (17, (2, (0, (0, []))))), (190, (27, (0, (0, (0, [])))))], ([], 8))
set_option maxRecDepth 100000 in
noncomputable def m_X8_judge : m_Md := ([(0, (2, (0, (0, (0, []))))), (1, (0, (0, (0, (0, []))))), (2, (7, (8, (0, (0, [(0, 94)]))))), (5, (2, (0, (0, (0, []))))), (6, (2, (0, (0, (0, []))))), (7, (1, (1, (0, (0, []))))), (8, (30, (173, (2, (9, [(0, 265)]))))), (11, (18, (1, (10, (0, []))))), (14, (0, (0, (0, (1, []))))), (15, (20, (0, (11, (0, []))))), (18, (0, (0, (0, (0, []))))), (19, (0, (0, (0, (1, []))))), (20, (30, (134, (3, (9, [(0, 245)]))))), (23, (18, (1, (26, (0, []))))), (26, (2, (0, (0, (0, []))))), (27, (1, (2, (0, (0, []))))), (28, (0, (0, (0, (0, []))))), (29, (0, (0, (0, (9999, []))))), (32, (30, (135, (3, (0, [(1, 131)]))))), (35, (18, (1, (22, (0, []))))), (38, (0, (0, (0, (1, []))))), (39, (20, (0, (23, (0, []))))), (42, (0, (0, (0, (0, []))))), (43, (0, (0, (0, (2, []))))), (44, (30, (134, (3, (9, [(0, 245)]))))), (47, (18, (0, (28, (0, []))))), (50, (0, (0, (0, (0, []))))), (51, (27, (0, (0, (0, []))))), (52, (2, (0, (0, (0, []))))), (53, (6, (8, (32, (0, [(0, 46)]))))), (56, (1, (1, (0, (0, []))))), (57, (8, (0, (0, (0, []))))), (58, (3, (3, (0, (0, []))))), (59, (2, (0, (0, (0, []))))), (60, (6, (8, (32, (0, [(0, 46)]))))), (63, (1, (1, (0, (0, []))))), (64, (1, (2, (0, (0, []))))), (65, (9, (0, (0, (0, []))))), (66, (1, (3, (0, (0, []))))), (67, (27, (0, (0, (0, [])))))], ([], 4))
set_option maxRecDepth 100000 in
noncomputable def m_X8_wrong : m_Md := ([(0, (2, (0, (0, (0, []))))), (1, (0, (0, (0, (0, []))))), (2, (7, (8, (0, (0, [(0, 94)]))))), (5, (2, (0, (0, (0, []))))), (6, (2, (0, (0, (0, []))))), (7, (6, (8, (13, (0, [(0, 25)]))))), (10, (30, (182, (2, (9, [(0, 283)]))))), (13, (0, (0, (0, (1, []))))), (14, (3, (1, (0, (0, []))))), (15, (1, (1, (0, (0, []))))), (16, (2, (0, (0, (0, []))))), (17, (6, (8, (26, (0, [(0, 31)]))))), (20, (19, (3, (26, (0, []))))), (23, (2, (0, (0, (0, []))))), (24, (6, (8, (32, (0, [(0, 46)]))))), (27, (1, (1, (0, (0, []))))), (28, (8, (0, (0, (0, []))))), (29, (2, (0, (0, (0, []))))), (30, (6, (8, (35, (0, [(0, 54)]))))), (33, (1, (1, (0, (0, []))))), (34, (8, (0, (0, (0, []))))), (35, (19, (0, (24, (0, []))))), (38, (1, (1, (0, (0, []))))), (39, (27, (0, (0, (0, []))))), (40, (5, (1, (0, (1, []))))), (43, (20, (0, (9, (0, []))))), (46, (0, (0, (0, ((-1), []))))), (47, (27, (0, (0, (0, [])))))], ([], 2))
set_option maxRecDepth 100000 in
noncomputable def m_X8_claimIn : m_Md := ([(0, (2, (0, (0, (0, []))))), (1, (1, (2, (0, (0, []))))), (2, (0, (0, (0, (32, []))))), (4, (17, (4, (0, (0, []))))), (5, (30, (169, (2, (9, [(0, 258)]))))), (8, (2, (0, (0, (0, []))))), (9, (6, (8, (14, (0, [(0, 28)]))))), (12, (0, (0, (0, (5, []))))), (13, (0, (0, (0, (0, []))))), (14, (9, (0, (0, (0, []))))), (15, (2, (0, (0, (0, []))))), (16, (6, (8, (14, (0, [(0, 28)]))))), (19, (0, (0, (0, (6, []))))), (21, (0, (0, (0, (100, []))))), (23, (9, (0, (0, (0, []))))), (24, (2, (0, (0, (0, []))))), (25, (6, (8, (14, (0, [(0, 28)]))))), (28, (0, (0, (0, (7, []))))), (30, (0, (0, (0, (10, []))))), (32, (9, (0, (0, (0, []))))), (33, (2, (0, (0, (0, []))))), (34, (1, (1, (0, (0, []))))), (35, (1, (2, (0, (0, []))))), (36, (0, (0, (0, (192, []))))), (39, (17, (3, (0, (0, []))))), (40, (1, (2, (0, (0, []))))), (41, (0, (0, (0, (32, []))))), (43, (17, (3, (0, (0, []))))), (44, (0, (0, (0, (6, []))))), (46, (17, (4, (0, (0, []))))), (47, (0, (0, (0, (0, []))))), (48, (30, (168, (5, (9, [(0, 261)]))))), (51, (2, (0, (0, (0, []))))), (52, (6, (8, (21, (0, [(0, 224)]))))), (55, (18, (1, (38, (0, []))))), (58, (2, (0, (0, (0, []))))), (59, (6, (8, (22, (0, [(0, 220)]))))), (62, (18, (0, (41, (0, []))))), (65, (2, (0, (0, (0, []))))), (66, (6, (8, (19, (0, [(0, 230)]))))), (69, (20, (0, (42, (0, []))))), (72, (0, (0, (0, (0, []))))), (73, (27, (0, (0, (0, [])))))], ([], 3))
set_option maxRecDepth 100000 in
noncomputable def m_X8_parting : m_Md := ([(0, (2, (0, (0, (0, []))))), (1, (0, (0, (0, (0, []))))), (2, (7, (8, (0, (0, [(0, 94)]))))), (5, (2, (0, (0, (0, []))))), (6, (1, (1, (0, (0, []))))), (7, (0, (0, (0, (0, []))))), (8, (2, (0, (0, (0, []))))), (9, (6, (8, (12, (0, [(0, 249)]))))), (12, (0, (0, (0, (1, []))))), (13, (17, (1, (0, (0, []))))), (14, (30, (135, (3, (0, [(1, 131)]))))), (17, (18, (0, (20, (0, []))))), (20, (1, (2, (0, (0, []))))), (21, (0, (0, (0, (0, []))))), (22, (2, (0, (0, (0, []))))), (23, (6, (8, (12, (0, [(0, 249)]))))), (26, (0, (0, (0, (1, []))))), (27, (17, (1, (0, (0, []))))), (28, (30, (135, (3, (0, [(1, 131)]))))), (31, (18, (1, (22, (0, []))))), (34, (0, (0, (0, (1, []))))), (35, (20, (0, (23, (0, []))))), (38, (0, (0, (0, (0, []))))), (39, (0, (0, (0, (1, []))))), (40, (30, (134, (3, (9, [(0, 245)]))))), (43, (18, (0, (28, (0, []))))), (46, (0, (0, (0, (0, []))))), (47, (27, (0, (0, (0, []))))), (48, (0, (0, (0, (0, []))))), (49, (3, (3, (0, (0, []))))), (50, (1, (3, (0, (0, []))))), (51, (0, (0, (0, (1152, []))))), (54, (19, (3, (46, (0, []))))), (57, (2, (0, (0, (0, []))))), (58, (1, (1, (0, (0, []))))), (59, (1, (3, (0, (0, []))))), (60, (30, (214, (3, (9, [(0, 332)]))))), (63, (2, (0, (0, (0, []))))), (64, (1, (2, (0, (0, []))))), (65, (1, (3, (0, (0, []))))), (66, (30, (214, (3, (9, [(0, 332)]))))), (69, (19, (0, (44, (0, []))))), (72, (1, (3, (0, (0, []))))), (73, (27, (0, (0, (0, []))))), (74, (5, (3, (0, (1, []))))), (77, (20, (0, (30, (0, []))))), (80, (0, (0, (0, ((-1), []))))), (81, (27, (0, (0, (0, [])))))], ([], 4))
set_option maxRecDepth 100000 in
noncomputable def m_X8_beside : m_Md := ([(0, (2, (0, (0, (0, []))))), (1, (0, (0, (0, (0, []))))), (2, (7, (8, (0, (0, [(0, 94)]))))), (5, (2, (0, (0, (0, []))))), (6, (2, (0, (0, (0, []))))), (7, (1, (2, (0, (0, []))))), (8, (30, (173, (2, (9, [(0, 265)]))))), (11, (18, (1, (10, (0, []))))), (14, (0, (0, (0, (1, []))))), (15, (20, (0, (11, (0, []))))), (18, (0, (0, (0, (0, []))))), (19, (0, (0, (0, (1, []))))), (20, (30, (134, (3, (9, [(0, 245)]))))), (23, (18, (1, (29, (0, []))))), (26, (2, (0, (0, (0, []))))), (27, (1, (1, (0, (0, []))))), (28, (0, (0, (0, (0, []))))), (29, (2, (0, (0, (0, []))))), (30, (6, (8, (12, (0, [(0, 249)]))))), (33, (0, (0, (0, (1, []))))), (34, (17, (1, (0, (0, []))))), (35, (30, (135, (3, (0, [(1, 131)]))))), (38, (18, (1, (25, (0, []))))), (41, (0, (0, (0, (1, []))))), (42, (20, (0, (26, (0, []))))), (45, (0, (0, (0, (0, []))))), (46, (0, (0, (0, (2, []))))), (47, (30, (134, (3, (9, [(0, 245)]))))), (50, (18, (0, (31, (0, []))))), (53, (0, (0, (0, (0, []))))), (54, (27, (0, (0, (0, []))))), (55, (2, (0, (0, (0, []))))), (56, (1, (1, (0, (0, []))))), (57, (30, (182, (2, (9, [(0, 283)]))))), (60, (2, (0, (0, (0, []))))), (61, (6, (8, (39, (0, [(0, 66)]))))), (64, (1, (2, (0, (0, []))))), (65, (8, (0, (0, (0, []))))), (66, (27, (0, (0, (0, [])))))], ([], 3))
set_option maxRecDepth 100000 in
noncomputable def m_X8_moves : m_Md := ([(0, (1, (4, (0, (0, []))))), (2, (18, (1, (9, (0, []))))), (5, (2, (0, (0, (0, []))))), (6, (6, (8, (53, (0, [(0, 91)]))))), (9, (1, (1, (0, (0, []))))), (10, (12, (0, (0, (0, []))))), (11, (1, (2, (0, (0, []))))), (12, (1, (3, (0, (0, []))))), (13, (9, (0, (0, (0, []))))), (14, (2, (0, (0, (0, []))))), (15, (6, (8, (53, (0, [(0, 91)]))))), (18, (1, (1, (0, (0, []))))), (19, (12, (0, (0, (0, []))))), (20, (1, (2, (0, (0, []))))), (21, (8, (0, (0, (0, []))))), (22, (27, (0, (0, (0, [])))))], ([], 5))
set_option maxRecDepth 100000 in
noncomputable def m_X8_movesAll : m_Md := ([(0, (2, (0, (0, (0, []))))), (1, (2, (0, (0, (0, []))))), (2, (1, (1, (0, (0, []))))), (3, (0, (0, (0, (0, []))))), (4, (2, (0, (0, (0, []))))), (5, (6, (8, (26, (0, [(0, 31)]))))), (8, (1, (2, (0, (0, []))))), (9, (30, (217, (5, (9, [(0, 335)]))))), (12, (7, (8, (26, (0, [(0, 31)]))))), (15, (2, (0, (0, (0, []))))), (16, (2, (0, (0, (0, []))))), (17, (1, (1, (0, (0, []))))), (18, (0, (0, (0, (1, []))))), (19, (2, (0, (0, (0, []))))), (20, (6, (8, (27, (0, [(0, 34)]))))), (23, (1, (2, (0, (0, []))))), (24, (30, (217, (5, (9, [(0, 335)]))))), (27, (7, (8, (27, (0, [(0, 34)]))))), (30, (2, (0, (0, (0, []))))), (31, (2, (0, (0, (0, []))))), (32, (1, (1, (0, (0, []))))), (33, (0, (0, (0, (2, []))))), (34, (2, (0, (0, (0, []))))), (35, (6, (8, (28, (0, [(0, 37)]))))), (38, (1, (2, (0, (0, []))))), (39, (30, (217, (5, (9, [(0, 335)]))))), (42, (7, (8, (28, (0, [(0, 37)]))))), (45, (2, (0, (0, (0, []))))), (46, (2, (0, (0, (0, []))))), (47, (1, (1, (0, (0, []))))), (48, (0, (0, (0, (3, []))))), (49, (2, (0, (0, (0, []))))), (50, (6, (8, (29, (0, [(0, 268)]))))), (53, (1, (2, (0, (0, []))))), (54, (30, (217, (5, (9, [(0, 335)]))))), (57, (7, (8, (29, (0, [(0, 268)]))))), (60, (2, (0, (0, (0, []))))), (61, (2, (0, (0, (0, []))))), (62, (1, (1, (0, (0, []))))), (63, (0, (0, (0, (4, []))))), (64, (2, (0, (0, (0, []))))), (65, (6, (8, (13, (0, [(0, 25)]))))), (68, (1, (2, (0, (0, []))))), (69, (30, (217, (5, (9, [(0, 335)]))))), (72, (7, (8, (13, (0, [(0, 25)]))))), (75, (2, (0, (0, (0, []))))), (76, (2, (0, (0, (0, []))))), (77, (1, (1, (0, (0, []))))), (78, (0, (0, (0, (5, []))))), (79, (2, (0, (0, (0, []))))), (80, (6, (8, (43, (0, [(0, 289)]))))), (83, (1, (2, (0, (0, []))))), (84, (30, (217, (5, (9, [(0, 335)]))))), (87, (7, (8, (43, (0, [(0, 289)]))))), (90, (2, (0, (0, (0, []))))), (91, (2, (0, (0, (0, []))))), (92, (1, (1, (0, (0, []))))), (93, (0, (0, (0, (6, []))))), (95, (2, (0, (0, (0, []))))), (96, (6, (8, (49, (0, [(0, 326)]))))), (99, (1, (2, (0, (0, []))))), (100, (30, (217, (5, (9, [(0, 335)]))))), (103, (7, (8, (49, (0, [(0, 326)]))))), (106, (2, (0, (0, (0, []))))), (107, (2, (0, (0, (0, []))))), (108, (1, (1, (0, (0, []))))), (109, (0, (0, (0, (7, []))))), (111, (2, (0, (0, (0, []))))), (112, (6, (8, (50, (0, [(0, 329)]))))), (115, (1, (2, (0, (0, []))))), (116, (30, (217, (5, (9, [(0, 335)]))))), (119, (7, (8, (50, (0, [(0, 329)]))))), (122, (0, (0, (0, (0, []))))), (123, (3, (3, (0, (0, []))))), (124, (1, (3, (0, (0, []))))), (125, (0, (0, (0, (13, []))))), (127, (19, (3, (182, (0, []))))), (130, (0, (0, (0, (0, []))))), (131, (3, (4, (0, (0, []))))), (133, (1, (4, (0, (0, []))))), (135, (0, (0, (0, (5, []))))), (136, (19, (3, (107, (0, []))))), (139, (2, (0, (0, (0, []))))), (140, (6, (8, (30, (0, [(0, 40)]))))), (143, (1, (3, (0, (0, []))))), (144, (12, (0, (0, (0, []))))), (145, (1, (4, (0, (0, []))))), (147, (2, (0, (0, (0, []))))), (148, (1, (1, (0, (0, []))))), (149, (0, (0, (0, (10, []))))), (151, (0, (0, (0, (12, []))))), (153, (1, (3, (0, (0, []))))), (154, (17, (2, (0, (0, []))))), (155, (17, (0, (0, (0, []))))), (156, (1, (4, (0, (0, []))))), (158, (17, (0, (0, (0, []))))), (159, (2, (0, (0, (0, []))))), (160, (6, (8, (30, (0, [(0, 40)]))))), (163, (1, (3, (0, (0, []))))), (164, (12, (0, (0, (0, []))))), (165, (1, (4, (0, (0, []))))), (167, (8, (0, (0, (0, []))))), (168, (1, (2, (0, (0, []))))), (169, (30, (217, (5, (9, [(0, 335)]))))), (172, (9, (0, (0, (0, []))))), (173, (5, (4, (0, (1, []))))), (176, (20, (0, (79, (0, []))))), (179, (2, (0, (0, (0, []))))), (180, (6, (8, (31, (0, [(0, 43)]))))), (183, (1, (3, (0, (0, []))))), (184, (2, (0, (0, (0, []))))), (185, (1, (1, (0, (0, []))))), (186, (0, (0, (0, (15, []))))), (188, (0, (0, (0, (12, []))))), (190, (1, (3, (0, (0, []))))), (191, (17, (2, (0, (0, []))))), (192, (17, (0, (0, (0, []))))), (193, (2, (0, (0, (0, []))))), (194, (6, (8, (31, (0, [(0, 43)]))))), (197, (1, (3, (0, (0, []))))), (198, (8, (0, (0, (0, []))))), (199, (1, (2, (0, (0, []))))), (200, (30, (217, (5, (9, [(0, 335)]))))), (203, (9, (0, (0, (0, []))))), (204, (2, (0, (0, (0, []))))), (205, (6, (8, (32, (0, [(0, 46)]))))), (208, (1, (3, (0, (0, []))))), (209, (2, (0, (0, (0, []))))), (210, (1, (1, (0, (0, []))))), (211, (0, (0, (0, (16, []))))), (213, (0, (0, (0, (12, []))))), (215, (1, (3, (0, (0, []))))), (216, (17, (2, (0, (0, []))))), (217, (17, (0, (0, (0, []))))), (218, (2, (0, (0, (0, []))))), (219, (6, (8, (32, (0, [(0, 46)]))))), (222, (1, (3, (0, (0, []))))), (223, (8, (0, (0, (0, []))))), (224, (1, (2, (0, (0, []))))), (225, (30, (217, (5, (9, [(0, 335)]))))), (228, (9, (0, (0, (0, []))))), (229, (0, (0, (0, (0, []))))), (230, (3, (4, (0, (0, []))))), (232, (1, (4, (0, (0, []))))), (234, (0, (0, (0, (4, []))))), (235, (19, (3, (180, (0, []))))), (238, (2, (0, (0, (0, []))))), (239, (6, (8, (33, (0, [(0, 51)]))))), (242, (1, (3, (0, (0, []))))), (243, (12, (0, (0, (0, []))))), (244, (1, (4, (0, (0, []))))), (246, (2, (0, (0, (0, []))))), (247, (1, (1, (0, (0, []))))), (248, (0, (0, (0, (17, []))))), (250, (0, (0, (0, (12, []))))), (252, (1, (3, (0, (0, []))))), (253, (17, (2, (0, (0, []))))), (254, (17, (0, (0, (0, []))))), (255, (1, (4, (0, (0, []))))), (257, (17, (0, (0, (0, []))))), (258, (2, (0, (0, (0, []))))), (259, (6, (8, (33, (0, [(0, 51)]))))), (262, (1, (3, (0, (0, []))))), (263, (12, (0, (0, (0, []))))), (264, (1, (4, (0, (0, []))))), (266, (10, (0, (0, (0, []))))), (267, (18, (0, (169, (0, []))))), (270, (0, (0, (0, (1, []))))), (271, (20, (0, (170, (0, []))))), (274, (0, (0, (0, (0, []))))), (275, (1, (2, (0, (0, []))))), (276, (30, (217, (5, (9, [(0, 335)]))))), (279, (0, (0, (0, (1, []))))), (280, (19, (1, (176, (0, []))))), (283, (0, (0, (0, (1, []))))), (284, (20, (0, (177, (0, []))))), (287, (0, (0, (0, (0, []))))), (288, (11, (0, (0, (0, []))))), (289, (5, (4, (0, (1, []))))), (292, (20, (0, (143, (0, []))))), (295, (5, (3, (0, (1, []))))), (298, (20, (0, (74, (0, []))))), (301, (0, (0, (0, (0, []))))), (302, (3, (3, (0, (0, []))))), (303, (1, (3, (0, (0, []))))), (304, (0, (0, (0, (8, []))))), (306, (19, (3, (219, (0, []))))), (309, (0, (0, (0, (0, []))))), (310, (3, (4, (0, (0, []))))), (312, (1, (4, (0, (0, []))))), (314, (0, (0, (0, (3, []))))), (315, (19, (3, (217, (0, []))))), (318, (2, (0, (0, (0, []))))), (319, (6, (8, (44, (0, [(0, 79)]))))), (322, (1, (3, (0, (0, []))))), (323, (12, (0, (0, (0, []))))), (324, (1, (4, (0, (0, []))))), (326, (2, (0, (0, (0, []))))), (327, (1, (1, (0, (0, []))))), (328, (0, (0, (0, (170, []))))), (331, (0, (0, (0, (3, []))))), (332, (1, (3, (0, (0, []))))), (333, (17, (2, (0, (0, []))))), (334, (17, (0, (0, (0, []))))), (335, (1, (4, (0, (0, []))))), (337, (17, (0, (0, (0, []))))), (338, (2, (0, (0, (0, []))))), (339, (6, (8, (44, (0, [(0, 79)]))))), (342, (1, (3, (0, (0, []))))), (343, (12, (0, (0, (0, []))))), (344, (1, (4, (0, (0, []))))), (346, (8, (0, (0, (0, []))))), (347, (1, (2, (0, (0, []))))), (348, (30, (217, (5, (9, [(0, 335)]))))), (351, (9, (0, (0, (0, []))))), (352, (5, (4, (0, (1, []))))), (355, (20, (0, (189, (0, []))))), (358, (5, (3, (0, (1, []))))), (361, (20, (0, (184, (0, []))))), (364, (0, (0, (0, (0, []))))), (365, (3, (3, (0, (0, []))))), (366, (1, (3, (0, (0, []))))), (367, (0, (0, (0, (20, []))))), (369, (19, (3, (256, (0, []))))), (372, (0, (0, (0, (0, []))))), (373, (3, (4, (0, (0, []))))), (375, (1, (4, (0, (0, []))))), (377, (0, (0, (0, (2, []))))), (378, (19, (3, (254, (0, []))))), (381, (2, (0, (0, (0, []))))), (382, (6, (8, (51, (0, [(0, 88)]))))), (385, (1, (3, (0, (0, []))))), (386, (12, (0, (0, (0, []))))), (387, (1, (4, (0, (0, []))))), (389, (2, (0, (0, (0, []))))), (390, (1, (1, (0, (0, []))))), (391, (0, (0, (0, (200, []))))), (394, (0, (0, (0, (2, []))))), (395, (1, (3, (0, (0, []))))), (396, (17, (2, (0, (0, []))))), (397, (17, (0, (0, (0, []))))), (398, (1, (4, (0, (0, []))))), (400, (17, (0, (0, (0, []))))), (401, (2, (0, (0, (0, []))))), (402, (6, (8, (51, (0, [(0, 88)]))))), (405, (1, (3, (0, (0, []))))), (406, (12, (0, (0, (0, []))))), (407, (1, (4, (0, (0, []))))), (409, (8, (0, (0, (0, []))))), (410, (1, (2, (0, (0, []))))), (411, (30, (217, (5, (9, [(0, 335)]))))), (414, (9, (0, (0, (0, []))))), (415, (5, (4, (0, (1, []))))), (418, (20, (0, (226, (0, []))))), (421, (5, (3, (0, (1, []))))), (424, (20, (0, (221, (0, []))))), (427, (29, (0, (0, (0, [])))))], ([], 5))
set_option maxRecDepth 100000 in
noncomputable def m_X8_image : m_Md := ([(0, (2, (0, (0, (0, []))))), (1, (0, (0, (0, (0, []))))), (2, (7, (8, (0, (0, [(0, 94)]))))), (5, (2, (0, (0, (0, []))))), (6, (6, (8, (52, (0, [(0, 339)]))))), (9, (0, (0, (0, (3, []))))), (10, (19, (1, (9, (0, []))))), (13, (0, (0, (0, ((-1), []))))), (14, (27, (0, (0, (0, []))))), (15, (2, (0, (0, (0, []))))), (16, (2, (0, (0, (0, []))))), (17, (6, (8, (52, (0, [(0, 339)]))))), (20, (0, (0, (0, (0, []))))), (21, (30, (218, (3, (9, [(0, 342)]))))), (24, (2, (0, (0, (0, []))))), (25, (22, (0, (0, (0, []))))), (26, (6, (8, (52, (0, [(0, 339)]))))), (29, (0, (0, (0, (1, []))))), (30, (17, (0, (0, (0, []))))), (31, (7, (8, (52, (0, [(0, 339)]))))), (34, (2, (0, (0, (0, []))))), (35, (6, (8, (52, (0, [(0, 339)]))))), (38, (27, (0, (0, (0, [])))))], ([], 1))
set_option maxRecDepth 100000 in
noncomputable def m_X8_restore : m_Md := ([(0, (2, (0, (0, (0, []))))), (1, (0, (0, (0, (0, []))))), (2, (7, (8, (0, (0, [(0, 94)]))))), (5, (2, (0, (0, (0, []))))), (6, (6, (8, (52, (0, [(0, 339)]))))), (9, (18, (1, (8, (0, []))))), (12, (0, (0, (0, ((-1), []))))), (13, (27, (0, (0, (0, []))))), (14, (2, (0, (0, (0, []))))), (15, (22, (0, (0, (0, []))))), (16, (6, (8, (52, (0, [(0, 339)]))))), (19, (0, (0, (0, (1, []))))), (20, (17, (1, (0, (0, []))))), (21, (7, (8, (52, (0, [(0, 339)]))))), (24, (2, (0, (0, (0, []))))), (25, (2, (0, (0, (0, []))))), (26, (6, (8, (52, (0, [(0, 339)]))))), (29, (0, (0, (0, (1, []))))), (30, (30, (218, (3, (9, [(0, 342)]))))), (33, (2, (0, (0, (0, []))))), (34, (6, (8, (52, (0, [(0, 339)]))))), (37, (27, (0, (0, (0, [])))))], ([], 1))
set_option maxRecDepth 100000 in
noncomputable def m_X8_count : m_Md := ([(0, (2, (0, (0, (0, []))))), (1, (0, (0, (0, (0, []))))), (2, (7, (8, (0, (0, [(0, 94)]))))), (5, (1, (1, (0, (0, []))))), (6, (21, (0, (29, (0, [(0, 5), (1, 8), (2, 11), (3, 14), (4, 17), (5, 20), (6, 23), (7, 26)]))))), (52, (2, (0, (0, (0, []))))), (53, (6, (8, (12, (0, [(0, 249)]))))), (56, (27, (0, (0, (0, []))))), (57, (2, (0, (0, (0, []))))), (58, (6, (8, (26, (0, [(0, 31)]))))), (61, (27, (0, (0, (0, []))))), (62, (2, (0, (0, (0, []))))), (63, (6, (8, (43, (0, [(0, 289)]))))), (66, (27, (0, (0, (0, []))))), (67, (2, (0, (0, (0, []))))), (68, (6, (8, (50, (0, [(0, 329)]))))), (71, (27, (0, (0, (0, []))))), (72, (2, (0, (0, (0, []))))), (73, (6, (8, (49, (0, [(0, 326)]))))), (76, (27, (0, (0, (0, []))))), (77, (2, (0, (0, (0, []))))), (78, (6, (8, (52, (0, [(0, 339)]))))), (81, (27, (0, (0, (0, []))))), (82, (2, (0, (0, (0, []))))), (83, (6, (8, (1, (0, [(0, 97)]))))), (86, (27, (0, (0, (0, []))))), (87, (2, (0, (0, (0, []))))), (88, (6, (8, (27, (0, [(0, 34)]))))), (91, (27, (0, (0, (0, []))))), (92, (0, (0, (0, ((-1), []))))), (93, (27, (0, (0, (0, [])))))], ([], 2))
set_option maxRecDepth 100000 in
noncomputable def m_L_law : m_Md := ([(0, (2, (2, (0, (0, []))))), (1, (0, (0, (0, (0, []))))), (2, (2, (0, (0, (0, []))))), (3, (1, (1, (0, (0, []))))), (4, (30, (79, (2, (8, [(0, 7)]))))), (7, (24, (0, (0, (0, []))))), (8, (15, (0, (0, (0, []))))), (9, (20, (0, (11, (0, []))))), (12, (4, (3, (0, (0, []))))), (13, (0, (0, (0, (1, []))))), (14, (27, (0, (0, (0, []))))), (15, (0, (0, (0, (0, []))))), (16, (27, (0, (0, (0, [])))))], ([(0, (9, (0, 1)))], 4))
set_option maxRecDepth 100000 in
noncomputable def m_L_force : m_Md := ([(0, (2, (2, (0, (0, []))))), (1, (0, (0, (0, (0, []))))), (2, (2, (0, (0, (0, []))))), (3, (1, (1, (0, (0, []))))), (4, (30, (81, (2, (8, [(0, 15)]))))), (7, (24, (0, (0, (0, []))))), (8, (15, (0, (0, (0, []))))), (9, (20, (0, (11, (0, []))))), (12, (4, (3, (0, (0, []))))), (13, (0, (0, (0, (1, []))))), (14, (27, (0, (0, (0, []))))), (15, (0, (0, (0, (0, []))))), (16, (27, (0, (0, (0, [])))))], ([(0, (9, (0, 1)))], 4))
set_option maxRecDepth 100000 in
noncomputable def m_L_words : m_Md := ([(0, (2, (7, (0, (0, []))))), (2, (0, (0, (0, (0, []))))), (3, (2, (0, (0, (0, []))))), (4, (1, (1, (0, (0, []))))), (5, (1, (2, (0, (0, []))))), (6, (1, (3, (0, (0, []))))), (7, (1, (4, (0, (0, []))))), (9, (1, (5, (0, (0, []))))), (11, (1, (6, (0, (0, []))))), (13, (30, (82, (7, (8, [(0, 18)]))))), (16, (24, (0, (0, (0, []))))), (17, (15, (0, (0, (0, []))))), (18, (20, (0, (16, (0, []))))), (21, (4, (8, (0, (0, []))))), (23, (0, (0, (0, (1, []))))), (24, (27, (0, (0, (0, []))))), (25, (0, (0, (0, (0, []))))), (26, (27, (0, (0, (0, [])))))], ([(0, (18, (0, 1)))], 9))
set_option maxRecDepth 100000 in
noncomputable def m_L_lets : m_Md := ([(0, (2, (4, (0, (0, []))))), (2, (0, (0, (0, (0, []))))), (3, (2, (0, (0, (0, []))))), (4, (1, (1, (0, (0, []))))), (5, (1, (2, (0, (0, []))))), (6, (1, (3, (0, (0, []))))), (7, (30, (83, (4, (8, [(0, 22)]))))), (10, (18, (0, (10, (0, []))))), (13, (25, (1, (0, (0, []))))), (14, (20, (0, (11, (0, []))))), (17, (25, (0, (0, (0, []))))), (18, (15, (0, (0, (0, []))))), (19, (20, (0, (16, (0, []))))), (22, (4, (5, (0, (0, []))))), (24, (0, (0, (0, (1, []))))), (25, (27, (0, (0, (0, []))))), (26, (0, (0, (0, (0, []))))), (27, (27, (0, (0, (0, [])))))], ([(0, (19, (0, 1)))], 6))
set_option maxRecDepth 100000 in
noncomputable def m_L_pass : m_Md := ([(0, (2, (6, (0, (0, []))))), (2, (0, (0, (0, (0, []))))), (3, (2, (0, (0, (0, []))))), (4, (1, (1, (0, (0, []))))), (5, (1, (2, (0, (0, []))))), (6, (1, (3, (0, (0, []))))), (7, (1, (4, (0, (0, []))))), (9, (1, (5, (0, (0, []))))), (11, (30, (84, (6, (8, [(0, 26)]))))), (14, (24, (0, (0, (0, []))))), (15, (15, (0, (0, (0, []))))), (16, (20, (0, (15, (0, []))))), (19, (4, (7, (0, (0, []))))), (21, (0, (0, (0, (1, []))))), (22, (27, (0, (0, (0, []))))), (23, (0, (0, (0, (0, []))))), (24, (27, (0, (0, (0, [])))))], ([(0, (16, (0, 1)))], 8))
set_option maxRecDepth 100000 in
noncomputable def m_L_hand : m_Md := ([(0, (2, (3, (0, (0, []))))), (1, (0, (0, (0, (0, []))))), (2, (2, (0, (0, (0, []))))), (3, (1, (1, (0, (0, []))))), (4, (1, (2, (0, (0, []))))), (5, (30, (85, (3, (8, [(0, 30)]))))), (8, (24, (0, (0, (0, []))))), (9, (15, (0, (0, (0, []))))), (10, (20, (0, (15, (0, []))))), (13, (4, (4, (0, (0, []))))), (15, (0, (0, (0, (1, []))))), (16, (27, (0, (0, (0, []))))), (17, (4, (4, (0, (0, []))))), (19, (0, (0, (0, (2, []))))), (20, (27, (0, (0, (0, []))))), (21, (0, (0, (0, (0, []))))), (22, (27, (0, (0, (0, [])))))], ([(0, (10, (1, 1))), (0, (10, (0, 2)))], 5))
set_option maxRecDepth 100000 in
noncomputable def m_L_value : m_Md := ([(0, (2, (2, (0, (0, []))))), (1, (0, (0, (0, (0, []))))), (2, (2, (0, (0, (0, []))))), (3, (1, (1, (0, (0, []))))), (4, (30, (86, (2, (8, [(0, 36)]))))), (7, (24, (0, (0, (0, []))))), (8, (15, (0, (0, (0, []))))), (9, (20, (0, (11, (0, []))))), (12, (4, (3, (0, (0, []))))), (13, (0, (0, (0, (1, []))))), (14, (27, (0, (0, (0, []))))), (15, (0, (0, (0, (0, []))))), (16, (27, (0, (0, (0, [])))))], ([(0, (9, (0, 1)))], 4))
set_option maxRecDepth 100000 in
noncomputable def m_L_purse : m_Md := ([(0, (2, (3, (0, (0, []))))), (1, (0, (0, (0, (0, []))))), (2, (2, (0, (0, (0, []))))), (3, (1, (1, (0, (0, []))))), (4, (1, (2, (0, (0, []))))), (5, (30, (87, (3, (8, [(0, 39)]))))), (8, (24, (0, (0, (0, []))))), (9, (15, (0, (0, (0, []))))), (10, (20, (0, (15, (0, []))))), (13, (4, (4, (0, (0, []))))), (15, (0, (0, (0, (1, []))))), (16, (27, (0, (0, (0, []))))), (17, (4, (4, (0, (0, []))))), (19, (0, (0, (0, (2, []))))), (20, (27, (0, (0, (0, []))))), (21, (0, (0, (0, (0, []))))), (22, (27, (0, (0, (0, [])))))], ([(0, (10, (1, 1))), (0, (10, (0, 2)))], 5))
set_option maxRecDepth 100000 in
noncomputable def m_L_fact : m_Md := ([(0, (2, (4, (0, (0, []))))), (2, (0, (0, (0, (0, []))))), (3, (2, (0, (0, (0, []))))), (4, (1, (1, (0, (0, []))))), (5, (1, (2, (0, (0, []))))), (6, (1, (3, (0, (0, []))))), (7, (30, (88, (4, (8, [(0, 42)]))))), (10, (18, (0, (10, (0, []))))), (13, (25, (1, (0, (0, []))))), (14, (20, (0, (11, (0, []))))), (17, (25, (0, (0, (0, []))))), (18, (15, (0, (0, (0, []))))), (19, (20, (0, (19, (0, []))))), (22, (4, (5, (0, (0, []))))), (24, (0, (0, (0, (1, []))))), (25, (27, (0, (0, (0, []))))), (26, (4, (5, (0, (0, []))))), (28, (0, (0, (0, (2, []))))), (29, (27, (0, (0, (0, []))))), (30, (0, (0, (0, (0, []))))), (31, (27, (0, (0, (0, [])))))], ([(0, (19, (1, 1))), (0, (19, (0, 2)))], 6))
set_option maxRecDepth 100000 in
noncomputable def m_L_harm : m_Md := ([(0, (2, (3, (0, (0, []))))), (1, (0, (0, (0, (0, []))))), (2, (2, (0, (0, (0, []))))), (3, (1, (1, (0, (0, []))))), (4, (1, (2, (0, (0, []))))), (5, (30, (89, (3, (8, [(0, 46)]))))), (8, (24, (0, (0, (0, []))))), (9, (15, (0, (0, (0, []))))), (10, (20, (0, (12, (0, []))))), (13, (4, (4, (0, (0, []))))), (15, (0, (0, (0, (1, []))))), (16, (27, (0, (0, (0, []))))), (17, (0, (0, (0, (0, []))))), (18, (27, (0, (0, (0, [])))))], ([(0, (10, (0, 1)))], 5))
set_option maxRecDepth 100000 in
noncomputable def m_L_name : m_Md := ([(0, (2, (3, (0, (0, []))))), (1, (0, (0, (0, (0, []))))), (2, (2, (0, (0, (0, []))))), (3, (1, (1, (0, (0, []))))), (4, (1, (2, (0, (0, []))))), (5, (30, (91, (3, (8, [(0, 49)]))))), (8, (24, (0, (0, (0, []))))), (9, (15, (0, (0, (0, []))))), (10, (20, (0, (15, (0, []))))), (13, (4, (4, (0, (0, []))))), (15, (0, (0, (0, (1, []))))), (16, (27, (0, (0, (0, []))))), (17, (4, (4, (0, (0, []))))), (19, (0, (0, (0, (2, []))))), (20, (27, (0, (0, (0, []))))), (21, (0, (0, (0, (0, []))))), (22, (27, (0, (0, (0, [])))))], ([(0, (10, (1, 1))), (0, (10, (0, 2)))], 5))
set_option maxRecDepth 100000 in
noncomputable def m_L_claim : m_Md := ([(0, (2, (2, (0, (0, []))))), (1, (0, (0, (0, (0, []))))), (2, (2, (0, (0, (0, []))))), (3, (1, (1, (0, (0, []))))), (4, (30, (92, (2, (8, [(0, 52)]))))), (7, (24, (0, (0, (0, []))))), (8, (15, (0, (0, (0, []))))), (9, (20, (0, (11, (0, []))))), (12, (4, (3, (0, (0, []))))), (13, (0, (0, (0, (1, []))))), (14, (27, (0, (0, (0, []))))), (15, (0, (0, (0, (0, []))))), (16, (27, (0, (0, (0, [])))))], ([(0, (9, (1, 1)))], 4))
set_option maxRecDepth 100000 in
noncomputable def m_L_whom : m_Md := ([(0, (2, (2, (0, (0, []))))), (1, (0, (0, (0, (0, []))))), (2, (2, (0, (0, (0, []))))), (3, (1, (1, (0, (0, []))))), (4, (30, (93, (2, (8, [(0, 55)]))))), (7, (24, (0, (0, (0, []))))), (8, (15, (0, (0, (0, []))))), (9, (20, (0, (11, (0, []))))), (12, (4, (3, (0, (0, []))))), (13, (0, (0, (0, (1, []))))), (14, (27, (0, (0, (0, []))))), (15, (0, (0, (0, (0, []))))), (16, (27, (0, (0, (0, [])))))], ([(0, (9, (1, 1)))], 4))
set_option maxRecDepth 100000 in
noncomputable def m_L_pays : m_Md := ([(0, (2, (2, (0, (0, []))))), (1, (0, (0, (0, (0, []))))), (2, (2, (0, (0, (0, []))))), (3, (1, (1, (0, (0, []))))), (4, (30, (94, (2, (8, [(0, 58)]))))), (7, (24, (0, (0, (0, []))))), (8, (15, (0, (0, (0, []))))), (9, (20, (0, (11, (0, []))))), (12, (4, (3, (0, (0, []))))), (13, (0, (0, (0, (1, []))))), (14, (27, (0, (0, (0, []))))), (15, (0, (0, (0, (0, []))))), (16, (27, (0, (0, (0, [])))))], ([(0, (9, (1, 1)))], 4))
set_option maxRecDepth 100000 in
noncomputable def m_L_bears : m_Md := ([(0, (2, (2, (0, (0, []))))), (1, (0, (0, (0, (0, []))))), (2, (2, (0, (0, (0, []))))), (3, (1, (1, (0, (0, []))))), (4, (30, (95, (2, (8, [(0, 61)]))))), (7, (24, (0, (0, (0, []))))), (8, (15, (0, (0, (0, []))))), (9, (20, (0, (11, (0, []))))), (12, (4, (3, (0, (0, []))))), (13, (0, (0, (0, (1, []))))), (14, (27, (0, (0, (0, []))))), (15, (0, (0, (0, (0, []))))), (16, (27, (0, (0, (0, [])))))], ([(0, (9, (1, 1)))], 4))
set_option maxRecDepth 100000 in
noncomputable def m_L_must : m_Md := ([(0, (2, (2, (0, (0, []))))), (1, (0, (0, (0, (0, []))))), (2, (2, (0, (0, (0, []))))), (3, (1, (1, (0, (0, []))))), (4, (30, (96, (2, (8, [(0, 64)]))))), (7, (18, (0, (8, (0, []))))), (10, (25, (1, (0, (0, []))))), (11, (20, (0, (9, (0, []))))), (14, (25, (0, (0, (0, []))))), (15, (15, (0, (0, (0, []))))), (16, (20, (0, (14, (0, []))))), (19, (4, (3, (0, (0, []))))), (20, (0, (0, (0, (1, []))))), (21, (27, (0, (0, (0, []))))), (22, (0, (0, (0, (0, []))))), (23, (27, (0, (0, (0, [])))))], ([(0, (16, (1, 1)))], 4))
set_option maxRecDepth 100000 in
noncomputable def m_L_frees : m_Md := ([(0, (2, (2, (0, (0, []))))), (1, (0, (0, (0, (0, []))))), (2, (2, (0, (0, (0, []))))), (3, (1, (1, (0, (0, []))))), (4, (30, (97, (2, (8, [(0, 68)]))))), (7, (24, (0, (0, (0, []))))), (8, (15, (0, (0, (0, []))))), (9, (20, (0, (11, (0, []))))), (12, (4, (3, (0, (0, []))))), (13, (0, (0, (0, (1, []))))), (14, (27, (0, (0, (0, []))))), (15, (0, (0, (0, (0, []))))), (16, (27, (0, (0, (0, [])))))], ([(0, (9, (1, 1)))], 4))
set_option maxRecDepth 100000 in
noncomputable def m_L_question : m_Md := ([(0, (2, (4, (0, (0, []))))), (2, (0, (0, (0, (0, []))))), (3, (2, (0, (0, (0, []))))), (4, (1, (1, (0, (0, []))))), (5, (1, (2, (0, (0, []))))), (6, (1, (3, (0, (0, []))))), (7, (30, (98, (4, (8, [(0, 71)]))))), (10, (24, (0, (0, (0, []))))), (11, (15, (0, (0, (0, []))))), (12, (20, (0, (16, (0, []))))), (15, (4, (5, (0, (0, []))))), (17, (0, (0, (0, (1, []))))), (18, (27, (0, (0, (0, []))))), (19, (4, (5, (0, (0, []))))), (21, (0, (0, (0, (2, []))))), (22, (27, (0, (0, (0, []))))), (23, (0, (0, (0, (0, []))))), (24, (27, (0, (0, (0, [])))))], ([(0, (12, (1, 1))), (0, (12, (0, 2)))], 6))
set_option maxRecDepth 100000 in
noncomputable def m_L_inCase : m_Md := ([(0, (2, (3, (0, (0, []))))), (1, (0, (0, (0, (0, []))))), (2, (2, (0, (0, (0, []))))), (3, (1, (1, (0, (0, []))))), (4, (1, (2, (0, (0, []))))), (5, (30, (99, (3, (8, [(0, 75)]))))), (8, (24, (0, (0, (0, []))))), (9, (15, (0, (0, (0, []))))), (10, (20, (0, (15, (0, []))))), (13, (4, (4, (0, (0, []))))), (15, (0, (0, (0, (1, []))))), (16, (27, (0, (0, (0, []))))), (17, (4, (4, (0, (0, []))))), (19, (0, (0, (0, (2, []))))), (20, (27, (0, (0, (0, []))))), (21, (0, (0, (0, (0, []))))), (22, (27, (0, (0, (0, [])))))], ([(0, (10, (1, 1))), (0, (10, (0, 2)))], 5))
set_option maxRecDepth 100000 in
noncomputable def m_L_sure : m_Md := ([(0, (2, (2, (0, (0, []))))), (1, (0, (0, (0, (0, []))))), (2, (2, (0, (0, (0, []))))), (3, (1, (1, (0, (0, []))))), (4, (30, (100, (2, (8, [(0, 78)]))))), (7, (24, (0, (0, (0, []))))), (8, (15, (0, (0, (0, []))))), (9, (20, (0, (11, (0, []))))), (12, (4, (3, (0, (0, []))))), (13, (0, (0, (0, (1, []))))), (14, (27, (0, (0, (0, []))))), (15, (0, (0, (0, (0, []))))), (16, (27, (0, (0, (0, [])))))], ([(0, (9, (1, 1)))], 4))
set_option maxRecDepth 100000 in
noncomputable def m_L_cases : m_Md := ([(0, (2, (2, (0, (0, []))))), (1, (0, (0, (0, (0, []))))), (2, (2, (0, (0, (0, []))))), (3, (1, (1, (0, (0, []))))), (4, (30, (101, (2, (8, [(0, 81)]))))), (7, (24, (0, (0, (0, []))))), (8, (15, (0, (0, (0, []))))), (9, (20, (0, (11, (0, []))))), (12, (4, (3, (0, (0, []))))), (13, (0, (0, (0, (1, []))))), (14, (27, (0, (0, (0, []))))), (15, (0, (0, (0, (0, []))))), (16, (27, (0, (0, (0, [])))))], ([(0, (9, (1, 1)))], 4))
set_option maxRecDepth 100000 in
noncomputable def m_L_hangs : m_Md := ([(0, (2, (2, (0, (0, []))))), (1, (0, (0, (0, (0, []))))), (2, (2, (0, (0, (0, []))))), (3, (1, (1, (0, (0, []))))), (4, (30, (102, (2, (8, [(0, 84)]))))), (7, (24, (0, (0, (0, []))))), (8, (15, (0, (0, (0, []))))), (9, (20, (0, (11, (0, []))))), (12, (4, (3, (0, (0, []))))), (13, (0, (0, (0, (1, []))))), (14, (27, (0, (0, (0, []))))), (15, (0, (0, (0, (0, []))))), (16, (27, (0, (0, (0, [])))))], ([(0, (9, (1, 1)))], 4))
set_option maxRecDepth 100000 in
noncomputable def m_L_find : m_Md := ([(0, (2, (3, (0, (0, []))))), (1, (0, (0, (0, (0, []))))), (2, (2, (0, (0, (0, []))))), (3, (1, (1, (0, (0, []))))), (4, (1, (2, (0, (0, []))))), (5, (30, (104, (3, (8, [(0, 87)]))))), (8, (24, (0, (0, (0, []))))), (9, (15, (0, (0, (0, []))))), (10, (20, (0, (12, (0, []))))), (13, (4, (4, (0, (0, []))))), (15, (0, (0, (0, (1, []))))), (16, (27, (0, (0, (0, []))))), (17, (0, (0, (0, (0, []))))), (18, (27, (0, (0, (0, [])))))], ([(0, (10, (1, 1)))], 5))
set_option maxRecDepth 100000 in
noncomputable def m_L_found : m_Md := ([(0, (2, (3, (0, (0, []))))), (1, (0, (0, (0, (0, []))))), (2, (2, (0, (0, (0, []))))), (3, (1, (1, (0, (0, []))))), (4, (1, (2, (0, (0, []))))), (5, (30, (106, (3, (8, [(0, 91)]))))), (8, (24, (0, (0, (0, []))))), (9, (15, (0, (0, (0, []))))), (10, (20, (0, (15, (0, []))))), (13, (4, (4, (0, (0, []))))), (15, (0, (0, (0, (1, []))))), (16, (27, (0, (0, (0, []))))), (17, (4, (4, (0, (0, []))))), (19, (0, (0, (0, (2, []))))), (20, (27, (0, (0, (0, []))))), (21, (0, (0, (0, (0, []))))), (22, (27, (0, (0, (0, [])))))], ([(0, (10, (1, 1))), (0, (10, (0, 2)))], 5))
set_option maxRecDepth 100000 in
noncomputable def m_L_put : m_Md := ([(0, (2, (3, (0, (0, []))))), (1, (0, (0, (0, (0, []))))), (2, (2, (0, (0, (0, []))))), (3, (1, (1, (0, (0, []))))), (4, (1, (2, (0, (0, []))))), (5, (30, (107, (3, (8, [(0, 94)]))))), (8, (24, (0, (0, (0, []))))), (9, (15, (0, (0, (0, []))))), (10, (20, (0, (12, (0, []))))), (13, (4, (4, (0, (0, []))))), (15, (0, (0, (0, (1, []))))), (16, (27, (0, (0, (0, []))))), (17, (0, (0, (0, (0, []))))), (18, (27, (0, (0, (0, [])))))], ([(0, (10, (0, 1)))], 5))
set_option maxRecDepth 100000 in
noncomputable def m_L_share : m_Md := ([(0, (2, (3, (0, (0, []))))), (1, (0, (0, (0, (0, []))))), (2, (2, (0, (0, (0, []))))), (3, (1, (1, (0, (0, []))))), (4, (1, (2, (0, (0, []))))), (5, (30, (108, (3, (8, [(0, 97)]))))), (8, (24, (0, (0, (0, []))))), (9, (15, (0, (0, (0, []))))), (10, (20, (0, (12, (0, []))))), (13, (4, (4, (0, (0, []))))), (15, (0, (0, (0, (1, []))))), (16, (27, (0, (0, (0, []))))), (17, (0, (0, (0, (0, []))))), (18, (27, (0, (0, (0, [])))))], ([(0, (10, (0, 1)))], 5))
set_option maxRecDepth 100000 in
noncomputable def m_L_judge : m_Md := ([(0, (2, (3, (0, (0, []))))), (1, (0, (0, (0, (0, []))))), (2, (2, (0, (0, (0, []))))), (3, (1, (1, (0, (0, []))))), (4, (1, (2, (0, (0, []))))), (5, (30, (109, (3, (8, [(0, 100)]))))), (8, (24, (0, (0, (0, []))))), (9, (15, (0, (0, (0, []))))), (10, (20, (0, (15, (0, []))))), (13, (4, (4, (0, (0, []))))), (15, (0, (0, (0, (1, []))))), (16, (27, (0, (0, (0, []))))), (17, (4, (4, (0, (0, []))))), (19, (0, (0, (0, (2, []))))), (20, (27, (0, (0, (0, []))))), (21, (0, (0, (0, (0, []))))), (22, (27, (0, (0, (0, [])))))], ([(0, (10, (1, 1))), (0, (10, (0, 2)))], 5))
set_option maxRecDepth 100000 in
noncomputable def m_L_parting : m_Md := ([(0, (2, (3, (0, (0, []))))), (1, (0, (0, (0, (0, []))))), (2, (2, (0, (0, (0, []))))), (3, (1, (1, (0, (0, []))))), (4, (1, (2, (0, (0, []))))), (5, (30, (111, (3, (8, [(0, 103)]))))), (8, (24, (0, (0, (0, []))))), (9, (15, (0, (0, (0, []))))), (10, (20, (0, (12, (0, []))))), (13, (4, (4, (0, (0, []))))), (15, (0, (0, (0, (1, []))))), (16, (27, (0, (0, (0, []))))), (17, (0, (0, (0, (0, []))))), (18, (27, (0, (0, (0, [])))))], ([(0, (10, (0, 1)))], 5))
set_option maxRecDepth 100000 in
noncomputable def m_L_beside : m_Md := ([(0, (2, (3, (0, (0, []))))), (1, (0, (0, (0, (0, []))))), (2, (2, (0, (0, (0, []))))), (3, (1, (1, (0, (0, []))))), (4, (1, (2, (0, (0, []))))), (5, (30, (112, (3, (8, [(0, 106)]))))), (8, (24, (0, (0, (0, []))))), (9, (15, (0, (0, (0, []))))), (10, (20, (0, (15, (0, []))))), (13, (4, (4, (0, (0, []))))), (15, (0, (0, (0, (1, []))))), (16, (27, (0, (0, (0, []))))), (17, (4, (4, (0, (0, []))))), (19, (0, (0, (0, (2, []))))), (20, (27, (0, (0, (0, []))))), (21, (0, (0, (0, (0, []))))), (22, (27, (0, (0, (0, [])))))], ([(0, (10, (1, 1))), (0, (10, (0, 2)))], 5))
set_option maxRecDepth 100000 in
noncomputable def m_L_law_ : m_Md := ([(0, (37, (7, (0, (0, [(0, 8)]))))), (3, (22, (0, (0, (0, []))))), (4, (30, (77, (1, (0, [(2, 109)]))))), (7, (4, (1, (0, (0, []))))), (8, (37, (8, (0, (0, [(0, 110)]))))), (11, (22, (0, (0, (0, []))))), (12, (30, (132, (1, (0, [(2, 112)]))))), (15, (4, (2, (0, (0, []))))), (16, (0, (0, (0, (1, []))))), (17, (38, (2, (0, (0, []))))), (19, (4, (3, (0, (0, []))))), (20, (0, (0, (0, (0, []))))), (21, (3, (4, (0, (0, []))))), (23, (1, (4, (0, (0, []))))), (25, (2, (0, (0, (0, []))))), (26, (16, (0, (0, (0, []))))), (27, (0, (0, (0, (7, []))))), (29, (17, (1, (0, (0, []))))), (30, (19, (4, (1468, (0, []))))), (33, (2, (0, (0, (0, []))))), (34, (1, (4, (0, (0, []))))), (36, (8, (0, (0, (0, []))))), (37, (0, (0, (0, (63, []))))), (39, (17, (7, (0, (0, []))))), (40, (21, (0, (1466, (0, [(0, 25), (1, 82), (2, 117), (3, 124), (4, 159), (5, 244), (6, 302), (7, 385), (8, 430), (9, 465), (10, 510), (11, 576), (12, 621), (13, 628), (14, 673), (15, 708), (16, 743), (17, 778), (18, 813), (19, 851), (20, 886), (21, 941), (22, 986), (23, 1021), (24, 1056), (25, 1091), (26, 1098), (27, 1151), (28, 1158), (29, 1203), (30, 1248), (31, 1293), (32, 1338), (33, 1345), (34, 1390), (35, 1435), (36, 1442), (37, 1449)]))))), (208, (2, (1, (0, (0, []))))), (209, (2, (0, (0, (0, []))))), (210, (1, (4, (0, (0, []))))), (212, (0, (0, (0, (1, []))))), (213, (17, (0, (0, (0, []))))), (214, (8, (0, (0, (0, []))))), (215, (2, (0, (0, (0, []))))), (216, (1, (4, (0, (0, []))))), (218, (0, (0, (0, (2, []))))), (219, (17, (0, (0, (0, []))))), (220, (8, (0, (0, (0, []))))), (221, (2, (0, (0, (0, []))))), (222, (1, (4, (0, (0, []))))), (224, (0, (0, (0, (3, []))))), (225, (17, (0, (0, (0, []))))), (226, (8, (0, (0, (0, []))))), (227, (2, (0, (0, (0, []))))), (228, (1, (4, (0, (0, []))))), (230, (0, (0, (0, (4, []))))), (231, (17, (0, (0, (0, []))))), (232, (8, (0, (0, (0, []))))), (233, (2, (0, (0, (0, []))))), (234, (1, (4, (0, (0, []))))), (236, (0, (0, (0, (5, []))))), (237, (17, (0, (0, (0, []))))), (238, (8, (0, (0, (0, []))))), (239, (30, (78, (6, (8, [(0, 113)]))))), (242, (2, (2, (0, (0, []))))), (243, (2, (0, (0, (0, []))))), (244, (1, (4, (0, (0, []))))), (246, (0, (0, (0, (1, []))))), (247, (17, (0, (0, (0, []))))), (248, (8, (0, (0, (0, []))))), (249, (2, (0, (0, (0, []))))), (250, (1, (4, (0, (0, []))))), (252, (0, (0, (0, (2, []))))), (253, (17, (0, (0, (0, []))))), (254, (8, (0, (0, (0, []))))), (255, (2, (0, (0, (0, []))))), (256, (1, (4, (0, (0, []))))), (258, (0, (0, (0, (3, []))))), (259, (17, (0, (0, (0, []))))), (260, (8, (0, (0, (0, []))))), (261, (2, (0, (0, (0, []))))), (262, (1, (4, (0, (0, []))))), (264, (0, (0, (0, (4, []))))), (265, (17, (0, (0, (0, []))))), (266, (8, (0, (0, (0, []))))), (267, (2, (0, (0, (0, []))))), (268, (1, (4, (0, (0, []))))), (270, (0, (0, (0, (5, []))))), (271, (17, (0, (0, (0, []))))), (272, (8, (0, (0, (0, []))))), (273, (30, (137, (6, (9, [(0, 117)]))))), (276, (19, (0, (1466, (0, []))))), (279, (0, (0, (0, (0, []))))), (280, (27, (1, (0, (0, []))))), (281, (2, (1, (0, (0, []))))), (282, (2, (0, (0, (0, []))))), (283, (1, (4, (0, (0, []))))), (285, (0, (0, (0, (1, []))))), (286, (17, (0, (0, (0, []))))), (287, (8, (0, (0, (0, []))))), (288, (2, (3, (0, (0, []))))), (289, (30, (222, (3, (0, [(1, 118)]))))), (292, (3, (5, (0, (0, []))))), (294, (2, (2, (0, (0, []))))), (295, (2, (0, (0, (0, []))))), (296, (1, (4, (0, (0, []))))), (298, (0, (0, (0, (1, []))))), (299, (17, (0, (0, (0, []))))), (300, (8, (0, (0, (0, []))))), (301, (30, (165, (2, (9, [(0, 123)]))))), (304, (3, (6, (0, (0, []))))), (306, (2, (2, (0, (0, []))))), (307, (30, (133, (1, (9, [(0, 124)]))))), (310, (1, (5, (0, (0, []))))), (312, (19, (0, (105, (0, []))))), (315, (0, (0, (0, (0, []))))), (316, (27, (1, (0, (0, []))))), (317, (1, (5, (0, (0, []))))), (319, (18, (1, (116, (0, []))))), (322, (2, (3, (0, (0, []))))), (323, (0, (0, (0, (0, []))))), (324, (14, (0, (0, (0, []))))), (325, (1, (6, (0, (0, []))))), (327, (24, (0, (0, (0, []))))), (328, (26, (0, (0, (0, []))))), (329, (18, (0, (116, (0, []))))), (332, (0, (0, (0, (0, []))))), (333, (27, (1, (0, (0, []))))), (334, (20, (0, (1466, (0, []))))), (337, (2, (1, (0, (0, []))))), (338, (30, (80, (1, (8, [(0, 128)]))))), (341, (2, (2, (0, (0, []))))), (342, (30, (166, (1, (9, [(0, 131)]))))), (345, (19, (0, (1466, (0, []))))), (348, (0, (0, (0, (0, []))))), (349, (27, (1, (0, (0, []))))), (350, (2, (1, (0, (0, []))))), (351, (2, (0, (0, (0, []))))), (352, (1, (4, (0, (0, []))))), (354, (0, (0, (0, (1, []))))), (355, (17, (0, (0, (0, []))))), (356, (8, (0, (0, (0, []))))), (357, (2, (3, (0, (0, []))))), (358, (30, (223, (3, (0, [(1, 132)]))))), (361, (3, (5, (0, (0, []))))), (363, (2, (2, (0, (0, []))))), (364, (2, (0, (0, (0, []))))), (365, (1, (4, (0, (0, []))))), (367, (0, (0, (0, (1, []))))), (368, (17, (0, (0, (0, []))))), (369, (8, (0, (0, (0, []))))), (370, (30, (167, (2, (9, [(0, 134)]))))), (373, (3, (6, (0, (0, []))))), (375, (2, (2, (0, (0, []))))), (376, (30, (133, (1, (9, [(0, 124)]))))), (379, (1, (5, (0, (0, []))))), (381, (19, (0, (147, (0, []))))), (384, (0, (0, (0, (0, []))))), (385, (27, (1, (0, (0, []))))), (386, (1, (5, (0, (0, []))))), (388, (18, (1, (158, (0, []))))), (391, (2, (3, (0, (0, []))))), (392, (0, (0, (0, (0, []))))), (393, (14, (0, (0, (0, []))))), (394, (1, (6, (0, (0, []))))), (396, (24, (0, (0, (0, []))))), (397, (26, (0, (0, (0, []))))), (398, (18, (0, (158, (0, []))))), (401, (0, (0, (0, (0, []))))), (402, (27, (1, (0, (0, []))))), (403, (20, (0, (1466, (0, []))))), (406, (2, (1, (0, (0, []))))), (407, (2, (0, (0, (0, []))))), (408, (1, (4, (0, (0, []))))), (410, (0, (0, (0, (1, []))))), (411, (17, (0, (0, (0, []))))), (412, (8, (0, (0, (0, []))))), (413, (2, (0, (0, (0, []))))), (414, (1, (4, (0, (0, []))))), (416, (0, (0, (0, (2, []))))), (417, (17, (0, (0, (0, []))))), (418, (8, (0, (0, (0, []))))), (419, (2, (0, (0, (0, []))))), (420, (1, (4, (0, (0, []))))), (422, (0, (0, (0, (3, []))))), (423, (17, (0, (0, (0, []))))), (424, (8, (0, (0, (0, []))))), (425, (2, (0, (0, (0, []))))), (426, (1, (4, (0, (0, []))))), (428, (0, (0, (0, (4, []))))), (429, (17, (0, (0, (0, []))))), (430, (8, (0, (0, (0, []))))), (431, (2, (0, (0, (0, []))))), (432, (1, (4, (0, (0, []))))), (434, (0, (0, (0, (5, []))))), (435, (17, (0, (0, (0, []))))), (436, (8, (0, (0, (0, []))))), (437, (2, (0, (0, (0, []))))), (438, (1, (4, (0, (0, []))))), (440, (0, (0, (0, (6, []))))), (442, (17, (0, (0, (0, []))))), (443, (8, (0, (0, (0, []))))), (444, (2, (3, (0, (0, []))))), (445, (30, (224, (8, (0, [(1, 135)]))))), (448, (3, (5, (0, (0, []))))), (450, (2, (2, (0, (0, []))))), (451, (2, (0, (0, (0, []))))), (452, (1, (4, (0, (0, []))))), (454, (0, (0, (0, (1, []))))), (455, (17, (0, (0, (0, []))))), (456, (8, (0, (0, (0, []))))), (457, (2, (0, (0, (0, []))))), (458, (1, (4, (0, (0, []))))), (460, (0, (0, (0, (2, []))))), (461, (17, (0, (0, (0, []))))), (462, (8, (0, (0, (0, []))))), (463, (2, (0, (0, (0, []))))), (464, (1, (4, (0, (0, []))))), (466, (0, (0, (0, (3, []))))), (467, (17, (0, (0, (0, []))))), (468, (8, (0, (0, (0, []))))), (469, (2, (0, (0, (0, []))))), (470, (1, (4, (0, (0, []))))), (472, (0, (0, (0, (4, []))))), (473, (17, (0, (0, (0, []))))), (474, (8, (0, (0, (0, []))))), (475, (2, (0, (0, (0, []))))), (476, (1, (4, (0, (0, []))))), (478, (0, (0, (0, (5, []))))), (479, (17, (0, (0, (0, []))))), (480, (8, (0, (0, (0, []))))), (481, (2, (0, (0, (0, []))))), (482, (1, (4, (0, (0, []))))), (484, (0, (0, (0, (6, []))))), (486, (17, (0, (0, (0, []))))), (487, (8, (0, (0, (0, []))))), (488, (30, (170, (7, (9, [(0, 138)]))))), (491, (3, (6, (0, (0, []))))), (493, (2, (2, (0, (0, []))))), (494, (30, (133, (1, (9, [(0, 124)]))))), (497, (1, (5, (0, (0, []))))), (499, (19, (0, (232, (0, []))))), (502, (0, (0, (0, (0, []))))), (503, (27, (1, (0, (0, []))))), (504, (1, (5, (0, (0, []))))), (506, (18, (1, (243, (0, []))))), (509, (2, (3, (0, (0, []))))), (510, (0, (0, (0, (0, []))))), (511, (14, (0, (0, (0, []))))), (512, (1, (6, (0, (0, []))))), (514, (24, (0, (0, (0, []))))), (515, (26, (0, (0, (0, []))))), (516, (18, (0, (243, (0, []))))), (519, (0, (0, (0, (0, []))))), (520, (27, (1, (0, (0, []))))), (521, (20, (0, (1466, (0, []))))), (524, (2, (1, (0, (0, []))))), (525, (2, (0, (0, (0, []))))), (526, (1, (4, (0, (0, []))))), (528, (0, (0, (0, (1, []))))), (529, (17, (0, (0, (0, []))))), (530, (8, (0, (0, (0, []))))), (531, (2, (0, (0, (0, []))))), (532, (1, (4, (0, (0, []))))), (534, (0, (0, (0, (2, []))))), (535, (17, (0, (0, (0, []))))), (536, (8, (0, (0, (0, []))))), (537, (2, (0, (0, (0, []))))), (538, (1, (4, (0, (0, []))))), (540, (0, (0, (0, (3, []))))), (541, (17, (0, (0, (0, []))))), (542, (8, (0, (0, (0, []))))), (543, (2, (3, (0, (0, []))))), (544, (30, (225, (5, (0, [(1, 139)]))))), (547, (3, (5, (0, (0, []))))), (549, (2, (2, (0, (0, []))))), (550, (2, (0, (0, (0, []))))), (551, (1, (4, (0, (0, []))))), (553, (0, (0, (0, (1, []))))), (554, (17, (0, (0, (0, []))))), (555, (8, (0, (0, (0, []))))), (556, (2, (0, (0, (0, []))))), (557, (1, (4, (0, (0, []))))), (559, (0, (0, (0, (2, []))))), (560, (17, (0, (0, (0, []))))), (561, (8, (0, (0, (0, []))))), (562, (2, (0, (0, (0, []))))), (563, (1, (4, (0, (0, []))))), (565, (0, (0, (0, (3, []))))), (566, (17, (0, (0, (0, []))))), (567, (8, (0, (0, (0, []))))), (568, (30, (171, (4, (9, [(0, 142)]))))), (571, (3, (6, (0, (0, []))))), (573, (2, (2, (0, (0, []))))), (574, (30, (133, (1, (9, [(0, 124)]))))), (577, (1, (5, (0, (0, []))))), (579, (19, (0, (287, (0, []))))), (582, (0, (0, (0, (0, []))))), (583, (27, (1, (0, (0, []))))), (584, (1, (5, (0, (0, []))))), (586, (18, (1, (301, (0, []))))), (589, (2, (3, (0, (0, []))))), (590, (0, (0, (0, (0, []))))), (591, (14, (0, (0, (0, []))))), (592, (1, (6, (0, (0, []))))), (594, (18, (0, (296, (0, []))))), (597, (25, (1, (0, (0, []))))), (598, (20, (0, (297, (0, []))))), (601, (25, (0, (0, (0, []))))), (602, (26, (0, (0, (0, []))))), (603, (18, (0, (301, (0, []))))), (606, (0, (0, (0, (0, []))))), (607, (27, (1, (0, (0, []))))), (608, (20, (0, (1466, (0, []))))), (611, (2, (1, (0, (0, []))))), (612, (2, (0, (0, (0, []))))), (613, (1, (4, (0, (0, []))))), (615, (0, (0, (0, (1, []))))), (616, (17, (0, (0, (0, []))))), (617, (8, (0, (0, (0, []))))), (618, (2, (0, (0, (0, []))))), (619, (1, (4, (0, (0, []))))), (621, (0, (0, (0, (2, []))))), (622, (17, (0, (0, (0, []))))), (623, (8, (0, (0, (0, []))))), (624, (2, (0, (0, (0, []))))), (625, (1, (4, (0, (0, []))))), (627, (0, (0, (0, (3, []))))), (628, (17, (0, (0, (0, []))))), (629, (8, (0, (0, (0, []))))), (630, (2, (0, (0, (0, []))))), (631, (1, (4, (0, (0, []))))), (633, (0, (0, (0, (4, []))))), (634, (17, (0, (0, (0, []))))), (635, (8, (0, (0, (0, []))))), (636, (2, (0, (0, (0, []))))), (637, (1, (4, (0, (0, []))))), (639, (0, (0, (0, (5, []))))), (640, (17, (0, (0, (0, []))))), (641, (8, (0, (0, (0, []))))), (642, (18, (0, (331, (0, []))))), (645, (0, (0, (0, (1, []))))), (646, (20, (0, (332, (0, []))))), (649, (0, (0, (0, (0, []))))), (650, (2, (3, (0, (0, []))))), (651, (30, (226, (7, (0, [(1, 143)]))))), (654, (3, (5, (0, (0, []))))), (656, (2, (2, (0, (0, []))))), (657, (2, (0, (0, (0, []))))), (658, (1, (4, (0, (0, []))))), (660, (0, (0, (0, (1, []))))), (661, (17, (0, (0, (0, []))))), (662, (8, (0, (0, (0, []))))), (663, (2, (0, (0, (0, []))))), (664, (1, (4, (0, (0, []))))), (666, (0, (0, (0, (2, []))))), (667, (17, (0, (0, (0, []))))), (668, (8, (0, (0, (0, []))))), (669, (2, (0, (0, (0, []))))), (670, (1, (4, (0, (0, []))))), (672, (0, (0, (0, (3, []))))), (673, (17, (0, (0, (0, []))))), (674, (8, (0, (0, (0, []))))), (675, (2, (0, (0, (0, []))))), (676, (1, (4, (0, (0, []))))), (678, (0, (0, (0, (4, []))))), (679, (17, (0, (0, (0, []))))), (680, (8, (0, (0, (0, []))))), (681, (2, (0, (0, (0, []))))), (682, (1, (4, (0, (0, []))))), (684, (0, (0, (0, (5, []))))), (685, (17, (0, (0, (0, []))))), (686, (8, (0, (0, (0, []))))), (687, (18, (0, (364, (0, []))))), (690, (0, (0, (0, (1, []))))), (691, (20, (0, (365, (0, []))))), (694, (0, (0, (0, (0, []))))), (695, (30, (172, (6, (9, [(0, 146)]))))), (698, (3, (6, (0, (0, []))))), (700, (2, (2, (0, (0, []))))), (701, (30, (133, (1, (9, [(0, 124)]))))), (704, (1, (5, (0, (0, []))))), (706, (19, (0, (373, (0, []))))), (709, (0, (0, (0, (0, []))))), (710, (27, (1, (0, (0, []))))), (711, (1, (5, (0, (0, []))))), (713, (18, (1, (384, (0, []))))), (716, (2, (3, (0, (0, []))))), (717, (0, (0, (0, (0, []))))), (718, (14, (0, (0, (0, []))))), (719, (1, (6, (0, (0, []))))), (721, (24, (0, (0, (0, []))))), (722, (26, (0, (0, (0, []))))), (723, (18, (0, (384, (0, []))))), (726, (0, (0, (0, (0, []))))), (727, (27, (1, (0, (0, []))))), (728, (20, (0, (1466, (0, []))))), (731, (2, (1, (0, (0, []))))), (732, (2, (0, (0, (0, []))))), (733, (1, (4, (0, (0, []))))), (735, (0, (0, (0, (1, []))))), (736, (17, (0, (0, (0, []))))), (737, (8, (0, (0, (0, []))))), (738, (2, (0, (0, (0, []))))), (739, (1, (4, (0, (0, []))))), (741, (0, (0, (0, (2, []))))), (742, (17, (0, (0, (0, []))))), (743, (8, (0, (0, (0, []))))), (744, (2, (3, (0, (0, []))))), (745, (30, (227, (4, (0, [(1, 147)]))))), (748, (3, (5, (0, (0, []))))), (750, (2, (2, (0, (0, []))))), (751, (2, (0, (0, (0, []))))), (752, (1, (4, (0, (0, []))))), (754, (0, (0, (0, (1, []))))), (755, (17, (0, (0, (0, []))))), (756, (8, (0, (0, (0, []))))), (757, (2, (0, (0, (0, []))))), (758, (1, (4, (0, (0, []))))), (760, (0, (0, (0, (2, []))))), (761, (17, (0, (0, (0, []))))), (762, (8, (0, (0, (0, []))))), (763, (30, (174, (3, (9, [(0, 150)]))))), (766, (3, (6, (0, (0, []))))), (768, (2, (2, (0, (0, []))))), (769, (30, (133, (1, (9, [(0, 124)]))))), (772, (1, (5, (0, (0, []))))), (774, (19, (0, (418, (0, []))))), (777, (0, (0, (0, (0, []))))), (778, (27, (1, (0, (0, []))))), (779, (1, (5, (0, (0, []))))), (781, (18, (1, (429, (0, []))))), (784, (2, (3, (0, (0, []))))), (785, (0, (0, (0, (0, []))))), (786, (14, (0, (0, (0, []))))), (787, (1, (6, (0, (0, []))))), (789, (24, (0, (0, (0, []))))), (790, (26, (0, (0, (0, []))))), (791, (18, (0, (429, (0, []))))), (794, (0, (0, (0, (0, []))))), (795, (27, (1, (0, (0, []))))), (796, (20, (0, (1466, (0, []))))), (799, (2, (1, (0, (0, []))))), (800, (2, (0, (0, (0, []))))), (801, (1, (4, (0, (0, []))))), (803, (0, (0, (0, (1, []))))), (804, (17, (0, (0, (0, []))))), (805, (8, (0, (0, (0, []))))), (806, (2, (3, (0, (0, []))))), (807, (30, (228, (3, (0, [(1, 151)]))))), (810, (3, (5, (0, (0, []))))), (812, (2, (2, (0, (0, []))))), (813, (2, (0, (0, (0, []))))), (814, (1, (4, (0, (0, []))))), (816, (0, (0, (0, (1, []))))), (817, (17, (0, (0, (0, []))))), (818, (8, (0, (0, (0, []))))), (819, (30, (175, (2, (9, [(0, 153)]))))), (822, (3, (6, (0, (0, []))))), (824, (2, (2, (0, (0, []))))), (825, (30, (133, (1, (9, [(0, 124)]))))), (828, (1, (5, (0, (0, []))))), (830, (19, (0, (453, (0, []))))), (833, (0, (0, (0, (0, []))))), (834, (27, (1, (0, (0, []))))), (835, (1, (5, (0, (0, []))))), (837, (18, (1, (464, (0, []))))), (840, (2, (3, (0, (0, []))))), (841, (0, (0, (0, (0, []))))), (842, (14, (0, (0, (0, []))))), (843, (1, (6, (0, (0, []))))), (845, (24, (0, (0, (0, []))))), (846, (26, (0, (0, (0, []))))), (847, (18, (0, (464, (0, []))))), (850, (0, (0, (0, (0, []))))), (851, (27, (1, (0, (0, []))))), (852, (20, (0, (1466, (0, []))))), (855, (2, (1, (0, (0, []))))), (856, (2, (0, (0, (0, []))))), (857, (1, (4, (0, (0, []))))), (859, (0, (0, (0, (1, []))))), (860, (17, (0, (0, (0, []))))), (861, (8, (0, (0, (0, []))))), (862, (2, (0, (0, (0, []))))), (863, (1, (4, (0, (0, []))))), (865, (0, (0, (0, (2, []))))), (866, (17, (0, (0, (0, []))))), (867, (8, (0, (0, (0, []))))), (868, (2, (3, (0, (0, []))))), (869, (30, (229, (4, (0, [(1, 154)]))))), (872, (3, (5, (0, (0, []))))), (874, (2, (2, (0, (0, []))))), (875, (2, (0, (0, (0, []))))), (876, (1, (4, (0, (0, []))))), (878, (0, (0, (0, (1, []))))), (879, (17, (0, (0, (0, []))))), (880, (8, (0, (0, (0, []))))), (881, (2, (0, (0, (0, []))))), (882, (1, (4, (0, (0, []))))), (884, (0, (0, (0, (2, []))))), (885, (17, (0, (0, (0, []))))), (886, (8, (0, (0, (0, []))))), (887, (30, (176, (3, (9, [(0, 156)]))))), (890, (3, (6, (0, (0, []))))), (892, (2, (2, (0, (0, []))))), (893, (30, (133, (1, (9, [(0, 124)]))))), (896, (1, (5, (0, (0, []))))), (898, (19, (0, (498, (0, []))))), (901, (0, (0, (0, (0, []))))), (902, (27, (1, (0, (0, []))))), (903, (1, (5, (0, (0, []))))), (905, (18, (1, (509, (0, []))))), (908, (2, (3, (0, (0, []))))), (909, (0, (0, (0, (0, []))))), (910, (14, (0, (0, (0, []))))), (911, (1, (6, (0, (0, []))))), (913, (24, (0, (0, (0, []))))), (914, (26, (0, (0, (0, []))))), (915, (18, (0, (509, (0, []))))), (918, (0, (0, (0, (0, []))))), (919, (27, (1, (0, (0, []))))), (920, (20, (0, (1466, (0, []))))), (923, (2, (1, (0, (0, []))))), (924, (2, (0, (0, (0, []))))), (925, (1, (4, (0, (0, []))))), (927, (0, (0, (0, (1, []))))), (928, (17, (0, (0, (0, []))))), (929, (8, (0, (0, (0, []))))), (930, (2, (0, (0, (0, []))))), (931, (1, (4, (0, (0, []))))), (933, (0, (0, (0, (2, []))))), (934, (17, (0, (0, (0, []))))), (935, (8, (0, (0, (0, []))))), (936, (2, (0, (0, (0, []))))), (937, (1, (4, (0, (0, []))))), (939, (0, (0, (0, (3, []))))), (940, (17, (0, (0, (0, []))))), (941, (8, (0, (0, (0, []))))), (942, (18, (0, (529, (0, []))))), (945, (0, (0, (0, (1, []))))), (946, (20, (0, (530, (0, []))))), (949, (0, (0, (0, (0, []))))), (950, (2, (3, (0, (0, []))))), (951, (30, (230, (5, (0, [(1, 157)]))))), (954, (3, (5, (0, (0, []))))), (956, (2, (2, (0, (0, []))))), (957, (2, (0, (0, (0, []))))), (958, (1, (4, (0, (0, []))))), (960, (0, (0, (0, (1, []))))), (961, (17, (0, (0, (0, []))))), (962, (8, (0, (0, (0, []))))), (963, (2, (0, (0, (0, []))))), (964, (1, (4, (0, (0, []))))), (966, (0, (0, (0, (2, []))))), (967, (17, (0, (0, (0, []))))), (968, (8, (0, (0, (0, []))))), (969, (2, (0, (0, (0, []))))), (970, (1, (4, (0, (0, []))))), (972, (0, (0, (0, (3, []))))), (973, (17, (0, (0, (0, []))))), (974, (8, (0, (0, (0, []))))), (975, (18, (0, (552, (0, []))))), (978, (0, (0, (0, (1, []))))), (979, (20, (0, (553, (0, []))))), (982, (0, (0, (0, (0, []))))), (983, (30, (177, (4, (9, [(0, 160)]))))), (986, (3, (6, (0, (0, []))))), (988, (2, (2, (0, (0, []))))), (989, (30, (133, (1, (9, [(0, 124)]))))), (992, (1, (5, (0, (0, []))))), (994, (19, (0, (561, (0, []))))), (997, (0, (0, (0, (0, []))))), (998, (27, (1, (0, (0, []))))), (999, (1, (5, (0, (0, []))))), (1001, (18, (1, (575, (0, []))))), (1004, (2, (3, (0, (0, []))))), (1005, (0, (0, (0, (0, []))))), (1006, (14, (0, (0, (0, []))))), (1007, (1, (6, (0, (0, []))))), (1009, (18, (0, (570, (0, []))))), (1012, (25, (1, (0, (0, []))))), (1013, (20, (0, (571, (0, []))))), (1016, (25, (0, (0, (0, []))))), (1017, (26, (0, (0, (0, []))))), (1018, (18, (0, (575, (0, []))))), (1021, (0, (0, (0, (0, []))))), (1022, (27, (1, (0, (0, []))))), (1023, (20, (0, (1466, (0, []))))), (1026, (2, (1, (0, (0, []))))), (1027, (2, (0, (0, (0, []))))), (1028, (1, (4, (0, (0, []))))), (1030, (0, (0, (0, (1, []))))), (1031, (17, (0, (0, (0, []))))), (1032, (8, (0, (0, (0, []))))), (1033, (2, (0, (0, (0, []))))), (1034, (1, (4, (0, (0, []))))), (1036, (0, (0, (0, (2, []))))), (1037, (17, (0, (0, (0, []))))), (1038, (8, (0, (0, (0, []))))), (1039, (2, (3, (0, (0, []))))), (1040, (30, (231, (4, (0, [(1, 161)]))))), (1043, (3, (5, (0, (0, []))))), (1045, (2, (2, (0, (0, []))))), (1046, (2, (0, (0, (0, []))))), (1047, (1, (4, (0, (0, []))))), (1049, (0, (0, (0, (1, []))))), (1050, (17, (0, (0, (0, []))))), (1051, (8, (0, (0, (0, []))))), (1052, (2, (0, (0, (0, []))))), (1053, (1, (4, (0, (0, []))))), (1055, (0, (0, (0, (2, []))))), (1056, (17, (0, (0, (0, []))))), (1057, (8, (0, (0, (0, []))))), (1058, (30, (178, (3, (9, [(0, 163)]))))), (1061, (3, (6, (0, (0, []))))), (1063, (2, (2, (0, (0, []))))), (1064, (30, (133, (1, (9, [(0, 124)]))))), (1067, (1, (5, (0, (0, []))))), (1069, (19, (0, (609, (0, []))))), (1072, (0, (0, (0, (0, []))))), (1073, (27, (1, (0, (0, []))))), (1074, (1, (5, (0, (0, []))))), (1076, (18, (1, (620, (0, []))))), (1079, (2, (3, (0, (0, []))))), (1080, (0, (0, (0, (0, []))))), (1081, (14, (0, (0, (0, []))))), (1082, (1, (6, (0, (0, []))))), (1084, (24, (0, (0, (0, []))))), (1085, (26, (0, (0, (0, []))))), (1086, (18, (0, (620, (0, []))))), (1089, (0, (0, (0, (0, []))))), (1090, (27, (1, (0, (0, []))))), (1091, (20, (0, (1466, (0, []))))), (1094, (2, (1, (0, (0, []))))), (1095, (30, (90, (1, (8, [(0, 164)]))))), (1098, (2, (2, (0, (0, []))))), (1099, (30, (183, (1, (9, [(0, 167)]))))), (1102, (19, (0, (1466, (0, []))))), (1105, (0, (0, (0, (0, []))))), (1106, (27, (1, (0, (0, []))))), (1107, (2, (1, (0, (0, []))))), (1108, (2, (0, (0, (0, []))))), (1109, (1, (4, (0, (0, []))))), (1111, (0, (0, (0, (1, []))))), (1112, (17, (0, (0, (0, []))))), (1113, (8, (0, (0, (0, []))))), (1114, (2, (0, (0, (0, []))))), (1115, (1, (4, (0, (0, []))))), (1117, (0, (0, (0, (2, []))))), (1118, (17, (0, (0, (0, []))))), (1119, (8, (0, (0, (0, []))))), (1120, (2, (3, (0, (0, []))))), (1121, (30, (232, (4, (0, [(1, 168)]))))), (1124, (3, (5, (0, (0, []))))), (1126, (2, (2, (0, (0, []))))), (1127, (2, (0, (0, (0, []))))), (1128, (1, (4, (0, (0, []))))), (1130, (0, (0, (0, (1, []))))), (1131, (17, (0, (0, (0, []))))), (1132, (8, (0, (0, (0, []))))), (1133, (2, (0, (0, (0, []))))), (1134, (1, (4, (0, (0, []))))), (1136, (0, (0, (0, (2, []))))), (1137, (17, (0, (0, (0, []))))), (1138, (8, (0, (0, (0, []))))), (1139, (30, (185, (3, (9, [(0, 170)]))))), (1142, (3, (6, (0, (0, []))))), (1144, (2, (2, (0, (0, []))))), (1145, (30, (133, (1, (9, [(0, 124)]))))), (1148, (1, (5, (0, (0, []))))), (1150, (19, (0, (661, (0, []))))), (1153, (0, (0, (0, (0, []))))), (1154, (27, (1, (0, (0, []))))), (1155, (1, (5, (0, (0, []))))), (1157, (18, (1, (672, (0, []))))), (1160, (2, (3, (0, (0, []))))), (1161, (0, (0, (0, (0, []))))), (1162, (14, (0, (0, (0, []))))), (1163, (1, (6, (0, (0, []))))), (1165, (24, (0, (0, (0, []))))), (1166, (26, (0, (0, (0, []))))), (1167, (18, (0, (672, (0, []))))), (1170, (0, (0, (0, (0, []))))), (1171, (27, (1, (0, (0, []))))), (1172, (20, (0, (1466, (0, []))))), (1175, (2, (1, (0, (0, []))))), (1176, (2, (0, (0, (0, []))))), (1177, (1, (4, (0, (0, []))))), (1179, (0, (0, (0, (1, []))))), (1180, (17, (0, (0, (0, []))))), (1181, (8, (0, (0, (0, []))))), (1182, (2, (3, (0, (0, []))))), (1183, (30, (233, (3, (0, [(1, 171)]))))), (1186, (3, (5, (0, (0, []))))), (1188, (2, (2, (0, (0, []))))), (1189, (2, (0, (0, (0, []))))), (1190, (1, (4, (0, (0, []))))), (1192, (0, (0, (0, (1, []))))), (1193, (17, (0, (0, (0, []))))), (1194, (8, (0, (0, (0, []))))), (1195, (30, (186, (2, (9, [(0, 173)]))))), (1198, (3, (6, (0, (0, []))))), (1200, (2, (2, (0, (0, []))))), (1201, (30, (133, (1, (9, [(0, 124)]))))), (1204, (1, (5, (0, (0, []))))), (1206, (19, (0, (696, (0, []))))), (1209, (0, (0, (0, (0, []))))), (1210, (27, (1, (0, (0, []))))), (1211, (1, (5, (0, (0, []))))), (1213, (18, (1, (707, (0, []))))), (1216, (2, (3, (0, (0, []))))), (1217, (0, (0, (0, (0, []))))), (1218, (14, (0, (0, (0, []))))), (1219, (1, (6, (0, (0, []))))), (1221, (24, (0, (0, (0, []))))), (1222, (26, (0, (0, (0, []))))), (1223, (18, (0, (707, (0, []))))), (1226, (0, (0, (0, (0, []))))), (1227, (27, (1, (0, (0, []))))), (1228, (20, (0, (1466, (0, []))))), (1231, (2, (1, (0, (0, []))))), (1232, (2, (0, (0, (0, []))))), (1233, (1, (4, (0, (0, []))))), (1235, (0, (0, (0, (1, []))))), (1236, (17, (0, (0, (0, []))))), (1237, (8, (0, (0, (0, []))))), (1238, (2, (3, (0, (0, []))))), (1239, (30, (234, (3, (0, [(1, 174)]))))), (1242, (3, (5, (0, (0, []))))), (1244, (2, (2, (0, (0, []))))), (1245, (2, (0, (0, (0, []))))), (1246, (1, (4, (0, (0, []))))), (1248, (0, (0, (0, (1, []))))), (1249, (17, (0, (0, (0, []))))), (1250, (8, (0, (0, (0, []))))), (1251, (30, (187, (2, (9, [(0, 176)]))))), (1254, (3, (6, (0, (0, []))))), (1256, (2, (2, (0, (0, []))))), (1257, (30, (133, (1, (9, [(0, 124)]))))), (1260, (1, (5, (0, (0, []))))), (1262, (19, (0, (731, (0, []))))), (1265, (0, (0, (0, (0, []))))), (1266, (27, (1, (0, (0, []))))), (1267, (1, (5, (0, (0, []))))), (1269, (18, (1, (742, (0, []))))), (1272, (2, (3, (0, (0, []))))), (1273, (0, (0, (0, (0, []))))), (1274, (14, (0, (0, (0, []))))), (1275, (1, (6, (0, (0, []))))), (1277, (24, (0, (0, (0, []))))), (1278, (26, (0, (0, (0, []))))), (1279, (18, (0, (742, (0, []))))), (1282, (0, (0, (0, (0, []))))), (1283, (27, (1, (0, (0, []))))), (1284, (20, (0, (1466, (0, []))))), (1287, (2, (1, (0, (0, []))))), (1288, (2, (0, (0, (0, []))))), (1289, (1, (4, (0, (0, []))))), (1291, (0, (0, (0, (1, []))))), (1292, (17, (0, (0, (0, []))))), (1293, (8, (0, (0, (0, []))))), (1294, (2, (3, (0, (0, []))))), (1295, (30, (235, (3, (0, [(1, 177)]))))), (1298, (3, (5, (0, (0, []))))), (1300, (2, (2, (0, (0, []))))), (1301, (2, (0, (0, (0, []))))), (1302, (1, (4, (0, (0, []))))), (1304, (0, (0, (0, (1, []))))), (1305, (17, (0, (0, (0, []))))), (1306, (8, (0, (0, (0, []))))), (1307, (30, (188, (2, (9, [(0, 179)]))))), (1310, (3, (6, (0, (0, []))))), (1312, (2, (2, (0, (0, []))))), (1313, (30, (133, (1, (9, [(0, 124)]))))), (1316, (1, (5, (0, (0, []))))), (1318, (19, (0, (766, (0, []))))), (1321, (0, (0, (0, (0, []))))), (1322, (27, (1, (0, (0, []))))), (1323, (1, (5, (0, (0, []))))), (1325, (18, (1, (777, (0, []))))), (1328, (2, (3, (0, (0, []))))), (1329, (0, (0, (0, (0, []))))), (1330, (14, (0, (0, (0, []))))), (1331, (1, (6, (0, (0, []))))), (1333, (24, (0, (0, (0, []))))), (1334, (26, (0, (0, (0, []))))), (1335, (18, (0, (777, (0, []))))), (1338, (0, (0, (0, (0, []))))), (1339, (27, (1, (0, (0, []))))), (1340, (20, (0, (1466, (0, []))))), (1343, (2, (1, (0, (0, []))))), (1344, (2, (0, (0, (0, []))))), (1345, (1, (4, (0, (0, []))))), (1347, (0, (0, (0, (1, []))))), (1348, (17, (0, (0, (0, []))))), (1349, (8, (0, (0, (0, []))))), (1350, (2, (3, (0, (0, []))))), (1351, (30, (236, (3, (0, [(1, 180)]))))), (1354, (3, (5, (0, (0, []))))), (1356, (2, (2, (0, (0, []))))), (1357, (2, (0, (0, (0, []))))), (1358, (1, (4, (0, (0, []))))), (1360, (0, (0, (0, (1, []))))), (1361, (17, (0, (0, (0, []))))), (1362, (8, (0, (0, (0, []))))), (1363, (30, (189, (2, (9, [(0, 182)]))))), (1366, (3, (6, (0, (0, []))))), (1368, (2, (2, (0, (0, []))))), (1369, (30, (133, (1, (9, [(0, 124)]))))), (1372, (1, (5, (0, (0, []))))), (1374, (19, (0, (801, (0, []))))), (1377, (0, (0, (0, (0, []))))), (1378, (27, (1, (0, (0, []))))), (1379, (1, (5, (0, (0, []))))), (1381, (18, (1, (812, (0, []))))), (1384, (2, (3, (0, (0, []))))), (1385, (0, (0, (0, (0, []))))), (1386, (14, (0, (0, (0, []))))), (1387, (1, (6, (0, (0, []))))), (1389, (24, (0, (0, (0, []))))), (1390, (26, (0, (0, (0, []))))), (1391, (18, (0, (812, (0, []))))), (1394, (0, (0, (0, (0, []))))), (1395, (27, (1, (0, (0, []))))), (1396, (20, (0, (1466, (0, []))))), (1399, (2, (1, (0, (0, []))))), (1400, (2, (0, (0, (0, []))))), (1401, (1, (4, (0, (0, []))))), (1403, (0, (0, (0, (1, []))))), (1404, (17, (0, (0, (0, []))))), (1405, (8, (0, (0, (0, []))))), (1406, (2, (3, (0, (0, []))))), (1407, (30, (237, (3, (0, [(1, 183)]))))), (1410, (3, (5, (0, (0, []))))), (1412, (2, (2, (0, (0, []))))), (1413, (2, (0, (0, (0, []))))), (1414, (1, (4, (0, (0, []))))), (1416, (0, (0, (0, (1, []))))), (1417, (17, (0, (0, (0, []))))), (1418, (8, (0, (0, (0, []))))), (1419, (30, (190, (2, (9, [(0, 185)]))))), (1422, (3, (6, (0, (0, []))))), (1424, (2, (2, (0, (0, []))))), (1425, (30, (133, (1, (9, [(0, 124)]))))), (1428, (1, (5, (0, (0, []))))), (1430, (19, (0, (836, (0, []))))), (1433, (0, (0, (0, (0, []))))), (1434, (27, (1, (0, (0, []))))), (1435, (1, (5, (0, (0, []))))), (1437, (18, (1, (850, (0, []))))), (1440, (2, (3, (0, (0, []))))), (1441, (0, (0, (0, (0, []))))), (1442, (14, (0, (0, (0, []))))), (1443, (1, (6, (0, (0, []))))), (1445, (18, (0, (845, (0, []))))), (1448, (25, (1, (0, (0, []))))), (1449, (20, (0, (846, (0, []))))), (1452, (25, (0, (0, (0, []))))), (1453, (26, (0, (0, (0, []))))), (1454, (18, (0, (850, (0, []))))), (1457, (0, (0, (0, (0, []))))), (1458, (27, (1, (0, (0, []))))), (1459, (20, (0, (1466, (0, []))))), (1462, (2, (1, (0, (0, []))))), (1463, (2, (0, (0, (0, []))))), (1464, (1, (4, (0, (0, []))))), (1466, (0, (0, (0, (1, []))))), (1467, (17, (0, (0, (0, []))))), (1468, (8, (0, (0, (0, []))))), (1469, (2, (3, (0, (0, []))))), (1470, (30, (238, (3, (0, [(1, 186)]))))), (1473, (3, (5, (0, (0, []))))), (1475, (2, (2, (0, (0, []))))), (1476, (2, (0, (0, (0, []))))), (1477, (1, (4, (0, (0, []))))), (1479, (0, (0, (0, (1, []))))), (1480, (17, (0, (0, (0, []))))), (1481, (8, (0, (0, (0, []))))), (1482, (30, (191, (2, (9, [(0, 188)]))))), (1485, (3, (6, (0, (0, []))))), (1487, (2, (2, (0, (0, []))))), (1488, (30, (133, (1, (9, [(0, 124)]))))), (1491, (1, (5, (0, (0, []))))), (1493, (19, (0, (874, (0, []))))), (1496, (0, (0, (0, (0, []))))), (1497, (27, (1, (0, (0, []))))), (1498, (1, (5, (0, (0, []))))), (1500, (18, (1, (885, (0, []))))), (1503, (2, (3, (0, (0, []))))), (1504, (0, (0, (0, (0, []))))), (1505, (14, (0, (0, (0, []))))), (1506, (1, (6, (0, (0, []))))), (1508, (24, (0, (0, (0, []))))), (1509, (26, (0, (0, (0, []))))), (1510, (18, (0, (885, (0, []))))), (1513, (0, (0, (0, (0, []))))), (1514, (27, (1, (0, (0, []))))), (1515, (20, (0, (1466, (0, []))))), (1518, (2, (1, (0, (0, []))))), (1519, (2, (0, (0, (0, []))))), (1520, (1, (4, (0, (0, []))))), (1522, (0, (0, (0, (1, []))))), (1523, (17, (0, (0, (0, []))))), (1524, (8, (0, (0, (0, []))))), (1525, (2, (0, (0, (0, []))))), (1526, (1, (4, (0, (0, []))))), (1528, (0, (0, (0, (2, []))))), (1529, (17, (0, (0, (0, []))))), (1530, (8, (0, (0, (0, []))))), (1531, (2, (0, (0, (0, []))))), (1532, (1, (4, (0, (0, []))))), (1534, (0, (0, (0, (3, []))))), (1535, (17, (0, (0, (0, []))))), (1536, (8, (0, (0, (0, []))))), (1537, (2, (3, (0, (0, []))))), (1538, (30, (239, (5, (0, [(1, 189)]))))), (1541, (3, (5, (0, (0, []))))), (1543, (2, (2, (0, (0, []))))), (1544, (2, (0, (0, (0, []))))), (1545, (1, (4, (0, (0, []))))), (1547, (0, (0, (0, (1, []))))), (1548, (17, (0, (0, (0, []))))), (1549, (8, (0, (0, (0, []))))), (1550, (2, (0, (0, (0, []))))), (1551, (1, (4, (0, (0, []))))), (1553, (0, (0, (0, (2, []))))), (1554, (17, (0, (0, (0, []))))), (1555, (8, (0, (0, (0, []))))), (1556, (2, (0, (0, (0, []))))), (1557, (1, (4, (0, (0, []))))), (1559, (0, (0, (0, (3, []))))), (1560, (17, (0, (0, (0, []))))), (1561, (8, (0, (0, (0, []))))), (1562, (30, (192, (4, (9, [(0, 191)]))))), (1565, (3, (6, (0, (0, []))))), (1567, (2, (2, (0, (0, []))))), (1568, (30, (133, (1, (9, [(0, 124)]))))), (1571, (1, (5, (0, (0, []))))), (1573, (19, (0, (929, (0, []))))), (1576, (0, (0, (0, (0, []))))), (1577, (27, (1, (0, (0, []))))), (1578, (1, (5, (0, (0, []))))), (1580, (18, (1, (940, (0, []))))), (1583, (2, (3, (0, (0, []))))), (1584, (0, (0, (0, (0, []))))), (1585, (14, (0, (0, (0, []))))), (1586, (1, (6, (0, (0, []))))), (1588, (24, (0, (0, (0, []))))), (1589, (26, (0, (0, (0, []))))), (1590, (18, (0, (940, (0, []))))), (1593, (0, (0, (0, (0, []))))), (1594, (27, (1, (0, (0, []))))), (1595, (20, (0, (1466, (0, []))))), (1598, (2, (1, (0, (0, []))))), (1599, (2, (0, (0, (0, []))))), (1600, (1, (4, (0, (0, []))))), (1602, (0, (0, (0, (1, []))))), (1603, (17, (0, (0, (0, []))))), (1604, (8, (0, (0, (0, []))))), (1605, (2, (0, (0, (0, []))))), (1606, (1, (4, (0, (0, []))))), (1608, (0, (0, (0, (2, []))))), (1609, (17, (0, (0, (0, []))))), (1610, (8, (0, (0, (0, []))))), (1611, (2, (3, (0, (0, []))))), (1612, (30, (240, (4, (0, [(1, 192)]))))), (1615, (3, (5, (0, (0, []))))), (1617, (2, (2, (0, (0, []))))), (1618, (2, (0, (0, (0, []))))), (1619, (1, (4, (0, (0, []))))), (1621, (0, (0, (0, (1, []))))), (1622, (17, (0, (0, (0, []))))), (1623, (8, (0, (0, (0, []))))), (1624, (2, (0, (0, (0, []))))), (1625, (1, (4, (0, (0, []))))), (1627, (0, (0, (0, (2, []))))), (1628, (17, (0, (0, (0, []))))), (1629, (8, (0, (0, (0, []))))), (1630, (30, (197, (3, (9, [(0, 194)]))))), (1633, (3, (6, (0, (0, []))))), (1635, (2, (2, (0, (0, []))))), (1636, (30, (133, (1, (9, [(0, 124)]))))), (1639, (1, (5, (0, (0, []))))), (1641, (19, (0, (974, (0, []))))), (1644, (0, (0, (0, (0, []))))), (1645, (27, (1, (0, (0, []))))), (1646, (1, (5, (0, (0, []))))), (1648, (18, (1, (985, (0, []))))), (1651, (2, (3, (0, (0, []))))), (1652, (0, (0, (0, (0, []))))), (1653, (14, (0, (0, (0, []))))), (1654, (1, (6, (0, (0, []))))), (1656, (24, (0, (0, (0, []))))), (1657, (26, (0, (0, (0, []))))), (1658, (18, (0, (985, (0, []))))), (1661, (0, (0, (0, (0, []))))), (1662, (27, (1, (0, (0, []))))), (1663, (20, (0, (1466, (0, []))))), (1666, (2, (1, (0, (0, []))))), (1667, (2, (0, (0, (0, []))))), (1668, (1, (4, (0, (0, []))))), (1670, (0, (0, (0, (1, []))))), (1671, (17, (0, (0, (0, []))))), (1672, (8, (0, (0, (0, []))))), (1673, (2, (3, (0, (0, []))))), (1674, (30, (241, (3, (0, [(1, 195)]))))), (1677, (3, (5, (0, (0, []))))), (1679, (2, (2, (0, (0, []))))), (1680, (2, (0, (0, (0, []))))), (1681, (1, (4, (0, (0, []))))), (1683, (0, (0, (0, (1, []))))), (1684, (17, (0, (0, (0, []))))), (1685, (8, (0, (0, (0, []))))), (1686, (30, (199, (2, (9, [(0, 197)]))))), (1689, (3, (6, (0, (0, []))))), (1691, (2, (2, (0, (0, []))))), (1692, (30, (133, (1, (9, [(0, 124)]))))), (1695, (1, (5, (0, (0, []))))), (1697, (19, (0, (1009, (0, []))))), (1700, (0, (0, (0, (0, []))))), (1701, (27, (1, (0, (0, []))))), (1702, (1, (5, (0, (0, []))))), (1704, (18, (1, (1020, (0, []))))), (1707, (2, (3, (0, (0, []))))), (1708, (0, (0, (0, (0, []))))), (1709, (14, (0, (0, (0, []))))), (1710, (1, (6, (0, (0, []))))), (1712, (24, (0, (0, (0, []))))), (1713, (26, (0, (0, (0, []))))), (1714, (18, (0, (1020, (0, []))))), (1717, (0, (0, (0, (0, []))))), (1718, (27, (1, (0, (0, []))))), (1719, (20, (0, (1466, (0, []))))), (1722, (2, (1, (0, (0, []))))), (1723, (2, (0, (0, (0, []))))), (1724, (1, (4, (0, (0, []))))), (1726, (0, (0, (0, (1, []))))), (1727, (17, (0, (0, (0, []))))), (1728, (8, (0, (0, (0, []))))), (1729, (2, (3, (0, (0, []))))), (1730, (30, (242, (3, (0, [(1, 198)]))))), (1733, (3, (5, (0, (0, []))))), (1735, (2, (2, (0, (0, []))))), (1736, (2, (0, (0, (0, []))))), (1737, (1, (4, (0, (0, []))))), (1739, (0, (0, (0, (1, []))))), (1740, (17, (0, (0, (0, []))))), (1741, (8, (0, (0, (0, []))))), (1742, (30, (200, (2, (9, [(0, 200)]))))), (1745, (3, (6, (0, (0, []))))), (1747, (2, (2, (0, (0, []))))), (1748, (30, (133, (1, (9, [(0, 124)]))))), (1751, (1, (5, (0, (0, []))))), (1753, (19, (0, (1044, (0, []))))), (1756, (0, (0, (0, (0, []))))), (1757, (27, (1, (0, (0, []))))), (1758, (1, (5, (0, (0, []))))), (1760, (18, (1, (1055, (0, []))))), (1763, (2, (3, (0, (0, []))))), (1764, (0, (0, (0, (0, []))))), (1765, (14, (0, (0, (0, []))))), (1766, (1, (6, (0, (0, []))))), (1768, (24, (0, (0, (0, []))))), (1769, (26, (0, (0, (0, []))))), (1770, (18, (0, (1055, (0, []))))), (1773, (0, (0, (0, (0, []))))), (1774, (27, (1, (0, (0, []))))), (1775, (20, (0, (1466, (0, []))))), (1778, (2, (1, (0, (0, []))))), (1779, (2, (0, (0, (0, []))))), (1780, (1, (4, (0, (0, []))))), (1782, (0, (0, (0, (1, []))))), (1783, (17, (0, (0, (0, []))))), (1784, (8, (0, (0, (0, []))))), (1785, (2, (3, (0, (0, []))))), (1786, (30, (243, (3, (0, [(1, 201)]))))), (1789, (3, (5, (0, (0, []))))), (1791, (2, (2, (0, (0, []))))), (1792, (2, (0, (0, (0, []))))), (1793, (1, (4, (0, (0, []))))), (1795, (0, (0, (0, (1, []))))), (1796, (17, (0, (0, (0, []))))), (1797, (8, (0, (0, (0, []))))), (1798, (30, (201, (2, (9, [(0, 203)]))))), (1801, (3, (6, (0, (0, []))))), (1803, (2, (2, (0, (0, []))))), (1804, (30, (133, (1, (9, [(0, 124)]))))), (1807, (1, (5, (0, (0, []))))), (1809, (19, (0, (1079, (0, []))))), (1812, (0, (0, (0, (0, []))))), (1813, (27, (1, (0, (0, []))))), (1814, (1, (5, (0, (0, []))))), (1816, (18, (1, (1090, (0, []))))), (1819, (2, (3, (0, (0, []))))), (1820, (0, (0, (0, (0, []))))), (1821, (14, (0, (0, (0, []))))), (1822, (1, (6, (0, (0, []))))), (1824, (24, (0, (0, (0, []))))), (1825, (26, (0, (0, (0, []))))), (1826, (18, (0, (1090, (0, []))))), (1829, (0, (0, (0, (0, []))))), (1830, (27, (1, (0, (0, []))))), (1831, (20, (0, (1466, (0, []))))), (1834, (2, (1, (0, (0, []))))), (1835, (30, (103, (1, (8, [(0, 204)]))))), (1838, (2, (2, (0, (0, []))))), (1839, (30, (205, (1, (9, [(0, 207)]))))), (1842, (19, (0, (1466, (0, []))))), (1845, (0, (0, (0, (0, []))))), (1846, (27, (1, (0, (0, []))))), (1847, (2, (1, (0, (0, []))))), (1848, (2, (0, (0, (0, []))))), (1849, (1, (4, (0, (0, []))))), (1851, (0, (0, (0, (1, []))))), (1852, (17, (0, (0, (0, []))))), (1853, (8, (0, (0, (0, []))))), (1854, (2, (0, (0, (0, []))))), (1855, (1, (4, (0, (0, []))))), (1857, (0, (0, (0, (2, []))))), (1858, (17, (0, (0, (0, []))))), (1859, (8, (0, (0, (0, []))))), (1860, (18, (0, (1112, (0, []))))), (1863, (0, (0, (0, (1, []))))), (1864, (20, (0, (1113, (0, []))))), (1867, (0, (0, (0, (0, []))))), (1868, (2, (3, (0, (0, []))))), (1869, (30, (244, (4, (0, [(1, 208)]))))), (1872, (3, (5, (0, (0, []))))), (1874, (2, (2, (0, (0, []))))), (1875, (2, (0, (0, (0, []))))), (1876, (1, (4, (0, (0, []))))), (1878, (0, (0, (0, (1, []))))), (1879, (17, (0, (0, (0, []))))), (1880, (8, (0, (0, (0, []))))), (1881, (2, (0, (0, (0, []))))), (1882, (1, (4, (0, (0, []))))), (1884, (0, (0, (0, (2, []))))), (1885, (17, (0, (0, (0, []))))), (1886, (8, (0, (0, (0, []))))), (1887, (18, (0, (1130, (0, []))))), (1890, (0, (0, (0, (1, []))))), (1891, (20, (0, (1131, (0, []))))), (1894, (0, (0, (0, (0, []))))), (1895, (30, (206, (3, (9, [(0, 211)]))))), (1898, (3, (6, (0, (0, []))))), (1900, (2, (2, (0, (0, []))))), (1901, (30, (133, (1, (9, [(0, 124)]))))), (1904, (1, (5, (0, (0, []))))), (1906, (19, (0, (1139, (0, []))))), (1909, (0, (0, (0, (0, []))))), (1910, (27, (1, (0, (0, []))))), (1911, (1, (5, (0, (0, []))))), (1913, (18, (1, (1150, (0, []))))), (1916, (2, (3, (0, (0, []))))), (1917, (0, (0, (0, (0, []))))), (1918, (14, (0, (0, (0, []))))), (1919, (1, (6, (0, (0, []))))), (1921, (24, (0, (0, (0, []))))), (1922, (26, (0, (0, (0, []))))), (1923, (18, (0, (1150, (0, []))))), (1926, (0, (0, (0, (0, []))))), (1927, (27, (1, (0, (0, []))))), (1928, (20, (0, (1466, (0, []))))), (1931, (2, (1, (0, (0, []))))), (1932, (30, (105, (1, (8, [(0, 212)]))))), (1935, (2, (2, (0, (0, []))))), (1936, (30, (208, (1, (9, [(0, 215)]))))), (1939, (19, (0, (1466, (0, []))))), (1942, (0, (0, (0, (0, []))))), (1943, (27, (1, (0, (0, []))))), (1944, (2, (1, (0, (0, []))))), (1945, (2, (0, (0, (0, []))))), (1946, (1, (4, (0, (0, []))))), (1948, (0, (0, (0, (1, []))))), (1949, (17, (0, (0, (0, []))))), (1950, (8, (0, (0, (0, []))))), (1951, (2, (0, (0, (0, []))))), (1952, (1, (4, (0, (0, []))))), (1954, (0, (0, (0, (2, []))))), (1955, (17, (0, (0, (0, []))))), (1956, (8, (0, (0, (0, []))))), (1957, (2, (3, (0, (0, []))))), (1958, (30, (245, (4, (0, [(1, 216)]))))), (1961, (3, (5, (0, (0, []))))), (1963, (2, (2, (0, (0, []))))), (1964, (2, (0, (0, (0, []))))), (1965, (1, (4, (0, (0, []))))), (1967, (0, (0, (0, (1, []))))), (1968, (17, (0, (0, (0, []))))), (1969, (8, (0, (0, (0, []))))), (1970, (2, (0, (0, (0, []))))), (1971, (1, (4, (0, (0, []))))), (1973, (0, (0, (0, (2, []))))), (1974, (17, (0, (0, (0, []))))), (1975, (8, (0, (0, (0, []))))), (1976, (30, (209, (3, (9, [(0, 218)]))))), (1979, (3, (6, (0, (0, []))))), (1981, (2, (2, (0, (0, []))))), (1982, (30, (133, (1, (9, [(0, 124)]))))), (1985, (1, (5, (0, (0, []))))), (1987, (19, (0, (1191, (0, []))))), (1990, (0, (0, (0, (0, []))))), (1991, (27, (1, (0, (0, []))))), (1992, (1, (5, (0, (0, []))))), (1994, (18, (1, (1202, (0, []))))), (1997, (2, (3, (0, (0, []))))), (1998, (0, (0, (0, (0, []))))), (1999, (14, (0, (0, (0, []))))), (2000, (1, (6, (0, (0, []))))), (2002, (24, (0, (0, (0, []))))), (2003, (26, (0, (0, (0, []))))), (2004, (18, (0, (1202, (0, []))))), (2007, (0, (0, (0, (0, []))))), (2008, (27, (1, (0, (0, []))))), (2009, (20, (0, (1466, (0, []))))), (2012, (2, (1, (0, (0, []))))), (2013, (2, (0, (0, (0, []))))), (2014, (1, (4, (0, (0, []))))), (2016, (0, (0, (0, (1, []))))), (2017, (17, (0, (0, (0, []))))), (2018, (8, (0, (0, (0, []))))), (2019, (2, (0, (0, (0, []))))), (2020, (1, (4, (0, (0, []))))), (2022, (0, (0, (0, (2, []))))), (2023, (17, (0, (0, (0, []))))), (2024, (8, (0, (0, (0, []))))), (2025, (2, (3, (0, (0, []))))), (2026, (30, (246, (4, (0, [(1, 219)]))))), (2029, (3, (5, (0, (0, []))))), (2031, (2, (2, (0, (0, []))))), (2032, (2, (0, (0, (0, []))))), (2033, (1, (4, (0, (0, []))))), (2035, (0, (0, (0, (1, []))))), (2036, (17, (0, (0, (0, []))))), (2037, (8, (0, (0, (0, []))))), (2038, (2, (0, (0, (0, []))))), (2039, (1, (4, (0, (0, []))))), (2041, (0, (0, (0, (2, []))))), (2042, (17, (0, (0, (0, []))))), (2043, (8, (0, (0, (0, []))))), (2044, (30, (210, (3, (9, [(0, 221)]))))), (2047, (3, (6, (0, (0, []))))), (2049, (2, (2, (0, (0, []))))), (2050, (30, (133, (1, (9, [(0, 124)]))))), (2053, (1, (5, (0, (0, []))))), (2055, (19, (0, (1236, (0, []))))), (2058, (0, (0, (0, (0, []))))), (2059, (27, (1, (0, (0, []))))), (2060, (1, (5, (0, (0, []))))), (2062, (18, (1, (1247, (0, []))))), (2065, (2, (3, (0, (0, []))))), (2066, (0, (0, (0, (0, []))))), (2067, (14, (0, (0, (0, []))))), (2068, (1, (6, (0, (0, []))))), (2070, (24, (0, (0, (0, []))))), (2071, (26, (0, (0, (0, []))))), (2072, (18, (0, (1247, (0, []))))), (2075, (0, (0, (0, (0, []))))), (2076, (27, (1, (0, (0, []))))), (2077, (20, (0, (1466, (0, []))))), (2080, (2, (1, (0, (0, []))))), (2081, (2, (0, (0, (0, []))))), (2082, (1, (4, (0, (0, []))))), (2084, (0, (0, (0, (1, []))))), (2085, (17, (0, (0, (0, []))))), (2086, (8, (0, (0, (0, []))))), (2087, (2, (0, (0, (0, []))))), (2088, (1, (4, (0, (0, []))))), (2090, (0, (0, (0, (2, []))))), (2091, (17, (0, (0, (0, []))))), (2092, (8, (0, (0, (0, []))))), (2093, (2, (3, (0, (0, []))))), (2094, (30, (247, (4, (0, [(1, 222)]))))), (2097, (3, (5, (0, (0, []))))), (2099, (2, (2, (0, (0, []))))), (2100, (2, (0, (0, (0, []))))), (2101, (1, (4, (0, (0, []))))), (2103, (0, (0, (0, (1, []))))), (2104, (17, (0, (0, (0, []))))), (2105, (8, (0, (0, (0, []))))), (2106, (2, (0, (0, (0, []))))), (2107, (1, (4, (0, (0, []))))), (2109, (0, (0, (0, (2, []))))), (2110, (17, (0, (0, (0, []))))), (2111, (8, (0, (0, (0, []))))), (2112, (30, (211, (3, (9, [(0, 224)]))))), (2115, (3, (6, (0, (0, []))))), (2117, (2, (2, (0, (0, []))))), (2118, (30, (133, (1, (9, [(0, 124)]))))), (2121, (1, (5, (0, (0, []))))), (2123, (19, (0, (1281, (0, []))))), (2126, (0, (0, (0, (0, []))))), (2127, (27, (1, (0, (0, []))))), (2128, (1, (5, (0, (0, []))))), (2130, (18, (1, (1292, (0, []))))), (2133, (2, (3, (0, (0, []))))), (2134, (0, (0, (0, (0, []))))), (2135, (14, (0, (0, (0, []))))), (2136, (1, (6, (0, (0, []))))), (2138, (24, (0, (0, (0, []))))), (2139, (26, (0, (0, (0, []))))), (2140, (18, (0, (1292, (0, []))))), (2143, (0, (0, (0, (0, []))))), (2144, (27, (1, (0, (0, []))))), (2145, (20, (0, (1466, (0, []))))), (2148, (2, (1, (0, (0, []))))), (2149, (2, (0, (0, (0, []))))), (2150, (1, (4, (0, (0, []))))), (2152, (0, (0, (0, (1, []))))), (2153, (17, (0, (0, (0, []))))), (2154, (8, (0, (0, (0, []))))), (2155, (2, (0, (0, (0, []))))), (2156, (1, (4, (0, (0, []))))), (2158, (0, (0, (0, (2, []))))), (2159, (17, (0, (0, (0, []))))), (2160, (8, (0, (0, (0, []))))), (2161, (2, (3, (0, (0, []))))), (2162, (30, (248, (4, (0, [(1, 225)]))))), (2165, (3, (5, (0, (0, []))))), (2167, (2, (2, (0, (0, []))))), (2168, (2, (0, (0, (0, []))))), (2169, (1, (4, (0, (0, []))))), (2171, (0, (0, (0, (1, []))))), (2172, (17, (0, (0, (0, []))))), (2173, (8, (0, (0, (0, []))))), (2174, (2, (0, (0, (0, []))))), (2175, (1, (4, (0, (0, []))))), (2177, (0, (0, (0, (2, []))))), (2178, (17, (0, (0, (0, []))))), (2179, (8, (0, (0, (0, []))))), (2180, (30, (212, (3, (9, [(0, 227)]))))), (2183, (3, (6, (0, (0, []))))), (2185, (2, (2, (0, (0, []))))), (2186, (30, (133, (1, (9, [(0, 124)]))))), (2189, (1, (5, (0, (0, []))))), (2191, (19, (0, (1326, (0, []))))), (2194, (0, (0, (0, (0, []))))), (2195, (27, (1, (0, (0, []))))), (2196, (1, (5, (0, (0, []))))), (2198, (18, (1, (1337, (0, []))))), (2201, (2, (3, (0, (0, []))))), (2202, (0, (0, (0, (0, []))))), (2203, (14, (0, (0, (0, []))))), (2204, (1, (6, (0, (0, []))))), (2206, (24, (0, (0, (0, []))))), (2207, (26, (0, (0, (0, []))))), (2208, (18, (0, (1337, (0, []))))), (2211, (0, (0, (0, (0, []))))), (2212, (27, (1, (0, (0, []))))), (2213, (20, (0, (1466, (0, []))))), (2216, (2, (1, (0, (0, []))))), (2217, (30, (110, (1, (8, [(0, 228)]))))), (2220, (2, (2, (0, (0, []))))), (2221, (30, (213, (1, (9, [(0, 231)]))))), (2224, (19, (0, (1466, (0, []))))), (2227, (0, (0, (0, (0, []))))), (2228, (27, (1, (0, (0, []))))), (2229, (2, (1, (0, (0, []))))), (2230, (2, (0, (0, (0, []))))), (2231, (1, (4, (0, (0, []))))), (2233, (0, (0, (0, (1, []))))), (2234, (17, (0, (0, (0, []))))), (2235, (8, (0, (0, (0, []))))), (2236, (2, (0, (0, (0, []))))), (2237, (1, (4, (0, (0, []))))), (2239, (0, (0, (0, (2, []))))), (2240, (17, (0, (0, (0, []))))), (2241, (8, (0, (0, (0, []))))), (2242, (2, (3, (0, (0, []))))), (2243, (30, (249, (4, (0, [(1, 232)]))))), (2246, (3, (5, (0, (0, []))))), (2248, (2, (2, (0, (0, []))))), (2249, (2, (0, (0, (0, []))))), (2250, (1, (4, (0, (0, []))))), (2252, (0, (0, (0, (1, []))))), (2253, (17, (0, (0, (0, []))))), (2254, (8, (0, (0, (0, []))))), (2255, (2, (0, (0, (0, []))))), (2256, (1, (4, (0, (0, []))))), (2258, (0, (0, (0, (2, []))))), (2259, (17, (0, (0, (0, []))))), (2260, (8, (0, (0, (0, []))))), (2261, (30, (215, (3, (9, [(0, 234)]))))), (2264, (3, (6, (0, (0, []))))), (2266, (2, (2, (0, (0, []))))), (2267, (30, (133, (1, (9, [(0, 124)]))))), (2270, (1, (5, (0, (0, []))))), (2272, (19, (0, (1378, (0, []))))), (2275, (0, (0, (0, (0, []))))), (2276, (27, (1, (0, (0, []))))), (2277, (1, (5, (0, (0, []))))), (2279, (18, (1, (1389, (0, []))))), (2282, (2, (3, (0, (0, []))))), (2283, (0, (0, (0, (0, []))))), (2284, (14, (0, (0, (0, []))))), (2285, (1, (6, (0, (0, []))))), (2287, (24, (0, (0, (0, []))))), (2288, (26, (0, (0, (0, []))))), (2289, (18, (0, (1389, (0, []))))), (2292, (0, (0, (0, (0, []))))), (2293, (27, (1, (0, (0, []))))), (2294, (20, (0, (1466, (0, []))))), (2297, (2, (1, (0, (0, []))))), (2298, (2, (0, (0, (0, []))))), (2299, (1, (4, (0, (0, []))))), (2301, (0, (0, (0, (1, []))))), (2302, (17, (0, (0, (0, []))))), (2303, (8, (0, (0, (0, []))))), (2304, (2, (0, (0, (0, []))))), (2305, (1, (4, (0, (0, []))))), (2307, (0, (0, (0, (2, []))))), (2308, (17, (0, (0, (0, []))))), (2309, (8, (0, (0, (0, []))))), (2310, (2, (3, (0, (0, []))))), (2311, (30, (250, (4, (0, [(1, 235)]))))), (2314, (3, (5, (0, (0, []))))), (2316, (2, (2, (0, (0, []))))), (2317, (2, (0, (0, (0, []))))), (2318, (1, (4, (0, (0, []))))), (2320, (0, (0, (0, (1, []))))), (2321, (17, (0, (0, (0, []))))), (2322, (8, (0, (0, (0, []))))), (2323, (2, (0, (0, (0, []))))), (2324, (1, (4, (0, (0, []))))), (2326, (0, (0, (0, (2, []))))), (2327, (17, (0, (0, (0, []))))), (2328, (8, (0, (0, (0, []))))), (2329, (30, (216, (3, (9, [(0, 237)]))))), (2332, (3, (6, (0, (0, []))))), (2334, (2, (2, (0, (0, []))))), (2335, (30, (133, (1, (9, [(0, 124)]))))), (2338, (1, (5, (0, (0, []))))), (2340, (19, (0, (1423, (0, []))))), (2343, (0, (0, (0, (0, []))))), (2344, (27, (1, (0, (0, []))))), (2345, (1, (5, (0, (0, []))))), (2347, (18, (1, (1434, (0, []))))), (2350, (2, (3, (0, (0, []))))), (2351, (0, (0, (0, (0, []))))), (2352, (14, (0, (0, (0, []))))), (2353, (1, (6, (0, (0, []))))), (2355, (24, (0, (0, (0, []))))), (2356, (26, (0, (0, (0, []))))), (2357, (18, (0, (1434, (0, []))))), (2360, (0, (0, (0, (0, []))))), (2361, (27, (1, (0, (0, []))))), (2362, (20, (0, (1466, (0, []))))), (2365, (2, (1, (0, (0, []))))), (2366, (30, (113, (1, (8, [(0, 238)]))))), (2369, (2, (2, (0, (0, []))))), (2370, (30, (219, (1, (9, [(0, 241)]))))), (2373, (19, (0, (1466, (0, []))))), (2376, (0, (0, (0, (0, []))))), (2377, (27, (1, (0, (0, []))))), (2378, (2, (1, (0, (0, []))))), (2379, (30, (114, (1, (8, [(0, 242)]))))), (2382, (2, (2, (0, (0, []))))), (2383, (30, (220, (1, (9, [(0, 245)]))))), (2386, (19, (0, (1466, (0, []))))), (2389, (0, (0, (0, (0, []))))), (2390, (27, (1, (0, (0, []))))), (2391, (2, (1, (0, (0, []))))), (2392, (2, (0, (0, (0, []))))), (2393, (1, (4, (0, (0, []))))), (2395, (0, (0, (0, (1, []))))), (2396, (17, (0, (0, (0, []))))), (2397, (8, (0, (0, (0, []))))), (2398, (30, (115, (2, (8, [(0, 246)]))))), (2401, (2, (2, (0, (0, []))))), (2402, (2, (0, (0, (0, []))))), (2403, (1, (4, (0, (0, []))))), (2405, (0, (0, (0, (1, []))))), (2406, (17, (0, (0, (0, []))))), (2407, (8, (0, (0, (0, []))))), (2408, (30, (221, (2, (9, [(0, 249)]))))), (2411, (19, (0, (1466, (0, []))))), (2414, (0, (0, (0, (0, []))))), (2415, (27, (1, (0, (0, []))))), (2416, (5, (4, (0, (7, []))))), (2419, (20, (0, (13, (0, []))))), (2422, (0, (0, (0, (1, []))))), (2423, (27, (1, (0, (0, [])))))], ([], 7))
noncomputable def m_all0 : List m_Md := [m_X0_init, m_X0_setTo, m_X0_latestHolder, m_X0_hasPassed, m_X0_nameHand, m_X0_ask, m_X0_dropQuestion, m_X0_suppose, m_X0_tell, m_X1_init, m_X1_reckon, m_X1_clear, m_X1_claimOn, m_X1_payUp, m_X1_payOwner, m_X1_titleFor, m_X2_init, m_X2_setTo, m_X2_add, m_X2_all, m_X2_allOf, m_X2_lostLast, m_X3_init, m_X3_clear, m_X3_setTo, m_X3_entry, m_X3_hasFact, m_X3_tellFact, m_X4_init, m_X4_clear, m_X4_isFull, m_X4_beginClause]
noncomputable def m_all1 : List m_Md := [m_X4_include, m_X4_addStep, m_X4_holdsFor, m_X4_owedFor, m_X4_claimFor, m_X4_allows, m_X4_doubles, m_X4_isFor, m_X4_has, m_X4_work, m_X4_join, m_X5_init, m_X5_readLaw, m_X5_readClause, m_X5_readMixing, m_X5_readKeeping, m_X5_readHarms, m_X5_readHarm, m_X5_readTerms, m_X5_readTerm, m_X5_readEither, m_X5_readBoth, m_X5_readCondition, m_X5_readNot, m_X5_readComparison, m_X5_readSum, m_X5_readProduct, m_X5_readUnit, m_X5_readNumber, m_X5_readChoice, m_X5_enter, m_X5_leave]
noncomputable def m_all2 : List m_Md := [m_X5_take, m_X5_takeWord, m_X5_isNumber, m_X5_fail, m_X5_nextToken, m_X5_isLetter, m_X5_isDigit, m_X5_isWord, m_X5_wordOf, m_X5_isSame, m_X5_bitsOf, m_X6_init, m_X6_setTo, m_X7_init, m_X7_feed, m_X7_law, m_X7_fault, m_X7_force, m_X7_words, m_X7_lets, m_X7_pass, m_X7_hand, m_X7_value, m_X7_purse, m_X7_fact, m_X7_harm, m_X7_holder, m_X7_name, m_X7_claim, m_X7_whom, m_X7_pays, m_X7_bears]
noncomputable def m_all3 : List m_Md := [m_X7_must, m_X7_frees, m_X7_question, m_X7_inCase, m_X7_sure, m_X7_cases, m_X7_hangs, m_X7_least, m_X7_find, m_X7_title, m_X7_found, m_X7_put, m_X7_share, m_X7_judge, m_X7_wrong, m_X7_parting, m_X7_beside, m_X7_image, m_X7_restore, m_X7_count, m_X7_need, m_X7_needHand, m_X7_isWithin, m_X7_isLaw, m_X7_lawInForce, m_X7_layOnTape, m_X7_keepingOfCase, m_X7_harmOfCase, m_X7_nameCase, m_X7_allCases, m_X7_reckonCases, m_X7_isBurdened]
noncomputable def m_all4 : List m_Md := [m_X7_burdenedCases, m_X7_casesLikeBit, m_X7_matters, m_X7_areBorneAlike, m_X8_init, m_X8_thrown, m_X8_bad, m_X8_in, m_X8_less, m_X8_feed, m_X8_byteAt, m_X8_blanks, m_X8_wrongAt, m_X8_isDigit, m_X8_number, m_X8_wordHere, m_X8_isAnswers, m_X8_word, m_X8_isWord, m_X8_skipWord, m_X8_sign, m_X8_opens, m_X8_nameHere, m_X8_unit, m_X8_product, m_X8_sum, m_X8_test, m_X8_ands, m_X8_ors, m_X8_keepingHere, m_X8_harmHere, m_X8_harms]
noncomputable def m_all5 : List m_Md := [m_X8_terms, m_X8_clause, m_X8_mixes, m_X8_says, m_X8_walks, m_X8_law, m_X8_fault, m_X8_force, m_X8_asks, m_X8_tellsBits, m_X8_words, m_X8_lets, m_X8_pass, m_X8_isHand, m_X8_hand, m_X8_value, m_X8_purse, m_X8_fact, m_X8_harm, m_X8_findHolder, m_X8_hasPassed, m_X8_tellsNames, m_X8_ends, m_X8_holder, m_X8_isWithin, m_X8_name, m_X8_claim, m_X8_whom, m_X8_pays, m_X8_bears, m_X8_must, m_X8_frees]
noncomputable def m_all6 : List m_Md := [m_X8_question, m_X8_goesInto, m_X8_comesBack, m_X8_caseMany, m_X8_findCases, m_X8_inCase, m_X8_casesOf, m_X8_sure, m_X8_cases, m_X8_hangs, m_X8_ones, m_X8_areAlike, m_X8_settles, m_X8_least, m_X8_find, m_X8_titleNow, m_X8_title, m_X8_found, m_X8_put, m_X8_share, m_X8_judge, m_X8_wrong, m_X8_claimIn, m_X8_parting, m_X8_beside, m_X8_moves, m_X8_movesAll, m_X8_image, m_X8_restore, m_X8_count, m_L_law, m_L_force]
noncomputable def m_all7 : List m_Md := [m_L_words, m_L_lets, m_L_pass, m_L_hand, m_L_value, m_L_purse, m_L_fact, m_L_harm, m_L_name, m_L_claim, m_L_whom, m_L_pays, m_L_bears, m_L_must, m_L_frees, m_L_question, m_L_inCase, m_L_sure, m_L_cases, m_L_hangs, m_L_find, m_L_found, m_L_put, m_L_share, m_L_judge, m_L_parting, m_L_beside, m_L_law_]
noncomputable def m_all : List m_Md := m_all0 ++ (m_all1 ++ (m_all2 ++ (m_all3 ++ (m_all4 ++ (m_all5 ++ (m_all6 ++ (m_all7)))))))
noncomputable def m_md (m : Nat) : m_Md := m_all.getD m ([], ([], 0))
def m_born9 : List (List Nat) := [[1, 0, 0, 0, 0, 0, 1, 0, 1], [1, 1, 1, 1, 1, 1, 1, 0], [0, 1, 1], [0, 0, 0, 0, 0, 0, 0, 0], [0, 0, 1, 1, 1, 1, 1, 1, 0, 1], [0, 0, 1, 0, 1, 0, 0, 0, 0, 0], [0, 0, 0], [1, 0, 1, 0, 1, 1, 0, 1, 1, 1, 1, 0, 1, 1], [0, 0, 0, 0, 0, 0, 0, 0, 0, 1, 1, 1, 0, 0, 1, 0, 0, 0, 0, 0, 0, 0, 0, 0, 0, 0, 0, 0, 0, 0, 1, 1, 1, 1, 0, 1, 1, 1, 1, 1, 1, 1, 1, 0, 1, 1, 0, 0, 1, 0, 0, 1, 0, 1]]
def m_text : List (List Nat) := [[102, 114, 101, 101, 32, 112, 97, 105, 100, 32, 108, 101, 110, 116, 32, 104, 105, 114, 101, 100, 32, 112, 108, 101, 100, 103, 101, 32, 119, 111, 114, 107, 32, 97, 110, 121], [109, 105, 120, 101, 100], [112, 97, 114, 116, 115, 32, 108, 97, 115, 116], [97, 110, 115, 119, 101, 114, 115, 32, 115, 119, 101, 97, 114, 115, 32, 111, 119, 101, 115, 32, 108, 101, 116, 115, 32, 116, 119, 105, 99, 101], [119, 111, 114, 110, 32, 104, 117, 114, 116, 32, 100, 105, 101, 100, 32, 108, 111, 115, 116, 32, 115, 116, 111, 108, 101, 110, 32, 102, 111, 114, 99, 101, 100, 32, 97, 108, 108], [105, 102], [111, 114], [97, 110, 100], [110, 111, 116], [108, 101, 97, 115, 116, 32, 109, 111, 115, 116], [102, 97, 117, 108, 116, 32, 116, 104, 101, 114, 101, 32, 117, 115, 101, 32, 108, 97, 116, 101, 32, 112, 97, 115, 115, 101, 100, 32, 116, 101, 114, 109, 32, 118, 97, 108, 117, 101, 32, 100, 97, 121, 115]]
noncomputable def m_prog (X : m_X) : m_P := (X, (m_text, (m_born9, m_md)))
end
section
/-! WHAT THE METHODS ARE and which words of the tables link them; written by a program (wip/whole/gen_05.py). -/
noncomputable def m_ws : List Cond := lw_tbl.filter goodWord
def m_cns : List String := [RX0, RX1, RX2, RX3, RX4, RX5, RX6, RX7, RX8, RL]
def m_cn (c : Nat) : String := m_cns.getD c ""
abbrev m_In : Type := MethodName × (ByteArray × (Nat × (Option FieldType × (Nat × List (Nat × Nat × Nat × Nat)))))
noncomputable def m_inf0 : List m_In := [(yX0_init, (cX0_init, (2, (none, (0, []))))), (yX0_setTo, (cX0_setTo, (3, (none, (0, []))))), (yX0_latestHolder, (cX0_latestHolder, (3, (some .int, (0, []))))), (yX0_hasPassed, (cX0_hasPassed, (3, (some .boolean, (0, []))))), (yX0_nameHand, (cX0_nameHand, (7, (none, (0, []))))), (yX0_ask, (cX0_ask, (5, (some .int, (0, []))))), (yX0_dropQuestion, (cX0_dropQuestion, (3, (none, (0, []))))), (yX0_suppose, (cX0_suppose, (4, (none, (0, []))))), (yX0_tell, (cX0_tell, (4, (none, (0, []))))), (yX1_init, (cX1_init, (1, (none, (1, []))))), (yX1_reckon, (cX1_reckon, (4, (none, (1, []))))), (yX1_clear, (cX1_clear, (2, (none, (1, []))))), (yX1_claimOn, (cX1_claimOn, (6, (none, (1, []))))), (yX1_payUp, (cX1_payUp, (3, (none, (1, []))))), (yX1_payOwner, (cX1_payOwner, (3, (none, (1, []))))), (yX1_titleFor, (cX1_titleFor, (5, (some .int, (1, []))))), (yX2_init, (cX2_init, (1, (none, (2, []))))), (yX2_setTo, (cX2_setTo, (2, (none, (2, []))))), (yX2_add, (cX2_add, (3, (some .boolean, (2, []))))), (yX2_all, (cX2_all, (3, (some .int, (2, []))))), (yX2_allOf, (cX2_allOf, (2, (some .int, (2, []))))), (yX2_lostLast, (cX2_lostLast, (7, (some .int, (2, []))))), (yX3_init, (cX3_init, (1, (none, (3, []))))), (yX3_clear, (cX3_clear, (1, (none, (3, []))))), (yX3_setTo, (cX3_setTo, (2, (none, (3, []))))), (yX3_entry, (cX3_entry, (2, (some .int, (3, []))))), (yX3_hasFact, (cX3_hasFact, (2, (some .boolean, (3, []))))), (yX3_tellFact, (cX3_tellFact, (4, (none, (3, []))))), (yX4_init, (cX4_init, (1, (none, (4, []))))), (yX4_clear, (cX4_clear, (1, (none, (4, []))))), (yX4_isFull, (cX4_isFull, (1, (some .boolean, (4, []))))), (yX4_beginClause, (cX4_beginClause, (3, (none, (4, [])))))]
noncomputable def m_inf1 : List m_In := [(yX4_include, (cX4_include, (2, (none, (4, []))))), (yX4_addStep, (cX4_addStep, (2, (none, (4, []))))), (yX4_holdsFor, (cX4_holdsFor, (6, (some .boolean, (4, []))))), (yX4_owedFor, (cX4_owedFor, (4, (some .int, (4, []))))), (yX4_claimFor, (cX4_claimFor, (5, (some .int, (4, []))))), (yX4_allows, (cX4_allows, (4, (some .boolean, (4, []))))), (yX4_doubles, (cX4_doubles, (3, (some .boolean, (4, []))))), (yX4_isFor, (cX4_isFor, (4, (some .boolean, (4, []))))), (yX4_has, (cX4_has, (2, (some .boolean, (4, []))))), (yX4_work, (cX4_work, (6, (some .int, (4, []))))), (yX4_join, (cX4_join, (3, (some .int, (4, []))))), (yX5_init, (cX5_init, (1, (none, (5, []))))), (yX5_readLaw, (cX5_readLaw, (6, (some .int, (5, []))))), (yX5_readClause, (cX5_readClause, (3, (some .boolean, (5, []))))), (yX5_readMixing, (cX5_readMixing, (2, (some .boolean, (5, []))))), (yX5_readKeeping, (cX5_readKeeping, (3, (some .boolean, (5, []))))), (yX5_readHarms, (cX5_readHarms, (3, (some .boolean, (5, []))))), (yX5_readHarm, (cX5_readHarm, (2, (some .boolean, (5, []))))), (yX5_readTerms, (cX5_readTerms, (3, (some .boolean, (5, []))))), (yX5_readTerm, (cX5_readTerm, (1, (some .boolean, (5, []))))), (yX5_readEither, (cX5_readEither, (3, (some .boolean, (5, []))))), (yX5_readBoth, (cX5_readBoth, (3, (some .boolean, (5, []))))), (yX5_readCondition, (cX5_readCondition, (1, (some .boolean, (5, []))))), (yX5_readNot, (cX5_readNot, (1, (some .boolean, (5, []))))), (yX5_readComparison, (cX5_readComparison, (3, (some .boolean, (5, []))))), (yX5_readSum, (cX5_readSum, (4, (some .boolean, (5, []))))), (yX5_readProduct, (cX5_readProduct, (4, (some .boolean, (5, []))))), (yX5_readUnit, (cX5_readUnit, (3, (some .boolean, (5, []))))), (yX5_readNumber, (cX5_readNumber, (1, (some .boolean, (5, []))))), (yX5_readChoice, (cX5_readChoice, (3, (some .boolean, (5, []))))), (yX5_enter, (cX5_enter, (1, (some .boolean, (5, []))))), (yX5_leave, (cX5_leave, (2, (some .boolean, (5, [])))))]
noncomputable def m_inf2 : List m_In := [(yX5_take, (cX5_take, (2, (some .boolean, (5, []))))), (yX5_takeWord, (cX5_takeWord, (2, (some .boolean, (5, []))))), (yX5_isNumber, (cX5_isNumber, (3, (some .boolean, (5, []))))), (yX5_fail, (cX5_fail, (2, (some .boolean, (5, []))))), (yX5_nextToken, (cX5_nextToken, (1, (none, (5, []))))), (yX5_isLetter, (cX5_isLetter, (1, (some .boolean, (5, []))))), (yX5_isDigit, (cX5_isDigit, (1, (some .boolean, (5, []))))), (yX5_isWord, (cX5_isWord, (2, (some .boolean, (5, []))))), (yX5_wordOf, (cX5_wordOf, (5, (some .int, (5, []))))), (yX5_isSame, (cX5_isSame, (5, (some .boolean, (5, []))))), (yX5_bitsOf, (cX5_bitsOf, (2, (some .int, (5, []))))), (yX6_init, (cX6_init, (1, (none, (6, []))))), (yX6_setTo, (cX6_setTo, (2, (none, (6, []))))), (yX7_init, (cX7_init, (2, (none, (7, []))))), (yX7_feed, (cX7_feed, (6, (some .int, (7, []))))), (yX7_law, (cX7_law, (3, (some .int, (7, []))))), (yX7_fault, (cX7_fault, (1, (some .int, (7, []))))), (yX7_force, (cX7_force, (3, (some .int, (7, []))))), (yX7_words, (cX7_words, (9, (some .int, (7, []))))), (yX7_lets, (cX7_lets, (4, (some .boolean, (7, []))))), (yX7_pass, (cX7_pass, (7, (some .int, (7, []))))), (yX7_hand, (cX7_hand, (3, (some .int, (7, []))))), (yX7_value, (cX7_value, (3, (some .int, (7, []))))), (yX7_purse, (cX7_purse, (4, (some .int, (7, []))))), (yX7_fact, (cX7_fact, (5, (some .boolean, (7, []))))), (yX7_harm, (cX7_harm, (4, (some .int, (7, []))))), (yX7_holder, (cX7_holder, (1, (some .int, (7, []))))), (yX7_name, (cX7_name, (4, (some .int, (7, []))))), (yX7_claim, (cX7_claim, (2, (some .int, (7, []))))), (yX7_whom, (cX7_whom, (2, (some .int, (7, []))))), (yX7_pays, (cX7_pays, (2, (some .int, (7, []))))), (yX7_bears, (cX7_bears, (2, (some .int, (7, [])))))]
noncomputable def m_inf3 : List m_In := [(yX7_must, (cX7_must, (2, (some .boolean, (7, []))))), (yX7_frees, (cX7_frees, (3, (some .int, (7, []))))), (yX7_question, (cX7_question, (4, (some .int, (7, []))))), (yX7_inCase, (cX7_inCase, (3, (some .int, (7, []))))), (yX7_sure, (cX7_sure, (3, (some .int, (7, []))))), (yX7_cases, (cX7_cases, (2, (some .int, (7, []))))), (yX7_hangs, (cX7_hangs, (4, (some .int, (7, []))))), (yX7_least, (cX7_least, (3, (some .int, (7, []))))), (yX7_find, (cX7_find, (4, (some .int, (7, []))))), (yX7_title, (cX7_title, (1, (some .int, (7, []))))), (yX7_found, (cX7_found, (4, (some .int, (7, []))))), (yX7_put, (cX7_put, (3, (some .int, (7, []))))), (yX7_share, (cX7_share, (4, (some .int, (7, []))))), (yX7_judge, (cX7_judge, (4, (some .int, (7, []))))), (yX7_wrong, (cX7_wrong, (2, (some .int, (7, []))))), (yX7_parting, (cX7_parting, (6, (some .int, (7, []))))), (yX7_beside, (cX7_beside, (3, (some .int, (7, []))))), (yX7_image, (cX7_image, (1, (some .int, (7, []))))), (yX7_restore, (cX7_restore, (1, (some .int, (7, []))))), (yX7_count, (cX7_count, (2, (some .int, (7, []))))), (yX7_need, (cX7_need, (1, (none, (7, []))))), (yX7_needHand, (cX7_needHand, (2, (none, (7, []))))), (yX7_isWithin, (cX7_isWithin, (2, (some .boolean, (7, []))))), (yX7_isLaw, (cX7_isLaw, (2, (some .boolean, (7, []))))), (yX7_lawInForce, (cX7_lawInForce, (1, (some (.object RX4), (7, []))))), (yX7_layOnTape, (cX7_layOnTape, (3, (none, (7, []))))), (yX7_keepingOfCase, (cX7_keepingOfCase, (1, (some .int, (7, []))))), (yX7_harmOfCase, (cX7_harmOfCase, (1, (some .int, (7, []))))), (yX7_nameCase, (cX7_nameCase, (6, (none, (7, []))))), (yX7_allCases, (cX7_allCases, (1, (some .int, (7, []))))), (yX7_reckonCases, (cX7_reckonCases, (2, (none, (7, []))))), (yX7_isBurdened, (cX7_isBurdened, (3, (some .boolean, (7, [])))))]
noncomputable def m_inf4 : List m_In := [(yX7_burdenedCases, (cX7_burdenedCases, (4, (some .int, (7, []))))), (yX7_casesLikeBit, (cX7_casesLikeBit, (5, (some .int, (7, []))))), (yX7_matters, (cX7_matters, (3, (some .boolean, (7, []))))), (yX7_areBorneAlike, (cX7_areBorneAlike, (4, (some .boolean, (7, []))))), (yX8_init, (cX8_init, (2, (none, (8, []))))), (yX8_thrown, (cX8_thrown, (1, (some .int, (8, []))))), (yX8_bad, (cX8_bad, (3, (some .boolean, (8, []))))), (yX8_in, (cX8_in, (3, (some .boolean, (8, []))))), (yX8_less, (cX8_less, (2, (some .int, (8, []))))), (yX8_feed, (cX8_feed, (8, (some .int, (8, []))))), (yX8_byteAt, (cX8_byteAt, (2, (some .int, (8, []))))), (yX8_blanks, (cX8_blanks, (1, (none, (8, []))))), (yX8_wrongAt, (cX8_wrongAt, (3, (none, (8, []))))), (yX8_isDigit, (cX8_isDigit, (1, (some .boolean, (8, []))))), (yX8_number, (cX8_number, (5, (some .int, (8, []))))), (yX8_wordHere, (cX8_wordHere, (3, (some .int, (8, []))))), (yX8_isAnswers, (cX8_isAnswers, (1, (some .boolean, (8, []))))), (yX8_word, (cX8_word, (7, (some .int, (8, []))))), (yX8_isWord, (cX8_isWord, (7, (some .boolean, (8, []))))), (yX8_skipWord, (cX8_skipWord, (1, (none, (8, []))))), (yX8_sign, (cX8_sign, (2, (none, (8, []))))), (yX8_opens, (cX8_opens, (2, (none, (8, []))))), (yX8_nameHere, (cX8_nameHere, (1, (some .int, (8, []))))), (yX8_unit, (cX8_unit, (6, (some .int, (8, []))))), (yX8_product, (cX8_product, (4, (some .int, (8, []))))), (yX8_sum, (cX8_sum, (4, (some .int, (8, []))))), (yX8_test, (cX8_test, (4, (some .boolean, (8, []))))), (yX8_ands, (cX8_ands, (3, (some .boolean, (8, []))))), (yX8_ors, (cX8_ors, (3, (some .boolean, (8, []))))), (yX8_keepingHere, (cX8_keepingHere, (1, (some .int, (8, []))))), (yX8_harmHere, (cX8_harmHere, (1, (some .int, (8, []))))), (yX8_harms, (cX8_harms, (4, (some .boolean, (8, [])))))]
noncomputable def m_inf5 : List m_In := [(yX8_terms, (cX8_terms, (3, (some .boolean, (8, []))))), (yX8_clause, (cX8_clause, (3, (none, (8, []))))), (yX8_mixes, (cX8_mixes, (3, (none, (8, []))))), (yX8_says, (cX8_says, (6, (none, (8, []))))), (yX8_walks, (cX8_walks, (1, (none, (8, []))))), (yX8_law, (cX8_law, (3, (some .int, (8, []))))), (yX8_fault, (cX8_fault, (1, (some .int, (8, []))))), (yX8_force, (cX8_force, (3, (some .int, (8, []))))), (yX8_asks, (cX8_asks, (5, (none, (8, []))))), (yX8_tellsBits, (cX8_tellsBits, (3, (none, (8, []))))), (yX8_words, (cX8_words, (7, (some .int, (8, []))))), (yX8_lets, (cX8_lets, (5, (some .boolean, (8, []))))), (yX8_pass, (cX8_pass, (7, (some .int, (8, []))))), (yX8_isHand, (cX8_isHand, (2, (some .boolean, (8, []))))), (yX8_hand, (cX8_hand, (3, (some .int, (8, []))))), (yX8_value, (cX8_value, (3, (some .int, (8, []))))), (yX8_purse, (cX8_purse, (4, (some .int, (8, []))))), (yX8_fact, (cX8_fact, (5, (some .boolean, (8, []))))), (yX8_harm, (cX8_harm, (4, (some .int, (8, []))))), (yX8_findHolder, (cX8_findHolder, (2, (none, (8, []))))), (yX8_hasPassed, (cX8_hasPassed, (2, (some .boolean, (8, []))))), (yX8_tellsNames, (cX8_tellsNames, (4, (none, (8, []))))), (yX8_ends, (cX8_ends, (4, (none, (8, []))))), (yX8_holder, (cX8_holder, (1, (some .int, (8, []))))), (yX8_isWithin, (cX8_isWithin, (2, (some .boolean, (8, []))))), (yX8_name, (cX8_name, (3, (some .int, (8, []))))), (yX8_claim, (cX8_claim, (2, (some .int, (8, []))))), (yX8_whom, (cX8_whom, (2, (some .int, (8, []))))), (yX8_pays, (cX8_pays, (2, (some .int, (8, []))))), (yX8_bears, (cX8_bears, (2, (some .int, (8, []))))), (yX8_must, (cX8_must, (2, (some .boolean, (8, []))))), (yX8_frees, (cX8_frees, (3, (some .int, (8, [])))))]
noncomputable def m_inf6 : List m_In := [(yX8_question, (cX8_question, (4, (some .int, (8, []))))), (yX8_goesInto, (cX8_goesInto, (5, (none, (8, []))))), (yX8_comesBack, (cX8_comesBack, (3, (none, (8, []))))), (yX8_caseMany, (cX8_caseMany, (1, (some .int, (8, []))))), (yX8_findCases, (cX8_findCases, (3, (none, (8, []))))), (yX8_inCase, (cX8_inCase, (3, (some .int, (8, []))))), (yX8_casesOf, (cX8_casesOf, (4, (some .int, (8, []))))), (yX8_sure, (cX8_sure, (3, (some .int, (8, []))))), (yX8_cases, (cX8_cases, (2, (some .int, (8, []))))), (yX8_hangs, (cX8_hangs, (7, (some .int, (8, []))))), (yX8_ones, (cX8_ones, (3, (some .int, (8, []))))), (yX8_areAlike, (cX8_areAlike, (4, (some .boolean, (8, []))))), (yX8_settles, (cX8_settles, (3, (some .boolean, (8, []))))), (yX8_least, (cX8_least, (3, (some .int, (8, []))))), (yX8_find, (cX8_find, (8, (some .int, (8, []))))), (yX8_titleNow, (cX8_titleNow, (4, (some .int, (8, []))))), (yX8_title, (cX8_title, (1, (some .int, (8, []))))), (yX8_found, (cX8_found, (3, (some .int, (8, []))))), (yX8_put, (cX8_put, (3, (some .int, (8, []))))), (yX8_share, (cX8_share, (8, (some .int, (8, []))))), (yX8_judge, (cX8_judge, (4, (some .int, (8, []))))), (yX8_wrong, (cX8_wrong, (2, (some .int, (8, []))))), (yX8_claimIn, (cX8_claimIn, (3, (some .int, (8, []))))), (yX8_parting, (cX8_parting, (4, (some .int, (8, []))))), (yX8_beside, (cX8_beside, (3, (some .int, (8, []))))), (yX8_moves, (cX8_moves, (5, (some .int, (8, []))))), (yX8_movesAll, (cX8_movesAll, (5, (none, (8, []))))), (yX8_image, (cX8_image, (1, (some .int, (8, []))))), (yX8_restore, (cX8_restore, (1, (some .int, (8, []))))), (yX8_count, (cX8_count, (2, (some .int, (8, []))))), (yL_law, (cL_law, (4, (some .int, (9, [(0, 9, 12, 13)]))))), (yL_force, (cL_force, (4, (some .int, (9, [(0, 9, 12, 13)])))))]
noncomputable def m_inf7 : List m_In := [(yL_words, (cL_words, (9, (some .int, (9, [(0, 18, 21, 13)]))))), (yL_lets, (cL_lets, (6, (some .int, (9, [(0, 19, 22, 13)]))))), (yL_pass, (cL_pass, (8, (some .int, (9, [(0, 16, 19, 13)]))))), (yL_hand, (cL_hand, (5, (some .int, (9, [(0, 10, 13, 34), (0, 10, 17, 13)]))))), (yL_value, (cL_value, (4, (some .int, (9, [(0, 9, 12, 13)]))))), (yL_purse, (cL_purse, (5, (some .int, (9, [(0, 10, 13, 34), (0, 10, 17, 13)]))))), (yL_fact, (cL_fact, (6, (some .int, (9, [(0, 19, 22, 34), (0, 19, 26, 13)]))))), (yL_harm, (cL_harm, (5, (some .int, (9, [(0, 10, 13, 13)]))))), (yL_name, (cL_name, (5, (some .int, (9, [(0, 10, 13, 34), (0, 10, 17, 13)]))))), (yL_claim, (cL_claim, (4, (some .int, (9, [(0, 9, 12, 34)]))))), (yL_whom, (cL_whom, (4, (some .int, (9, [(0, 9, 12, 34)]))))), (yL_pays, (cL_pays, (4, (some .int, (9, [(0, 9, 12, 34)]))))), (yL_bears, (cL_bears, (4, (some .int, (9, [(0, 9, 12, 34)]))))), (yL_must, (cL_must, (4, (some .int, (9, [(0, 16, 19, 34)]))))), (yL_frees, (cL_frees, (4, (some .int, (9, [(0, 9, 12, 34)]))))), (yL_question, (cL_question, (6, (some .int, (9, [(0, 12, 15, 34), (0, 12, 19, 13)]))))), (yL_inCase, (cL_inCase, (5, (some .int, (9, [(0, 10, 13, 34), (0, 10, 17, 13)]))))), (yL_sure, (cL_sure, (4, (some .int, (9, [(0, 9, 12, 34)]))))), (yL_cases, (cL_cases, (4, (some .int, (9, [(0, 9, 12, 34)]))))), (yL_hangs, (cL_hangs, (4, (some .int, (9, [(0, 9, 12, 34)]))))), (yL_find, (cL_find, (5, (some .int, (9, [(0, 10, 13, 34)]))))), (yL_found, (cL_found, (5, (some .int, (9, [(0, 10, 13, 34), (0, 10, 17, 13)]))))), (yL_put, (cL_put, (5, (some .int, (9, [(0, 10, 13, 13)]))))), (yL_share, (cL_share, (5, (some .int, (9, [(0, 10, 13, 13)]))))), (yL_judge, (cL_judge, (5, (some .int, (9, [(0, 10, 13, 34), (0, 10, 17, 13)]))))), (yL_parting, (cL_parting, (5, (some .int, (9, [(0, 10, 13, 13)]))))), (yL_beside, (cL_beside, (5, (some .int, (9, [(0, 10, 13, 34), (0, 10, 17, 13)]))))), (yL_law_, (cL_law_, (7, (some .boolean, (9, [])))))]
noncomputable def m_infs : List m_In := m_inf0 ++ (m_inf1 ++ (m_inf2 ++ (m_inf3 ++ (m_inf4 ++ (m_inf5 ++ (m_inf6 ++ (m_inf7)))))))
noncomputable def m_inf (m : Nat) : m_In := m_infs.getD m (yX0_init, (cX0_init, (0, (none, (0, [])))))
noncomputable abbrev m_y (m : Nat) : MethodName := (m_inf m).1
noncomputable abbrev m_cd (m : Nat) : ByteArray := (m_inf m).2.1
noncomputable abbrev m_mx (m : Nat) : Nat := (m_inf m).2.2.1
noncomputable abbrev m_rt (m : Nat) : Option FieldType := (m_inf m).2.2.2.1
noncomputable abbrev m_ow (m : Nat) : Nat := (m_inf m).2.2.2.2.1
noncomputable abbrev m_hh (m : Nat) : List (Nat × Nat × Nat × Nat) := (m_inf m).2.2.2.2.2
noncomputable def m_vc (c : Nat) : vw_C := vwCl.getD c (RX0, TX0, 9)
def m_flp : List (Nat × (Nat × (Nat × (Nat × Nat)))) := [(1204, (0, (11, (0, 0)))), (1207, (0, (17, (0, 1)))), (1209, (0, (21, (0, 2)))), (1212, (0, (24, (0, 3)))), (1217, (0, (27, (0, 5)))), (1219, (0, (32, (0, 6)))), (1223, (0, (39, (0, 8)))), (1221, (0, (49, (0, 7)))), (1215, (0, (58, (0, 4)))), (1151, (0, (61, (3, 1)))), (1160, (0, (64, (3, 4)))), (1154, (0, (71, (3, 2)))), (1148, (0, (78, (3, 0)))), (1157, (0, (81, (3, 3)))), (1191, (0, (89, (6, 0)))), (1194, (0, (92, (6, 1)))), (1196, (0, (95, (6, 2)))), (2011, (1, (9, (1, 0)))), (2013, (1, (15, (1, 1)))), (2015, (1, (18, (1, 2)))), (2017, (1, (21, (1, 3)))), (2019, (1, (24, (1, 4)))), (2021, (1, (28, (1, 5)))), (2022, (1, (31, (1, 6)))), (2023, (1, (43, (1, 7)))), (1210, (1, (55, (0, 2)))), (1205, (1, (62, (0, 0)))), (1147, (1, (72, (3, 0)))), (1213, (1, (77, (0, 3)))), (1163, (1, (96, (3, 5)))), (1128, (2, (9, (2, 1)))), (1129, (2, (15, (2, 2)))), (1126, (2, (18, (2, 0)))), (1146, (3, (14, (3, 0)))), (1150, (3, (18, (3, 1)))), (1153, (3, (21, (3, 2)))), (1156, (3, (24, (3, 3)))), (1159, (3, (27, (3, 4)))), (1162, (3, (30, (3, 5)))), (1165, (3, (33, (3, 6)))), (1167, (3, (36, (3, 7)))), (1036, (4, (9, (4, 0)))), (1040, (4, (15, (4, 2)))), (1041, (4, (19, (4, 3)))), (1042, (4, (22, (4, 4)))), (1043, (4, (25, (4, 5)))), (1044, (4, (28, (4, 6)))), (1045, (4, (31, (4, 7)))), (1047, (4, (34, (4, 9)))), (1039, (4, (37, (4, 1)))), (1046, (4, (40, (4, 8)))), (1078, (5, (9, (5, 0)))), (1081, (5, (15, (5, 2)))), (1083, (5, (22, (5, 4)))), (1082, (5, (32, (5, 3)))), (1080, (5, (38, (5, 1)))), (1088, (5, (41, (5, 9)))), (1086, (5, (44, (5, 7)))), (1084, (5, (50, (5, 5)))), (1037, (5, (94, (4, 0)))), (1087, (5, (132, (5, 8)))), (1085, (5, (178, (5, 6)))), (1190, (6, (7, (6, 0)))), (1193, (6, (13, (6, 1)))), (1195, (6, (16, (6, 2)))), (2042, (7, (9, (7, 0)))), (2044, (7, (15, (7, 2)))), (2046, (7, (20, (7, 4)))), (2047, (7, (27, (7, 5)))), (2048, (7, (31, (7, 6)))), (2049, (7, (35, (7, 7)))), (2050, (7, (41, (7, 8)))), (2051, (7, (45, (7, 9)))), (2052, (7, (48, (7, 10)))), (2054, (7, (55, (7, 12)))), (2055, (7, (59, (7, 13)))), (2043, (7, (62, (7, 1)))), (2045, (7, (77, (7, 3)))), (1079, (7, (84, (5, 0)))), (1218, (7, (91, (0, 5)))), (1208, (7, (119, (0, 1)))), (1206, (7, (122, (0, 0)))), (1152, (7, (126, (3, 1)))), (1149, (7, (134, (3, 0)))), (1155, (7, (137, (3, 2)))), (1158, (7, (140, (3, 3)))), (1161, (7, (143, (3, 4)))), (1211, (7, (152, (0, 2)))), (1164, (7, (155, (3, 5)))), (1214, (7, (165, (0, 3)))), (1216, (7, (168, (0, 4)))), (2012, (7, (187, (1, 0)))), (2014, (7, (190, (1, 1)))), (2016, (7, (193, (1, 2)))), (2018, (7, (196, (1, 3)))), (2020, (7, (199, (1, 4)))), (1222, (7, (224, (0, 7)))), (1220, (7, (241, (0, 6)))), (1192, (7, (245, (6, 0)))), (1224, (7, (260, (0, 8)))), (1038, (7, (272, (4, 0)))), (1166, (7, (281, (3, 6)))), (2053, (7, (288, (7, 11)))), (1127, (7, (291, (2, 0)))), (5123, (8, (9, (8, 3)))), (5129, (8, (13, (8, 9)))), (5130, (8, (19, (8, 10)))), (5131, (8, (22, (8, 11)))), (5133, (8, (25, (8, 13)))), (5134, (8, (28, (8, 14)))), (5146, (8, (31, (8, 26)))), (5147, (8, (34, (8, 27)))), (5148, (8, (37, (8, 28)))), (5150, (8, (40, (8, 30)))), (5151, (8, (43, (8, 31)))), (5152, (8, (46, (8, 32)))), (5153, (8, (51, (8, 33)))), (5155, (8, (54, (8, 35)))), (5156, (8, (57, (8, 36)))), (5157, (8, (60, (8, 37)))), (5158, (8, (63, (8, 38)))), (5159, (8, (66, (8, 39)))), (5160, (8, (69, (8, 40)))), (5161, (8, (73, (8, 41)))), (5162, (8, (76, (8, 42)))), (5164, (8, (79, (8, 44)))), (5165, (8, (82, (8, 45)))), (5168, (8, (85, (8, 48)))), (5171, (8, (88, (8, 51)))), (5173, (8, (91, (8, 53)))), (5120, (8, (94, (8, 0)))), (5121, (8, (97, (8, 1)))), (5122, (8, (100, (8, 2)))), (5128, (8, (103, (8, 8)))), (5124, (8, (106, (8, 4)))), (5126, (8, (113, (8, 6)))), (5127, (8, (116, (8, 7)))), (5125, (8, (147, (8, 5)))), (5136, (8, (192, (8, 16)))), (5137, (8, (195, (8, 17)))), (5138, (8, (201, (8, 18)))), (5135, (8, (207, (8, 15)))), (5140, (8, (214, (8, 20)))), (5142, (8, (220, (8, 22)))), (5141, (8, (224, (8, 21)))), (5143, (8, (227, (8, 23)))), (5139, (8, (230, (8, 19)))), (5144, (8, (236, (8, 24)))), (5145, (8, (239, (8, 25)))), (5132, (8, (249, (8, 12)))), (5149, (8, (268, (8, 29)))), (5154, (8, (271, (8, 34)))), (5163, (8, (289, (8, 43)))), (5166, (8, (292, (8, 46)))), (5167, (8, (295, (8, 47)))), (5169, (8, (326, (8, 49)))), (5170, (8, (329, (8, 50)))), (5172, (8, (339, (8, 52))))]
def m_mlp : List (Nat × (Nat × (Nat × Nat))) := [(1138, (0, (43, 22))), (2117, (0, (45, 24))), (2121, (0, (52, 76))), (2125, (0, (55, 17))), (2177, (0, (67, 26))), (2181, (0, (74, 3))), (2185, (0, (84, 37))), (2140, (0, (98, 8))), (2147, (0, (105, 27))), (2164, (1, (34, 11))), (2168, (1, (37, 2))), (2169, (1, (47, 12))), (2219, (1, (51, 13))), (2224, (1, (58, 14))), (2173, (1, (66, 4))), (2196, (1, (80, 34))), (2213, (1, (84, 26))), (2214, (1, (88, 35))), (2218, (1, (92, 3))), (5076, (2, (28, 19))), (5077, (2, (32, 21))), (1142, (3, (9, 23))), (3205, (4, (43, 30))), (2189, (4, (47, 39))), (2193, (4, (51, 40))), (2200, (4, (55, 41))), (5101, (4, (68, 34))), (5102, (4, (72, 35))), (2204, (4, (75, 42))), (3108, (5, (35, 29))), (3112, (5, (47, 68))), (3122, (5, (53, 45))), (3127, (5, (59, 72))), (3184, (5, (65, 71))), (3188, (5, (69, 67))), (3192, (5, (73, 30))), (3196, (5, (76, 46))), (3206, (5, (79, 74))), (3209, (5, (82, 47))), (4011, (5, (85, 64))), (3201, (5, (90, 31))), (3214, (5, (99, 57))), (4016, (5, (102, 50))), (4028, (5, (105, 48))), (4038, (5, (110, 65))), (4042, (5, (113, 52))), (4032, (5, (116, 49))), (4024, (5, (121, 32))), (4020, (5, (125, 51))), (3238, (5, (128, 66))), (4046, (5, (135, 53))), (4002, (5, (140, 33))), (4050, (5, (143, 54))), (4055, (5, (150, 55))), (3226, (5, (153, 62))), (3230, (5, (156, 63))), (4059, (5, (159, 56))), (3218, (5, (162, 58))), (3222, (5, (165, 59))), (3234, (5, (168, 60))), (4007, (5, (173, 61))), (3116, (5, (181, 69))), (3119, (5, (184, 70))), (3179, (5, (196, 73))), (1112, (7, (40, 0))), (2089, (7, (65, 121))), (2159, (7, (69, 118))), (3033, (7, (73, 116))), (3103, (7, (80, 44))), (2155, (7, (87, 119))), (4079, (7, (94, 124))), (4083, (7, (98, 122))), (4086, (7, (102, 35))), (4087, (7, (106, 123))), (4090, (7, (109, 34))), (4098, (7, (113, 38))), (4102, (7, (116, 37))), (4110, (7, (131, 23))), (4119, (7, (146, 117))), (4139, (7, (149, 25))), (4164, (7, (158, 26))), (4165, (7, (161, 27))), (2101, (7, (171, 2))), (2151, (7, (175, 120))), (4180, (7, (179, 4))), (2160, (7, (183, 10))), (2113, (7, (203, 1))), (4230, (7, (207, 5))), (2132, (7, (211, 125))), (2136, (7, (214, 7))), (2109, (7, (218, 126))), (5008, (7, (221, 128))), (5030, (7, (227, 129))), (2229, (7, (231, 130))), (5042, (7, (250, 8))), (5043, (7, (254, 6))), (3001, (7, (257, 15))), (5061, (7, (264, 18))), (3021, (7, (269, 19))), (5072, (7, (275, 20))), (5082, (7, (278, 21))), (5097, (7, (284, 36))), (5012, (7, (307, 127))), (2233, (7, (310, 131))), (6070, (8, (109, 138))), (6066, (8, (119, 139))), (6153, (8, (122, 141))), (6097, (8, (126, 140))), (6055, (8, (131, 135))), (6090, (8, (135, 144))), (6086, (8, (139, 143))), (6094, (8, (143, 145))), (6082, (8, (150, 146))), (6156, (8, (154, 142))), (6161, (8, (158, 150))), (6101, (8, (161, 147))), (6133, (8, (164, 149))), (6141, (8, (168, 153))), (6137, (8, (171, 148))), (6149, (8, (174, 151))), (6145, (8, (177, 152))), (6129, (8, (180, 154))), (6121, (8, (183, 156))), (6125, (8, (186, 155))), (6117, (8, (189, 158))), (6078, (8, (198, 157))), (6105, (8, (204, 162))), (6109, (8, (210, 163))), (6113, (8, (217, 159))), (6165, (8, (233, 160))), (6074, (8, (242, 161))), (6058, (8, (245, 134))), (6062, (8, (252, 164))), (6189, (8, (255, 136))), (6181, (8, (258, 169))), (6185, (8, (261, 168))), (6204, (8, (265, 173))), (7004, (8, (274, 180))), (6228, (8, (277, 179))), (7000, (8, (280, 181))), (6236, (8, (283, 182))), (7008, (8, (286, 184))), (7044, (8, (298, 195))), (7052, (8, (301, 193))), (7056, (8, (304, 194))), (7048, (8, (307, 196))), (7064, (8, (310, 198))), (7087, (8, (313, 203))), (7080, (8, (317, 202))), (7083, (8, (320, 204))), (7099, (8, (323, 207))), (7127, (8, (332, 214))), (7143, (8, (335, 217))), (7139, (8, (342, 218))), (3029, (9, (7, 79))), (4068, (9, (15, 81))), (4075, (9, (18, 82))), (4094, (9, (22, 83))), (4106, (9, (26, 84))), (4115, (9, (30, 85))), (4146, (9, (36, 86))), (4153, (9, (39, 87))), (4160, (9, (42, 88))), (4169, (9, (46, 89))), (4176, (9, (49, 91))), (4184, (9, (52, 92))), (4191, (9, (55, 93))), (4198, (9, (58, 94))), (4205, (9, (61, 95))), (4212, (9, (64, 96))), (4219, (9, (68, 97))), (4226, (9, (71, 98))), (4237, (9, (75, 99))), (5004, (9, (78, 100))), (5019, (9, (81, 101))), (5026, (9, (84, 102))), (5037, (9, (87, 104))), (5050, (9, (91, 106))), (5057, (9, (94, 107))), (5068, (9, (97, 108))), (5086, (9, (100, 109))), (5093, (9, (103, 111))), (5106, (9, (106, 112))), (1023, (9, (109, 77))), (5112, (9, (112, 132))), (2085, (9, (113, 78))), (6047, (9, (117, 137))), (3025, (9, (118, 222))), (6051, (9, (123, 165))), (6043, (9, (124, 133))), (2093, (9, (128, 80))), (6169, (9, (131, 166))), (4065, (9, (132, 223))), (6173, (9, (134, 167))), (4072, (9, (135, 224))), (6177, (9, (138, 170))), (4091, (9, (139, 225))), (6192, (9, (142, 171))), (4103, (9, (143, 226))), (6196, (9, (146, 172))), (4111, (9, (147, 227))), (6200, (9, (150, 174))), (4143, (9, (151, 228))), (6208, (9, (153, 175))), (4150, (9, (154, 229))), (6212, (9, (156, 176))), (4157, (9, (157, 230))), (6216, (9, (160, 177))), (4166, (9, (161, 231))), (6220, (9, (163, 178))), (2097, (9, (164, 90))), (6224, (9, (167, 183))), (4173, (9, (168, 232))), (6232, (9, (170, 185))), (4181, (9, (171, 233))), (7012, (9, (173, 186))), (4188, (9, (174, 234))), (7016, (9, (176, 187))), (4195, (9, (177, 235))), (7020, (9, (179, 188))), (4202, (9, (180, 236))), (7024, (9, (182, 189))), (4209, (9, (183, 237))), (7028, (9, (185, 190))), (4216, (9, (186, 238))), (7032, (9, (188, 191))), (4223, (9, (189, 239))), (7036, (9, (191, 192))), (4234, (9, (192, 240))), (7040, (9, (194, 197))), (5001, (9, (195, 241))), (7060, (9, (197, 199))), (5016, (9, (198, 242))), (7068, (9, (200, 200))), (5023, (9, (201, 243))), (7072, (9, (203, 201))), (2105, (9, (204, 103))), (7076, (9, (207, 205))), (5034, (9, (208, 244))), (7091, (9, (211, 206))), (2237, (9, (212, 105))), (7095, (9, (215, 208))), (5047, (9, (216, 245))), (7103, (9, (218, 209))), (5054, (9, (219, 246))), (7107, (9, (221, 210))), (5065, (9, (222, 247))), (7111, (9, (224, 211))), (5083, (9, (225, 248))), (7115, (9, (227, 212))), (3005, (9, (228, 110))), (7119, (9, (231, 213))), (5090, (9, (232, 249))), (7123, (9, (234, 215))), (5103, (9, (235, 250))), (7131, (9, (237, 216))), (3009, (9, (238, 113))), (7135, (9, (241, 219))), (3013, (9, (242, 114))), (7147, (9, (245, 220))), (3017, (9, (246, 115))), (7151, (9, (249, 221)))]
def m_fl : List (Nat × (Nat × (Nat × Nat))) := m_flp.map fun q => q.2
def m_ml : List (Nat × (Nat × Nat)) := m_mlp.map fun q => q.2
def m_nl : List (Nat × (Nat × Nat)) := [(0, (38, 16)), (0, (44, 75)), (0, (102, 118)), (5, (21, 28)), (7, (19, 28)), (7, (26, 43)), (7, (54, 9))]
def m_clp : List (Nat × (Nat × (Nat × Nat))) := [(1120, (0, (36, 2))), (1116, (0, (9, 3))), (1118, (0, (30, 6))), (1076, (5, (19, 4))), (1029, (7, (13, 4))), (1070, (7, (24, 5))), (1110, (7, (38, 0))), (2005, (7, (52, 1))), (1021, (9, (8, 7))), (5110, (9, (110, 8)))]
def m_cl : List (Nat × (Nat × Nat)) := m_clp.map fun q => q.2
noncomputable def m_cw (m : Nat) : Cond := match m_hh m with
  | [] => .code (m_y m) (m_cd m) (m_mx m) (m_rt m)
  | hh => .codeWith (m_y m) (m_cd m) (m_mx m) (m_rt m) hh
def m_inp : List (Nat × Nat) := [(1113, 0), (2114, 1), (2102, 2), (2182, 3), (2174, 4), (4231, 5), (5044, 6), (2137, 7), (2141, 8), (2008, 9), (2161, 10), (2166, 11), (2171, 12), (2221, 13), (2226, 14), (3002, 15), (1123, 16), (2126, 17), (5062, 18), (3022, 19), (5073, 20), (5078, 21), (1139, 22), (1143, 23), (2118, 24), (4140, 25), (2178, 26), (2148, 27), (1033, 28), (3109, 29), (3193, 30), (3202, 31), (4025, 32), (4003, 33), (2197, 34), (2215, 35), (5098, 36), (2186, 37), (4099, 38), (2191, 39), (2202, 41), (1073, 43), (3104, 44), (3124, 45), (3198, 46), (3211, 47), (4030, 48), (4034, 49), (4018, 50), (4022, 51), (4044, 52), (4048, 53), (4052, 54), (4057, 55), (4061, 56), (3216, 57), (3220, 58), (3224, 59), (3236, 60), (4009, 61), (3228, 62), (3232, 63), (4013, 64), (4040, 65), (4000, 66), (3190, 67), (3114, 68), (3186, 71), (3129, 72), (3181, 73), (1187, 75), (2122, 76), (1024, 77), (2086, 78), (3030, 79), (2094, 80), (4069, 81), (4076, 82), (4095, 83), (4107, 84), (4116, 85), (4147, 86), (4154, 87), (4161, 88), (4170, 89), (2098, 90), (4177, 91), (4185, 92), (4192, 93), (4199, 94), (4206, 95), (4213, 96), (4220, 97), (4227, 98), (4238, 99), (5005, 100), (5020, 101), (5027, 102), (2106, 103), (5038, 104), (2238, 105), (5051, 106), (5058, 107), (5069, 108), (5087, 109), (3006, 110), (5094, 111), (5107, 112), (3010, 113), (3014, 114), (3018, 115), (4121, 117), (2157, 119), (2153, 120), (2091, 121), (4081, 124), (2134, 125), (2111, 126), (5014, 127), (5010, 128), (5032, 129), (2231, 130), (2235, 131), (5113, 132), (6044, 133), (6060, 134), (6048, 137), (6072, 138), (6068, 139), (6099, 140), (6158, 142), (6088, 143), (6092, 144), (6084, 146), (6103, 147), (6139, 148), (6135, 149), (6163, 150), (6151, 151), (6147, 152), (6143, 153), (6131, 154), (6127, 155), (6123, 156), (6080, 157), (6119, 158), (6115, 159), (6167, 160), (6076, 161), (6107, 162), (6111, 163), (6064, 164), (6052, 165), (6170, 166), (6174, 167), (6187, 168), (6183, 169), (6178, 170), (6193, 171), (6197, 172), (6206, 173), (6201, 174), (6209, 175), (6213, 176), (6217, 177), (6221, 178), (6230, 179), (7006, 180), (7002, 181), (6238, 182), (6225, 183), (7010, 184), (6233, 185), (7013, 186), (7017, 187), (7021, 188), (7025, 189), (7029, 190), (7033, 191), (7037, 192), (7054, 193), (7058, 194), (7046, 195), (7050, 196), (7041, 197), (7066, 198), (7061, 199), (7069, 200), (7073, 201), (7089, 203), (7085, 204), (7077, 205), (7092, 206), (7101, 207), (7096, 208), (7104, 209), (7108, 210), (7112, 211), (7116, 212), (7120, 213), (7129, 214), (7124, 215), (7132, 216), (7145, 217), (7141, 218), (7136, 219), (7148, 220), (7152, 221)]
def m_stp : List (Nat × Nat) := [(2194, 40), (2205, 42), (3117, 69), (3120, 70), (3207, 74), (3034, 116), (2145, 118), (4084, 122), (4088, 123), (6056, 135), (6190, 136), (6154, 141), (6095, 145), (7081, 202), (3026, 222), (4066, 223), (4073, 224), (4092, 225), (4104, 226), (4112, 227), (4144, 228), (4151, 229), (4158, 230), (4167, 231), (4174, 232), (4182, 233), (4189, 234), (4196, 235), (4203, 236), (4210, 237), (4217, 238), (4224, 239), (4235, 240), (5002, 241), (5017, 242), (5024, 243), (5035, 244), (5048, 245), (5055, 246), (5066, 247), (5084, 248), (5091, 249), (5104, 250)]
def m_sep : List (Nat × Nat) := [(2115, 1), (2103, 2), (2183, 3), (2175, 4), (4232, 5), (5045, 6), (2138, 7), (2142, 8), (2162, 10), (5, 11), (6, 12), (9, 13), (10, 14), (3003, 15), (2127, 17), (5063, 18), (3023, 19), (5074, 20), (5079, 21), (1144, 23), (2119, 24), (4141, 25), (2179, 26), (2149, 27), (3110, 29), (3194, 30), (3203, 31), (4026, 32), (4004, 33), (2198, 34), (2216, 35), (5099, 36), (2187, 37), (4100, 38), (7, 39), (8, 41), (3105, 44), (15, 45), (20, 46), (21, 47), (33, 48), (34, 49), (31, 50), (32, 51), (36, 52), (37, 53), (38, 54), (39, 55), (40, 56), (22, 57), (23, 58), (24, 59), (27, 60), (29, 61), (25, 62), (26, 63), (30, 64), (35, 65), (28, 66), (19, 67), (14, 68), (18, 71), (16, 72), (17, 73), (2123, 76), (2087, 78), (3031, 79), (2095, 80), (4070, 81), (4077, 82), (4096, 83), (4108, 84), (4117, 85), (4148, 86), (4155, 87), (4162, 88), (4171, 89), (2099, 90), (4178, 91), (4186, 92), (4193, 93), (4200, 94), (4207, 95), (4214, 96), (4221, 97), (4228, 98), (4239, 99), (5006, 100), (5021, 101), (5028, 102), (2107, 103), (5039, 104), (2239, 105), (5052, 106), (5059, 107), (5070, 108), (5088, 109), (3007, 110), (5095, 111), (5108, 112), (3011, 113), (3015, 114), (3019, 115), (42, 117), (4, 119), (3, 120), (0, 121), (41, 124), (2, 125), (1, 126), (44, 127), (43, 128), (45, 129), (11, 130), (12, 131), (6045, 133), (46, 134), (6049, 137), (49, 138), (48, 139), (55, 140), (69, 142), (53, 143), (54, 144), (52, 146), (56, 147), (65, 148), (64, 149), (70, 150), (68, 151), (67, 152), (66, 153), (63, 154), (62, 155), (61, 156), (51, 157), (60, 158), (59, 159), (71, 160), (50, 161), (57, 162), (58, 163), (47, 164), (6053, 165), (6171, 166), (6175, 167), (73, 168), (72, 169), (6179, 170), (6194, 171), (6198, 172), (74, 173), (6202, 174), (6210, 175), (6214, 176), (6218, 177), (6222, 178), (75, 179), (78, 180), (77, 181), (76, 182), (6226, 183), (79, 184), (6234, 185), (7014, 186), (7018, 187), (7022, 188), (7026, 189), (7030, 190), (7034, 191), (7038, 192), (82, 193), (83, 194), (80, 195), (81, 196), (7042, 197), (84, 198), (7062, 199), (7070, 200), (7074, 201), (86, 203), (85, 204), (7078, 205), (7093, 206), (87, 207), (7097, 208), (7105, 209), (7109, 210), (7113, 211), (7117, 212), (7121, 213), (88, 214), (7125, 215), (7133, 216), (90, 217), (89, 218), (7137, 219), (7149, 220), (7153, 221)]
def m_itp : List (Nat × Nat) := [(1004, 0), (1008, 1), (1005, 2), (1006, 3), (1002, 4), (1003, 5), (1007, 6), (1001, 7), (1009, 8), (1000, 9)]
def m_inl : List Nat := m_inp.map fun q => q.2
def m_stl : List Nat := m_stp.map fun q => q.2
def m_sel : List Nat := m_sep.map fun q => q.2
def m_isp : List (Nat × Nat) := [(1111, 0), (2006, 1), (1121, 2), (1137, 3), (1031, 4), (1071, 5), (1185, 6), (1022, 7), (5111, 8)]
def m_jlp : List (Nat × (Nat × (Nat × Nat))) := [(1115, (0, (3, 0))), (2010, (1, (3, 0))), (2223, (1, (99, 1))), (1125, (2, (3, 0))), (2129, (2, (22, 3))), (5081, (2, (36, 1))), (1141, (3, (3, 0))), (1035, (4, (3, 0))), (2207, (4, (59, 1))), (2210, (4, (65, 2))), (1075, (5, (3, 0))), (3107, (5, (26, 1))), (3131, (5, (187, 4))), (3141, (5, (192, 5))), (1189, (6, (1, 0))), (1026, (7, (3, 0))), (2228, (7, (301, 3))), (5115, (8, (1, 0)))]
def m_jl : List (Nat × (Nat × Nat)) := m_jlp.map fun q => q.2
def m_alp : List (Nat × (Nat × (Nat × Nat))) := [(1116, (0, (9, 6))), (1118, (0, (30, 7))), (1029, (7, (13, 5))), (1110, (7, (38, 8))), (5116, (8, (17, 3))), (5118, (8, (49, 4)))]
def m_al : List (Nat × (Nat × Nat)) := m_alp.map fun q => q.2
def m_klp : List (Nat × (Nat × (Nat × Int32))) := [(6160, (8, (130, 100000)))]
def m_kl : List (Nat × (Nat × Int32)) := m_klp.map fun q => q.2
def m_sl : List (Nat × (Nat × Nat)) := [(5, (57, 0)), (5, (63, 1)), (5, (88, 2)), (5, (97, 3)), (5, (108, 5)), (5, (119, 4)), (5, (138, 6)), (5, (146, 7)), (5, (148, 8)), (5, (171, 9)), (5, (176, 10))]
def m_tl : List (Nat × (Nat × (Nat × (Nat × Nat)))) := [(7, (234, (236, (238, 1)))), (7, (294, (296, (298, 0)))), (7, (234, (299, (238, 1))))]
/-- the word w lies at place k, and is a good one -/
noncomputable def m_tb (j : Nat) : List Cond := match j with
  | 0 => k2_sels lw_privs
  | 1 => tables_1_1
  | 2 => tables_1_2
  | 3 => tables_1_3
  | 4 => tables_1_4
  | 5 => tables_1_5
  | 6 => tables_1_6
  | 7 => tables_1_7
  | _ => []
theorem m_tb_in {j : Nat} {w : Cond} (h : w ∈ m_tb j) : w ∈ lw_tbl := by
  have e : lw_tbl = k2_sels lw_privs ++ (tables_1_1 ++ (tables_1_2 ++ (tables_1_3 ++ (tables_1_4 ++ (tables_1_5 ++ (tables_1_6 ++ tables_1_7)))))) := rfl
  rw [e]
  simp only [List.mem_append]
  match j, h with
  | 0, h => exact Or.inl h
  | 1, h => exact Or.inr (Or.inl h)
  | 2, h => exact Or.inr (Or.inr (Or.inl h))
  | 3, h => exact Or.inr (Or.inr (Or.inr (Or.inl h)))
  | 4, h => exact Or.inr (Or.inr (Or.inr (Or.inr (Or.inl h))))
  | 5, h => exact Or.inr (Or.inr (Or.inr (Or.inr (Or.inr (Or.inl h)))))
  | 6, h => exact Or.inr (Or.inr (Or.inr (Or.inr (Or.inr (Or.inr (Or.inl h))))))
  | 7, h => exact Or.inr (Or.inr (Or.inr (Or.inr (Or.inr (Or.inr (Or.inr h))))))
  | n + 8, h => exact absurd h List.not_mem_nil
noncomputable def m_pl (k : Nat) (w : Cond) : Bool := decide ((m_tb (k / 1000))[k % 1000]? = some w) && goodWord w
theorem m_pl_in {k : Nat} {w : Cond} (h : m_pl k w = true) : w ∈ m_ws := by
  simp only [m_pl, Bool.and_eq_true, decide_eq_true_eq] at h
  exact List.mem_filter.mpr ⟨m_tb_in (List.mem_of_getElem? h.1), h.2⟩
theorem m_pl_all {α : Type} {l : List (Nat × α)} {f : α → Cond} (h : (l.all fun q => m_pl q.1 (f q.2)) = true) : ∀ q ∈ l.map (fun q => q.2), f q ∈ m_ws := by
  intro q hq
  obtain ⟨x, hx, rfl⟩ := List.mem_map.mp hq
  exact m_pl_in (List.all_eq_true.mp h x hx)
noncomputable def w_fl (q : Nat × (Nat × (Nat × Nat))) : Cond := .fieldLink (m_cn q.1) q.2.1 ((m_vc q.2.2.1).2.1 q.2.2.2).1 ((m_vc q.2.2.1).2.1 q.2.2.2).2.1 ((m_vc q.2.2.1).2.1 q.2.2.2).2.2.1
noncomputable def w_ml (q : Nat × (Nat × Nat)) : Cond := .methodLink (m_cn q.1) q.2.1 (m_y q.2.2)
noncomputable def w_cl (q : Nat × (Nat × Nat)) : Cond := .classLink (m_cn q.1) q.2.1 (m_cn q.2.2)
noncomputable def w_kl (q : Nat × (Nat × Int32)) : Cond := .constant (m_cn q.1) q.2.1 q.2.2
noncomputable def m_jn (z : Nat) : MethodName := match z with
  | 0 => objectInit
  | 1 => Lib.Math.min.name
  | 2 => Lib.Math.max.name
  | 3 => arraycopyName
  | 4 => yJ0_length_8abf5
  | _ => yJ0_charAt_5068e
noncomputable def w_jl (q : Nat × (Nat × Nat)) : Cond := .methodLink (m_cn q.1) q.2.1 (m_jn q.2.2)
set_option maxRecDepth 100000 in
theorem m_fl_ok : ∀ q ∈ m_fl, w_fl q ∈ m_ws := m_pl_all (by decide +kernel)
set_option maxRecDepth 100000 in
theorem m_ml_ok : ∀ q ∈ m_ml, w_ml q ∈ m_ws := m_pl_all (by decide +kernel)
set_option maxRecDepth 100000 in
theorem m_cl_ok : ∀ q ∈ m_cl, w_cl q ∈ m_ws := m_pl_all (by decide +kernel)
set_option maxRecDepth 100000 in
theorem m_kl_ok : ∀ q ∈ m_kl, w_kl q ∈ m_ws := m_pl_all (by decide +kernel)
set_option maxRecDepth 100000 in
theorem m_jl_ok : ∀ q ∈ m_jl, w_jl q ∈ m_ws := m_pl_all (by decide +kernel)
theorem m_pr_in {j k : Nat} {w : Cond} (h : (m_tb j)[k]? = some w) (g : goodWord w = true) : w ∈ m_ws := List.mem_filter.mpr ⟨m_tb_in (List.mem_of_getElem? h), g⟩
set_option maxRecDepth 100000 in
theorem k_X0_init : m_cw 0 ∈ m_ws := m_pr_in (j := 1) (k := 114) rfl rfl
set_option maxRecDepth 100000 in
theorem k_X0_setTo : m_cw 1 ∈ m_ws := m_pr_in (j := 2) (k := 116) rfl rfl
set_option maxRecDepth 100000 in
theorem k_X0_latestHolder : m_cw 2 ∈ m_ws := m_pr_in (j := 2) (k := 104) rfl rfl
set_option maxRecDepth 100000 in
theorem k_X0_hasPassed : m_cw 3 ∈ m_ws := m_pr_in (j := 2) (k := 184) rfl rfl
set_option maxRecDepth 100000 in
theorem k_X0_nameHand : m_cw 4 ∈ m_ws := m_pr_in (j := 2) (k := 176) rfl rfl
set_option maxRecDepth 100000 in
theorem k_X0_ask : m_cw 5 ∈ m_ws := m_pr_in (j := 4) (k := 233) rfl rfl
set_option maxRecDepth 100000 in
theorem k_X0_dropQuestion : m_cw 6 ∈ m_ws := m_pr_in (j := 5) (k := 46) rfl rfl
set_option maxRecDepth 100000 in
theorem k_X0_suppose : m_cw 7 ∈ m_ws := m_pr_in (j := 2) (k := 139) rfl rfl
set_option maxRecDepth 100000 in
theorem k_X0_tell : m_cw 8 ∈ m_ws := m_pr_in (j := 2) (k := 143) rfl rfl
set_option maxRecDepth 100000 in
theorem k_X1_init : m_cw 9 ∈ m_ws := m_pr_in (j := 2) (k := 9) rfl rfl
set_option maxRecDepth 100000 in
theorem k_X1_reckon : m_cw 10 ∈ m_ws := m_pr_in (j := 2) (k := 163) rfl rfl
set_option maxRecDepth 100000 in
theorem k_X1_clear : m_cw 11 ∈ m_ws := m_pr_in (j := 2) (k := 167) rfl rfl
set_option maxRecDepth 100000 in
theorem k_X1_claimOn : m_cw 12 ∈ m_ws := m_pr_in (j := 2) (k := 172) rfl rfl
set_option maxRecDepth 100000 in
theorem k_X1_payUp : m_cw 13 ∈ m_ws := m_pr_in (j := 2) (k := 222) rfl rfl
set_option maxRecDepth 100000 in
theorem k_X1_payOwner : m_cw 14 ∈ m_ws := m_pr_in (j := 2) (k := 227) rfl rfl
set_option maxRecDepth 100000 in
theorem k_X1_titleFor : m_cw 15 ∈ m_ws := m_pr_in (j := 3) (k := 4) rfl rfl
set_option maxRecDepth 100000 in
theorem k_X2_init : m_cw 16 ∈ m_ws := m_pr_in (j := 1) (k := 124) rfl rfl
set_option maxRecDepth 100000 in
theorem k_X2_setTo : m_cw 17 ∈ m_ws := m_pr_in (j := 2) (k := 128) rfl rfl
set_option maxRecDepth 100000 in
theorem k_X2_add : m_cw 18 ∈ m_ws := m_pr_in (j := 5) (k := 64) rfl rfl
set_option maxRecDepth 100000 in
theorem k_X2_all : m_cw 19 ∈ m_ws := m_pr_in (j := 3) (k := 24) rfl rfl
set_option maxRecDepth 100000 in
theorem k_X2_allOf : m_cw 20 ∈ m_ws := m_pr_in (j := 5) (k := 75) rfl rfl
set_option maxRecDepth 100000 in
theorem k_X2_lostLast : m_cw 21 ∈ m_ws := m_pr_in (j := 5) (k := 80) rfl rfl
set_option maxRecDepth 100000 in
theorem k_X3_init : m_cw 22 ∈ m_ws := m_pr_in (j := 1) (k := 140) rfl rfl
set_option maxRecDepth 100000 in
theorem k_X3_clear : m_cw 23 ∈ m_ws := m_pr_in (j := 1) (k := 145) rfl rfl
set_option maxRecDepth 100000 in
theorem k_X3_setTo : m_cw 24 ∈ m_ws := m_pr_in (j := 2) (k := 120) rfl rfl
set_option maxRecDepth 100000 in
theorem k_X3_entry : m_cw 25 ∈ m_ws := m_pr_in (j := 4) (k := 142) rfl rfl
set_option maxRecDepth 100000 in
theorem k_X3_hasFact : m_cw 26 ∈ m_ws := m_pr_in (j := 2) (k := 180) rfl rfl
set_option maxRecDepth 100000 in
theorem k_X3_tellFact : m_cw 27 ∈ m_ws := m_pr_in (j := 2) (k := 150) rfl rfl
set_option maxRecDepth 100000 in
theorem k_X4_init : m_cw 28 ∈ m_ws := m_pr_in (j := 1) (k := 34) rfl rfl
set_option maxRecDepth 100000 in
theorem k_X4_clear : m_cw 29 ∈ m_ws := m_pr_in (j := 3) (k := 111) rfl rfl
set_option maxRecDepth 100000 in
theorem k_X4_isFull : m_cw 30 ∈ m_ws := m_pr_in (j := 3) (k := 195) rfl rfl
set_option maxRecDepth 100000 in
theorem k_X4_beginClause : m_cw 31 ∈ m_ws := m_pr_in (j := 3) (k := 204) rfl rfl
set_option maxRecDepth 100000 in
theorem k_X4_include : m_cw 32 ∈ m_ws := m_pr_in (j := 4) (k := 27) rfl rfl
set_option maxRecDepth 100000 in
theorem k_X4_addStep : m_cw 33 ∈ m_ws := m_pr_in (j := 4) (k := 5) rfl rfl
set_option maxRecDepth 100000 in
theorem k_X4_holdsFor : m_cw 34 ∈ m_ws := m_pr_in (j := 2) (k := 199) rfl rfl
set_option maxRecDepth 100000 in
theorem k_X4_owedFor : m_cw 35 ∈ m_ws := m_pr_in (j := 2) (k := 217) rfl rfl
set_option maxRecDepth 100000 in
theorem k_X4_claimFor : m_cw 36 ∈ m_ws := m_pr_in (j := 5) (k := 100) rfl rfl
set_option maxRecDepth 100000 in
theorem k_X4_allows : m_cw 37 ∈ m_ws := m_pr_in (j := 2) (k := 188) rfl rfl
set_option maxRecDepth 100000 in
theorem k_X4_doubles : m_cw 38 ∈ m_ws := m_pr_in (j := 4) (k := 101) rfl rfl
set_option maxRecDepth 100000 in
theorem k_X4_isFor : m_cw 39 ∈ m_ws := m_pr_in (j := 2) (k := 192) rfl rfl
set_option maxRecDepth 100000 in
theorem k_X4_has : m_cw 40 ∈ m_ws := m_pr_in (j := 2) (k := 195) rfl rfl
set_option maxRecDepth 100000 in
theorem k_X4_work : m_cw 41 ∈ m_ws := m_pr_in (j := 2) (k := 203) rfl rfl
set_option maxRecDepth 100000 in
theorem k_X4_join : m_cw 42 ∈ m_ws := m_pr_in (j := 2) (k := 206) rfl rfl
set_option maxRecDepth 100000 in
theorem k_X5_init : m_cw 43 ∈ m_ws := m_pr_in (j := 1) (k := 74) rfl rfl
set_option maxRecDepth 100000 in
theorem k_X5_readLaw : m_cw 44 ∈ m_ws := m_pr_in (j := 3) (k := 106) rfl rfl
set_option maxRecDepth 100000 in
theorem k_X5_readClause : m_cw 45 ∈ m_ws := m_pr_in (j := 3) (k := 125) rfl rfl
set_option maxRecDepth 100000 in
theorem k_X5_readMixing : m_cw 46 ∈ m_ws := m_pr_in (j := 3) (k := 199) rfl rfl
set_option maxRecDepth 100000 in
theorem k_X5_readKeeping : m_cw 47 ∈ m_ws := m_pr_in (j := 3) (k := 212) rfl rfl
set_option maxRecDepth 100000 in
theorem k_X5_readHarms : m_cw 48 ∈ m_ws := m_pr_in (j := 4) (k := 31) rfl rfl
set_option maxRecDepth 100000 in
theorem k_X5_readHarm : m_cw 49 ∈ m_ws := m_pr_in (j := 4) (k := 35) rfl rfl
set_option maxRecDepth 100000 in
theorem k_X5_readTerms : m_cw 50 ∈ m_ws := m_pr_in (j := 4) (k := 19) rfl rfl
set_option maxRecDepth 100000 in
theorem k_X5_readTerm : m_cw 51 ∈ m_ws := m_pr_in (j := 4) (k := 23) rfl rfl
set_option maxRecDepth 100000 in
theorem k_X5_readEither : m_cw 52 ∈ m_ws := m_pr_in (j := 4) (k := 45) rfl rfl
set_option maxRecDepth 100000 in
theorem k_X5_readBoth : m_cw 53 ∈ m_ws := m_pr_in (j := 4) (k := 49) rfl rfl
set_option maxRecDepth 100000 in
theorem k_X5_readCondition : m_cw 54 ∈ m_ws := m_pr_in (j := 4) (k := 53) rfl rfl
set_option maxRecDepth 100000 in
theorem k_X5_readNot : m_cw 55 ∈ m_ws := m_pr_in (j := 4) (k := 58) rfl rfl
set_option maxRecDepth 100000 in
theorem k_X5_readComparison : m_cw 56 ∈ m_ws := m_pr_in (j := 4) (k := 62) rfl rfl
set_option maxRecDepth 100000 in
theorem k_X5_readSum : m_cw 57 ∈ m_ws := m_pr_in (j := 3) (k := 217) rfl rfl
set_option maxRecDepth 100000 in
theorem k_X5_readProduct : m_cw 58 ∈ m_ws := m_pr_in (j := 3) (k := 221) rfl rfl
set_option maxRecDepth 100000 in
theorem k_X5_readUnit : m_cw 59 ∈ m_ws := m_pr_in (j := 3) (k := 225) rfl rfl
set_option maxRecDepth 100000 in
theorem k_X5_readNumber : m_cw 60 ∈ m_ws := m_pr_in (j := 3) (k := 237) rfl rfl
set_option maxRecDepth 100000 in
theorem k_X5_readChoice : m_cw 61 ∈ m_ws := m_pr_in (j := 4) (k := 10) rfl rfl
set_option maxRecDepth 100000 in
theorem k_X5_enter : m_cw 62 ∈ m_ws := m_pr_in (j := 3) (k := 229) rfl rfl
set_option maxRecDepth 100000 in
theorem k_X5_leave : m_cw 63 ∈ m_ws := m_pr_in (j := 3) (k := 233) rfl rfl
set_option maxRecDepth 100000 in
theorem k_X5_take : m_cw 64 ∈ m_ws := m_pr_in (j := 4) (k := 14) rfl rfl
set_option maxRecDepth 100000 in
theorem k_X5_takeWord : m_cw 65 ∈ m_ws := m_pr_in (j := 4) (k := 41) rfl rfl
set_option maxRecDepth 100000 in
theorem k_X5_isNumber : m_cw 66 ∈ m_ws := m_pr_in (j := 4) (k := 1) rfl rfl
set_option maxRecDepth 100000 in
theorem k_X5_fail : m_cw 67 ∈ m_ws := m_pr_in (j := 3) (k := 191) rfl rfl
set_option maxRecDepth 100000 in
theorem k_X5_nextToken : m_cw 68 ∈ m_ws := m_pr_in (j := 3) (k := 115) rfl rfl
set_option maxRecDepth 100000 in
theorem k_X5_isLetter : m_cw 69 ∈ m_ws := m_pr_in (j := 3) (k := 118) rfl rfl
set_option maxRecDepth 100000 in
theorem k_X5_isDigit : m_cw 70 ∈ m_ws := m_pr_in (j := 3) (k := 121) rfl rfl
set_option maxRecDepth 100000 in
theorem k_X5_isWord : m_cw 71 ∈ m_ws := m_pr_in (j := 3) (k := 187) rfl rfl
set_option maxRecDepth 100000 in
theorem k_X5_wordOf : m_cw 72 ∈ m_ws := m_pr_in (j := 3) (k := 130) rfl rfl
set_option maxRecDepth 100000 in
theorem k_X5_isSame : m_cw 73 ∈ m_ws := m_pr_in (j := 3) (k := 182) rfl rfl
set_option maxRecDepth 100000 in
theorem k_X5_bitsOf : m_cw 74 ∈ m_ws := m_pr_in (j := 3) (k := 208) rfl rfl
set_option maxRecDepth 100000 in
theorem k_X6_init : m_cw 75 ∈ m_ws := m_pr_in (j := 1) (k := 188) rfl rfl
set_option maxRecDepth 100000 in
theorem k_X6_setTo : m_cw 76 ∈ m_ws := m_pr_in (j := 2) (k := 124) rfl rfl
set_option maxRecDepth 100000 in
theorem k_X7_init : m_cw 77 ∈ m_ws := m_pr_in (j := 1) (k := 25) rfl rfl
set_option maxRecDepth 100000 in
theorem k_X7_feed : m_cw 78 ∈ m_ws := m_pr_in (j := 2) (k := 88) rfl rfl
set_option maxRecDepth 100000 in
theorem k_X7_law : m_cw 79 ∈ m_ws := m_pr_in (j := 3) (k := 32) rfl rfl
set_option maxRecDepth 100000 in
theorem k_X7_fault : m_cw 80 ∈ m_ws := m_pr_in (j := 2) (k := 96) rfl rfl
set_option maxRecDepth 100000 in
theorem k_X7_force : m_cw 81 ∈ m_ws := m_pr_in (j := 4) (k := 71) rfl rfl
set_option maxRecDepth 100000 in
theorem k_X7_words : m_cw 82 ∈ m_ws := m_pr_in (j := 4) (k := 78) rfl rfl
set_option maxRecDepth 100000 in
theorem k_X7_lets : m_cw 83 ∈ m_ws := m_pr_in (j := 4) (k := 97) rfl rfl
set_option maxRecDepth 100000 in
theorem k_X7_pass : m_cw 84 ∈ m_ws := m_pr_in (j := 4) (k := 109) rfl rfl
set_option maxRecDepth 100000 in
theorem k_X7_hand : m_cw 85 ∈ m_ws := m_pr_in (j := 4) (k := 118) rfl rfl
set_option maxRecDepth 100000 in
theorem k_X7_value : m_cw 86 ∈ m_ws := m_pr_in (j := 4) (k := 149) rfl rfl
set_option maxRecDepth 100000 in
theorem k_X7_purse : m_cw 87 ∈ m_ws := m_pr_in (j := 4) (k := 156) rfl rfl
set_option maxRecDepth 100000 in
theorem k_X7_fact : m_cw 88 ∈ m_ws := m_pr_in (j := 4) (k := 163) rfl rfl
set_option maxRecDepth 100000 in
theorem k_X7_harm : m_cw 89 ∈ m_ws := m_pr_in (j := 4) (k := 172) rfl rfl
set_option maxRecDepth 100000 in
theorem k_X7_holder : m_cw 90 ∈ m_ws := m_pr_in (j := 2) (k := 100) rfl rfl
set_option maxRecDepth 100000 in
theorem k_X7_name : m_cw 91 ∈ m_ws := m_pr_in (j := 4) (k := 179) rfl rfl
set_option maxRecDepth 100000 in
theorem k_X7_claim : m_cw 92 ∈ m_ws := m_pr_in (j := 4) (k := 187) rfl rfl
set_option maxRecDepth 100000 in
theorem k_X7_whom : m_cw 93 ∈ m_ws := m_pr_in (j := 4) (k := 194) rfl rfl
set_option maxRecDepth 100000 in
theorem k_X7_pays : m_cw 94 ∈ m_ws := m_pr_in (j := 4) (k := 201) rfl rfl
set_option maxRecDepth 100000 in
theorem k_X7_bears : m_cw 95 ∈ m_ws := m_pr_in (j := 4) (k := 208) rfl rfl
set_option maxRecDepth 100000 in
theorem k_X7_must : m_cw 96 ∈ m_ws := m_pr_in (j := 4) (k := 215) rfl rfl
set_option maxRecDepth 100000 in
theorem k_X7_frees : m_cw 97 ∈ m_ws := m_pr_in (j := 4) (k := 222) rfl rfl
set_option maxRecDepth 100000 in
theorem k_X7_question : m_cw 98 ∈ m_ws := m_pr_in (j := 4) (k := 229) rfl rfl
set_option maxRecDepth 100000 in
theorem k_X7_inCase : m_cw 99 ∈ m_ws := m_pr_in (j := 5) (k := 0) rfl rfl
set_option maxRecDepth 100000 in
theorem k_X7_sure : m_cw 100 ∈ m_ws := m_pr_in (j := 5) (k := 7) rfl rfl
set_option maxRecDepth 100000 in
theorem k_X7_cases : m_cw 101 ∈ m_ws := m_pr_in (j := 5) (k := 22) rfl rfl
set_option maxRecDepth 100000 in
theorem k_X7_hangs : m_cw 102 ∈ m_ws := m_pr_in (j := 5) (k := 29) rfl rfl
set_option maxRecDepth 100000 in
theorem k_X7_least : m_cw 103 ∈ m_ws := m_pr_in (j := 2) (k := 108) rfl rfl
set_option maxRecDepth 100000 in
theorem k_X7_find : m_cw 104 ∈ m_ws := m_pr_in (j := 5) (k := 40) rfl rfl
set_option maxRecDepth 100000 in
theorem k_X7_title : m_cw 105 ∈ m_ws := m_pr_in (j := 3) (k := 0) rfl rfl
set_option maxRecDepth 100000 in
theorem k_X7_found : m_cw 106 ∈ m_ws := m_pr_in (j := 5) (k := 53) rfl rfl
set_option maxRecDepth 100000 in
theorem k_X7_put : m_cw 107 ∈ m_ws := m_pr_in (j := 5) (k := 60) rfl rfl
set_option maxRecDepth 100000 in
theorem k_X7_share : m_cw 108 ∈ m_ws := m_pr_in (j := 5) (k := 71) rfl rfl
set_option maxRecDepth 100000 in
theorem k_X7_judge : m_cw 109 ∈ m_ws := m_pr_in (j := 5) (k := 89) rfl rfl
set_option maxRecDepth 100000 in
theorem k_X7_wrong : m_cw 110 ∈ m_ws := m_pr_in (j := 3) (k := 8) rfl rfl
set_option maxRecDepth 100000 in
theorem k_X7_parting : m_cw 111 ∈ m_ws := m_pr_in (j := 5) (k := 96) rfl rfl
set_option maxRecDepth 100000 in
theorem k_X7_beside : m_cw 112 ∈ m_ws := m_pr_in (j := 5) (k := 109) rfl rfl
set_option maxRecDepth 100000 in
theorem k_X7_image : m_cw 113 ∈ m_ws := m_pr_in (j := 3) (k := 12) rfl rfl
set_option maxRecDepth 100000 in
theorem k_X7_restore : m_cw 114 ∈ m_ws := m_pr_in (j := 3) (k := 16) rfl rfl
set_option maxRecDepth 100000 in
theorem k_X7_count : m_cw 115 ∈ m_ws := m_pr_in (j := 3) (k := 20) rfl rfl
set_option maxRecDepth 100000 in
theorem k_X7_need : m_cw 116 ∈ m_ws := m_pr_in (j := 3) (k := 35) rfl rfl
set_option maxRecDepth 100000 in
theorem k_X7_needHand : m_cw 117 ∈ m_ws := m_pr_in (j := 4) (k := 122) rfl rfl
set_option maxRecDepth 100000 in
theorem k_X7_isWithin : m_cw 118 ∈ m_ws := m_pr_in (j := 2) (k := 146) rfl rfl
set_option maxRecDepth 100000 in
theorem k_X7_isLaw : m_cw 119 ∈ m_ws := m_pr_in (j := 2) (k := 158) rfl rfl
set_option maxRecDepth 100000 in
theorem k_X7_lawInForce : m_cw 120 ∈ m_ws := m_pr_in (j := 2) (k := 154) rfl rfl
set_option maxRecDepth 100000 in
theorem k_X7_layOnTape : m_cw 121 ∈ m_ws := m_pr_in (j := 2) (k := 92) rfl rfl
set_option maxRecDepth 100000 in
theorem k_X7_keepingOfCase : m_cw 122 ∈ m_ws := m_pr_in (j := 4) (k := 85) rfl rfl
set_option maxRecDepth 100000 in
theorem k_X7_harmOfCase : m_cw 123 ∈ m_ws := m_pr_in (j := 4) (k := 89) rfl rfl
set_option maxRecDepth 100000 in
theorem k_X7_nameCase : m_cw 124 ∈ m_ws := m_pr_in (j := 4) (k := 82) rfl rfl
set_option maxRecDepth 100000 in
theorem k_X7_allCases : m_cw 125 ∈ m_ws := m_pr_in (j := 2) (k := 135) rfl rfl
set_option maxRecDepth 100000 in
theorem k_X7_reckonCases : m_cw 126 ∈ m_ws := m_pr_in (j := 2) (k := 112) rfl rfl
set_option maxRecDepth 100000 in
theorem k_X7_isBurdened : m_cw 127 ∈ m_ws := m_pr_in (j := 5) (k := 15) rfl rfl
set_option maxRecDepth 100000 in
theorem k_X7_burdenedCases : m_cw 128 ∈ m_ws := m_pr_in (j := 5) (k := 11) rfl rfl
set_option maxRecDepth 100000 in
theorem k_X7_casesLikeBit : m_cw 129 ∈ m_ws := m_pr_in (j := 5) (k := 33) rfl rfl
set_option maxRecDepth 100000 in
theorem k_X7_matters : m_cw 130 ∈ m_ws := m_pr_in (j := 2) (k := 232) rfl rfl
set_option maxRecDepth 100000 in
theorem k_X7_areBorneAlike : m_cw 131 ∈ m_ws := m_pr_in (j := 2) (k := 236) rfl rfl
set_option maxRecDepth 100000 in
theorem k_X8_init : m_cw 132 ∈ m_ws := m_pr_in (j := 5) (k := 114) rfl rfl
set_option maxRecDepth 100000 in
theorem k_X8_thrown : m_cw 133 ∈ m_ws := m_pr_in (j := 6) (k := 46) rfl rfl
set_option maxRecDepth 100000 in
theorem k_X8_bad : m_cw 134 ∈ m_ws := m_pr_in (j := 6) (k := 61) rfl rfl
set_option maxRecDepth 100000 in
theorem k_X8_in : m_cw 135 ∈ m_ws := m_pr_in (j := 6) (k := 57) rfl rfl
set_option maxRecDepth 100000 in
theorem k_X8_less : m_cw 136 ∈ m_ws := m_pr_in (j := 6) (k := 191) rfl rfl
set_option maxRecDepth 100000 in
theorem k_X8_feed : m_cw 137 ∈ m_ws := m_pr_in (j := 6) (k := 50) rfl rfl
set_option maxRecDepth 100000 in
theorem k_X8_byteAt : m_cw 138 ∈ m_ws := m_pr_in (j := 6) (k := 73) rfl rfl
set_option maxRecDepth 100000 in
theorem k_X8_blanks : m_cw 139 ∈ m_ws := m_pr_in (j := 6) (k := 69) rfl rfl
set_option maxRecDepth 100000 in
theorem k_X8_wrongAt : m_cw 140 ∈ m_ws := m_pr_in (j := 6) (k := 100) rfl rfl
set_option maxRecDepth 100000 in
theorem k_X8_isDigit : m_cw 141 ∈ m_ws := m_pr_in (j := 6) (k := 155) rfl rfl
set_option maxRecDepth 100000 in
theorem k_X8_number : m_cw 142 ∈ m_ws := m_pr_in (j := 6) (k := 159) rfl rfl
set_option maxRecDepth 100000 in
theorem k_X8_wordHere : m_cw 143 ∈ m_ws := m_pr_in (j := 6) (k := 89) rfl rfl
set_option maxRecDepth 100000 in
theorem k_X8_isAnswers : m_cw 144 ∈ m_ws := m_pr_in (j := 6) (k := 93) rfl rfl
set_option maxRecDepth 100000 in
theorem k_X8_word : m_cw 145 ∈ m_ws := m_pr_in (j := 6) (k := 96) rfl rfl
set_option maxRecDepth 100000 in
theorem k_X8_isWord : m_cw 146 ∈ m_ws := m_pr_in (j := 6) (k := 85) rfl rfl
set_option maxRecDepth 100000 in
theorem k_X8_skipWord : m_cw 147 ∈ m_ws := m_pr_in (j := 6) (k := 104) rfl rfl
set_option maxRecDepth 100000 in
theorem k_X8_sign : m_cw 148 ∈ m_ws := m_pr_in (j := 6) (k := 140) rfl rfl
set_option maxRecDepth 100000 in
theorem k_X8_opens : m_cw 149 ∈ m_ws := m_pr_in (j := 6) (k := 136) rfl rfl
set_option maxRecDepth 100000 in
theorem k_X8_nameHere : m_cw 150 ∈ m_ws := m_pr_in (j := 6) (k := 164) rfl rfl
set_option maxRecDepth 100000 in
theorem k_X8_unit : m_cw 151 ∈ m_ws := m_pr_in (j := 6) (k := 152) rfl rfl
set_option maxRecDepth 100000 in
theorem k_X8_product : m_cw 152 ∈ m_ws := m_pr_in (j := 6) (k := 148) rfl rfl
set_option maxRecDepth 100000 in
theorem k_X8_sum : m_cw 153 ∈ m_ws := m_pr_in (j := 6) (k := 144) rfl rfl
set_option maxRecDepth 100000 in
theorem k_X8_test : m_cw 154 ∈ m_ws := m_pr_in (j := 6) (k := 132) rfl rfl
set_option maxRecDepth 100000 in
theorem k_X8_ands : m_cw 155 ∈ m_ws := m_pr_in (j := 6) (k := 128) rfl rfl
set_option maxRecDepth 100000 in
theorem k_X8_ors : m_cw 156 ∈ m_ws := m_pr_in (j := 6) (k := 124) rfl rfl
set_option maxRecDepth 100000 in
theorem k_X8_keepingHere : m_cw 157 ∈ m_ws := m_pr_in (j := 6) (k := 81) rfl rfl
set_option maxRecDepth 100000 in
theorem k_X8_harmHere : m_cw 158 ∈ m_ws := m_pr_in (j := 6) (k := 120) rfl rfl
set_option maxRecDepth 100000 in
theorem k_X8_harms : m_cw 159 ∈ m_ws := m_pr_in (j := 6) (k := 116) rfl rfl
set_option maxRecDepth 100000 in
theorem k_X8_terms : m_cw 160 ∈ m_ws := m_pr_in (j := 6) (k := 168) rfl rfl
set_option maxRecDepth 100000 in
theorem k_X8_clause : m_cw 161 ∈ m_ws := m_pr_in (j := 6) (k := 77) rfl rfl
set_option maxRecDepth 100000 in
theorem k_X8_mixes : m_cw 162 ∈ m_ws := m_pr_in (j := 6) (k := 108) rfl rfl
set_option maxRecDepth 100000 in
theorem k_X8_says : m_cw 163 ∈ m_ws := m_pr_in (j := 6) (k := 112) rfl rfl
set_option maxRecDepth 100000 in
theorem k_X8_walks : m_cw 164 ∈ m_ws := m_pr_in (j := 6) (k := 65) rfl rfl
set_option maxRecDepth 100000 in
theorem k_X8_law : m_cw 165 ∈ m_ws := m_pr_in (j := 6) (k := 54) rfl rfl
set_option maxRecDepth 100000 in
theorem k_X8_fault : m_cw 166 ∈ m_ws := m_pr_in (j := 6) (k := 172) rfl rfl
set_option maxRecDepth 100000 in
theorem k_X8_force : m_cw 167 ∈ m_ws := m_pr_in (j := 6) (k := 176) rfl rfl
set_option maxRecDepth 100000 in
theorem k_X8_asks : m_cw 168 ∈ m_ws := m_pr_in (j := 6) (k := 188) rfl rfl
set_option maxRecDepth 100000 in
theorem k_X8_tellsBits : m_cw 169 ∈ m_ws := m_pr_in (j := 6) (k := 184) rfl rfl
set_option maxRecDepth 100000 in
theorem k_X8_words : m_cw 170 ∈ m_ws := m_pr_in (j := 6) (k := 180) rfl rfl
set_option maxRecDepth 100000 in
theorem k_X8_lets : m_cw 171 ∈ m_ws := m_pr_in (j := 6) (k := 195) rfl rfl
set_option maxRecDepth 100000 in
theorem k_X8_pass : m_cw 172 ∈ m_ws := m_pr_in (j := 6) (k := 199) rfl rfl
set_option maxRecDepth 100000 in
theorem k_X8_isHand : m_cw 173 ∈ m_ws := m_pr_in (j := 6) (k := 207) rfl rfl
set_option maxRecDepth 100000 in
theorem k_X8_hand : m_cw 174 ∈ m_ws := m_pr_in (j := 6) (k := 203) rfl rfl
set_option maxRecDepth 100000 in
theorem k_X8_value : m_cw 175 ∈ m_ws := m_pr_in (j := 6) (k := 211) rfl rfl
set_option maxRecDepth 100000 in
theorem k_X8_purse : m_cw 176 ∈ m_ws := m_pr_in (j := 6) (k := 215) rfl rfl
set_option maxRecDepth 100000 in
theorem k_X8_fact : m_cw 177 ∈ m_ws := m_pr_in (j := 6) (k := 219) rfl rfl
set_option maxRecDepth 100000 in
theorem k_X8_harm : m_cw 178 ∈ m_ws := m_pr_in (j := 6) (k := 223) rfl rfl
set_option maxRecDepth 100000 in
theorem k_X8_findHolder : m_cw 179 ∈ m_ws := m_pr_in (j := 6) (k := 231) rfl rfl
set_option maxRecDepth 100000 in
theorem k_X8_hasPassed : m_cw 180 ∈ m_ws := m_pr_in (j := 7) (k := 7) rfl rfl
set_option maxRecDepth 100000 in
theorem k_X8_tellsNames : m_cw 181 ∈ m_ws := m_pr_in (j := 7) (k := 3) rfl rfl
set_option maxRecDepth 100000 in
theorem k_X8_ends : m_cw 182 ∈ m_ws := m_pr_in (j := 6) (k := 239) rfl rfl
set_option maxRecDepth 100000 in
theorem k_X8_holder : m_cw 183 ∈ m_ws := m_pr_in (j := 6) (k := 227) rfl rfl
set_option maxRecDepth 100000 in
theorem k_X8_isWithin : m_cw 184 ∈ m_ws := m_pr_in (j := 7) (k := 11) rfl rfl
set_option maxRecDepth 100000 in
theorem k_X8_name : m_cw 185 ∈ m_ws := m_pr_in (j := 6) (k := 235) rfl rfl
set_option maxRecDepth 100000 in
theorem k_X8_claim : m_cw 186 ∈ m_ws := m_pr_in (j := 7) (k := 15) rfl rfl
set_option maxRecDepth 100000 in
theorem k_X8_whom : m_cw 187 ∈ m_ws := m_pr_in (j := 7) (k := 19) rfl rfl
set_option maxRecDepth 100000 in
theorem k_X8_pays : m_cw 188 ∈ m_ws := m_pr_in (j := 7) (k := 23) rfl rfl
set_option maxRecDepth 100000 in
theorem k_X8_bears : m_cw 189 ∈ m_ws := m_pr_in (j := 7) (k := 27) rfl rfl
set_option maxRecDepth 100000 in
theorem k_X8_must : m_cw 190 ∈ m_ws := m_pr_in (j := 7) (k := 31) rfl rfl
set_option maxRecDepth 100000 in
theorem k_X8_frees : m_cw 191 ∈ m_ws := m_pr_in (j := 7) (k := 35) rfl rfl
set_option maxRecDepth 100000 in
theorem k_X8_question : m_cw 192 ∈ m_ws := m_pr_in (j := 7) (k := 39) rfl rfl
set_option maxRecDepth 100000 in
theorem k_X8_goesInto : m_cw 193 ∈ m_ws := m_pr_in (j := 7) (k := 55) rfl rfl
set_option maxRecDepth 100000 in
theorem k_X8_comesBack : m_cw 194 ∈ m_ws := m_pr_in (j := 7) (k := 59) rfl rfl
set_option maxRecDepth 100000 in
theorem k_X8_caseMany : m_cw 195 ∈ m_ws := m_pr_in (j := 7) (k := 47) rfl rfl
set_option maxRecDepth 100000 in
theorem k_X8_findCases : m_cw 196 ∈ m_ws := m_pr_in (j := 7) (k := 51) rfl rfl
set_option maxRecDepth 100000 in
theorem k_X8_inCase : m_cw 197 ∈ m_ws := m_pr_in (j := 7) (k := 43) rfl rfl
set_option maxRecDepth 100000 in
theorem k_X8_casesOf : m_cw 198 ∈ m_ws := m_pr_in (j := 7) (k := 67) rfl rfl
set_option maxRecDepth 100000 in
theorem k_X8_sure : m_cw 199 ∈ m_ws := m_pr_in (j := 7) (k := 63) rfl rfl
set_option maxRecDepth 100000 in
theorem k_X8_cases : m_cw 200 ∈ m_ws := m_pr_in (j := 7) (k := 71) rfl rfl
set_option maxRecDepth 100000 in
theorem k_X8_hangs : m_cw 201 ∈ m_ws := m_pr_in (j := 7) (k := 75) rfl rfl
set_option maxRecDepth 100000 in
theorem k_X8_ones : m_cw 202 ∈ m_ws := m_pr_in (j := 7) (k := 82) rfl rfl
set_option maxRecDepth 100000 in
theorem k_X8_areAlike : m_cw 203 ∈ m_ws := m_pr_in (j := 7) (k := 90) rfl rfl
set_option maxRecDepth 100000 in
theorem k_X8_settles : m_cw 204 ∈ m_ws := m_pr_in (j := 7) (k := 86) rfl rfl
set_option maxRecDepth 100000 in
theorem k_X8_least : m_cw 205 ∈ m_ws := m_pr_in (j := 7) (k := 79) rfl rfl
set_option maxRecDepth 100000 in
theorem k_X8_find : m_cw 206 ∈ m_ws := m_pr_in (j := 7) (k := 94) rfl rfl
set_option maxRecDepth 100000 in
theorem k_X8_titleNow : m_cw 207 ∈ m_ws := m_pr_in (j := 7) (k := 102) rfl rfl
set_option maxRecDepth 100000 in
theorem k_X8_title : m_cw 208 ∈ m_ws := m_pr_in (j := 7) (k := 98) rfl rfl
set_option maxRecDepth 100000 in
theorem k_X8_found : m_cw 209 ∈ m_ws := m_pr_in (j := 7) (k := 106) rfl rfl
set_option maxRecDepth 100000 in
theorem k_X8_put : m_cw 210 ∈ m_ws := m_pr_in (j := 7) (k := 110) rfl rfl
set_option maxRecDepth 100000 in
theorem k_X8_share : m_cw 211 ∈ m_ws := m_pr_in (j := 7) (k := 114) rfl rfl
set_option maxRecDepth 100000 in
theorem k_X8_judge : m_cw 212 ∈ m_ws := m_pr_in (j := 7) (k := 118) rfl rfl
set_option maxRecDepth 100000 in
theorem k_X8_wrong : m_cw 213 ∈ m_ws := m_pr_in (j := 7) (k := 122) rfl rfl
set_option maxRecDepth 100000 in
theorem k_X8_claimIn : m_cw 214 ∈ m_ws := m_pr_in (j := 7) (k := 130) rfl rfl
set_option maxRecDepth 100000 in
theorem k_X8_parting : m_cw 215 ∈ m_ws := m_pr_in (j := 7) (k := 126) rfl rfl
set_option maxRecDepth 100000 in
theorem k_X8_beside : m_cw 216 ∈ m_ws := m_pr_in (j := 7) (k := 134) rfl rfl
set_option maxRecDepth 100000 in
theorem k_X8_moves : m_cw 217 ∈ m_ws := m_pr_in (j := 7) (k := 146) rfl rfl
set_option maxRecDepth 100000 in
theorem k_X8_movesAll : m_cw 218 ∈ m_ws := m_pr_in (j := 7) (k := 142) rfl rfl
set_option maxRecDepth 100000 in
theorem k_X8_image : m_cw 219 ∈ m_ws := m_pr_in (j := 7) (k := 138) rfl rfl
set_option maxRecDepth 100000 in
theorem k_X8_restore : m_cw 220 ∈ m_ws := m_pr_in (j := 7) (k := 150) rfl rfl
set_option maxRecDepth 100000 in
theorem k_X8_count : m_cw 221 ∈ m_ws := m_pr_in (j := 7) (k := 154) rfl rfl
set_option maxRecDepth 100000 in
theorem k_L_law : m_cw 222 ∈ m_ws := m_pr_in (j := 3) (k := 27) rfl rfl
set_option maxRecDepth 100000 in
theorem k_L_force : m_cw 223 ∈ m_ws := m_pr_in (j := 4) (k := 67) rfl rfl
set_option maxRecDepth 100000 in
theorem k_L_words : m_cw 224 ∈ m_ws := m_pr_in (j := 4) (k := 74) rfl rfl
set_option maxRecDepth 100000 in
theorem k_L_lets : m_cw 225 ∈ m_ws := m_pr_in (j := 4) (k := 93) rfl rfl
set_option maxRecDepth 100000 in
theorem k_L_pass : m_cw 226 ∈ m_ws := m_pr_in (j := 4) (k := 105) rfl rfl
set_option maxRecDepth 100000 in
theorem k_L_hand : m_cw 227 ∈ m_ws := m_pr_in (j := 4) (k := 113) rfl rfl
set_option maxRecDepth 100000 in
theorem k_L_value : m_cw 228 ∈ m_ws := m_pr_in (j := 4) (k := 145) rfl rfl
set_option maxRecDepth 100000 in
theorem k_L_purse : m_cw 229 ∈ m_ws := m_pr_in (j := 4) (k := 152) rfl rfl
set_option maxRecDepth 100000 in
theorem k_L_fact : m_cw 230 ∈ m_ws := m_pr_in (j := 4) (k := 159) rfl rfl
set_option maxRecDepth 100000 in
theorem k_L_harm : m_cw 231 ∈ m_ws := m_pr_in (j := 4) (k := 168) rfl rfl
set_option maxRecDepth 100000 in
theorem k_L_name : m_cw 232 ∈ m_ws := m_pr_in (j := 4) (k := 175) rfl rfl
set_option maxRecDepth 100000 in
theorem k_L_claim : m_cw 233 ∈ m_ws := m_pr_in (j := 4) (k := 183) rfl rfl
set_option maxRecDepth 100000 in
theorem k_L_whom : m_cw 234 ∈ m_ws := m_pr_in (j := 4) (k := 190) rfl rfl
set_option maxRecDepth 100000 in
theorem k_L_pays : m_cw 235 ∈ m_ws := m_pr_in (j := 4) (k := 197) rfl rfl
set_option maxRecDepth 100000 in
theorem k_L_bears : m_cw 236 ∈ m_ws := m_pr_in (j := 4) (k := 204) rfl rfl
set_option maxRecDepth 100000 in
theorem k_L_must : m_cw 237 ∈ m_ws := m_pr_in (j := 4) (k := 211) rfl rfl
set_option maxRecDepth 100000 in
theorem k_L_frees : m_cw 238 ∈ m_ws := m_pr_in (j := 4) (k := 218) rfl rfl
set_option maxRecDepth 100000 in
theorem k_L_question : m_cw 239 ∈ m_ws := m_pr_in (j := 4) (k := 225) rfl rfl
set_option maxRecDepth 100000 in
theorem k_L_inCase : m_cw 240 ∈ m_ws := m_pr_in (j := 4) (k := 236) rfl rfl
set_option maxRecDepth 100000 in
theorem k_L_sure : m_cw 241 ∈ m_ws := m_pr_in (j := 5) (k := 3) rfl rfl
set_option maxRecDepth 100000 in
theorem k_L_cases : m_cw 242 ∈ m_ws := m_pr_in (j := 5) (k := 18) rfl rfl
set_option maxRecDepth 100000 in
theorem k_L_hangs : m_cw 243 ∈ m_ws := m_pr_in (j := 5) (k := 25) rfl rfl
set_option maxRecDepth 100000 in
theorem k_L_find : m_cw 244 ∈ m_ws := m_pr_in (j := 5) (k := 36) rfl rfl
set_option maxRecDepth 100000 in
theorem k_L_found : m_cw 245 ∈ m_ws := m_pr_in (j := 5) (k := 49) rfl rfl
set_option maxRecDepth 100000 in
theorem k_L_put : m_cw 246 ∈ m_ws := m_pr_in (j := 5) (k := 56) rfl rfl
set_option maxRecDepth 100000 in
theorem k_L_share : m_cw 247 ∈ m_ws := m_pr_in (j := 5) (k := 67) rfl rfl
set_option maxRecDepth 100000 in
theorem k_L_judge : m_cw 248 ∈ m_ws := m_pr_in (j := 5) (k := 85) rfl rfl
set_option maxRecDepth 100000 in
theorem k_L_parting : m_cw 249 ∈ m_ws := m_pr_in (j := 5) (k := 92) rfl rfl
set_option maxRecDepth 100000 in
theorem k_L_beside : m_cw 250 ∈ m_ws := m_pr_in (j := 5) (k := 105) rfl rfl
set_option maxRecDepth 100000 in
theorem m_in_ok : ∀ q ∈ m_inl, Cond.instanceMethod (m_y q) ∈ m_ws := m_pl_all (f := fun q => Cond.instanceMethod (m_y q)) (by decide +kernel)
set_option maxRecDepth 100000 in
theorem m_st_ok : ∀ q ∈ m_stl, Cond.static (m_y q) ∈ m_ws := m_pl_all (f := fun q => Cond.static (m_y q)) (by decide +kernel)
set_option maxRecDepth 100000 in
theorem m_se_ok : ∀ q ∈ m_sel, Cond.selects (m_y q).cls (m_y q) (m_y q) ∈ m_ws := m_pl_all (f := fun q => Cond.selects (m_y q).cls (m_y q) (m_y q)) (by decide +kernel)
set_option maxRecDepth 100000 in
theorem m_it_ok : ∀ q ∈ m_itp.map (fun q => q.2), Cond.initialized (m_cn q) ∈ m_ws := m_pl_all (f := fun q => Cond.initialized (m_cn q)) (by decide +kernel)
set_option maxRecDepth 100000 in
theorem m_is_ok : ∀ q ∈ m_isp.map (fun q => q.2), Cond.instantiable (m_cn q) (m_vc q).2.2 ∈ m_ws := m_pl_all (f := fun q => Cond.instantiable (m_cn q) (m_vc q).2.2) (by decide +kernel)
/-- quick looking in lists of numbers -/
def m_mem (k : Nat) : List Nat → Bool
  | [] => false
  | x :: l => Nat.beq x k || m_mem k l
theorem m_mem_in {k : Nat} : ∀ {l : List Nat}, m_mem k l = true → k ∈ l
  | [], h => by simp [m_mem] at h
  | x :: l, h => by
    simp only [m_mem, Bool.or_eq_true] at h
    rcases h with h | h
    · rw [Nat.eq_of_beq_eq_true h]
      exact List.mem_cons_self
    · exact List.mem_cons_of_mem _ (m_mem_in h)
def m_fk (q : Nat × (Nat × (Nat × Nat))) : Nat := ((q.1 * 1000 + q.2.1) * 16 + q.2.2.1) * 64 + q.2.2.2
def m_mk (q : Nat × (Nat × Nat)) : Nat := (q.1 * 1000 + q.2.1) * 512 + q.2.2
def m_flk : List Nat := [11264, 17409, 21506, 24579, 27653, 32774, 39944, 50183, 59396, 62657, 65732, 72898, 80064, 83139, 91520, 94593, 97666, 1033280, 1039425, 1042498, 1045571, 1048644, 1052741, 1055814, 1068103, 1080322, 1087488, 1097920, 1102851, 1122501, 2057345, 2063490, 2066560, 3086528, 3090625, 3093698, 3096771, 3099844, 3102917, 3105990, 3109063, 4105472, 4111618, 4115715, 4118788, 4121861, 4124934, 4128007, 4131081, 4134145, 4137224, 5129536, 5135682, 5142852, 5153091, 5159233, 5162313, 5165383, 5171525, 5216512, 5255496, 5302598, 6151552, 6157697, 6160770, 7177664, 7183810, 7188932, 7196101, 7200198, 7204295, 7210440, 7214537, 7217610, 7224780, 7228877, 7231937, 7247299, 7254336, 7261189, 7289857, 7292928, 7297217, 7305408, 7308482, 7311555, 7314628, 7323650, 7326917, 7336963, 7340036, 7359552, 7362625, 7365698, 7368771, 7371844, 7397383, 7414790, 7419264, 7434248, 7446784, 7455942, 7463371, 7466112, 8201731, 8205833, 8211978, 8215051, 8218125, 8221198, 8224282, 8227355, 8230428, 8233502, 8236575, 8239648, 8244769, 8247843, 8250916, 8253989, 8257062, 8260135, 8263208, 8267305, 8270378, 8273452, 8276525, 8279600, 8282675, 8285749, 8288768, 8291841, 8294914, 8297992, 8301060, 8308230, 8311303, 8343045, 8389136, 8392209, 8398354, 8404495, 8411668, 8417814, 8421909, 8424983, 8428051, 8434200, 8437273, 8447500, 8466973, 8470050, 8488491, 8491566, 8494639, 8526385, 8529458, 8539700]
def m_mlk : List Nat := [22038, 23064, 26700, 28177, 34330, 37891, 43045, 50184, 53787, 529419, 530946, 536076, 538125, 541710, 545796, 552994, 555034, 557091, 559107, 1038355, 1040405, 1540631, 2070046, 2072103, 2074152, 2076201, 2082850, 2084899, 2086442, 2577949, 2584132, 2587181, 2590280, 2593351, 2595395, 2597406, 2598958, 2600522, 2602031, 2603584, 2606111, 2610745, 2612274, 2613808, 2616385, 2617908, 2619441, 2621984, 2624051, 2625602, 2629173, 2631713, 2633270, 2636855, 2638398, 2639935, 2641464, 2643002, 2644539, 2646076, 2648637, 2652741, 2654278, 2660425, 3604480, 3617401, 3619446, 3621492, 3625004, 3628663, 3632252, 3634298, 3636259, 3638395, 3639842, 3641894, 3643429, 3651095, 3658869, 3660313, 3664922, 3666459, 3671554, 3673720, 3675652, 3677706, 3687937, 3689989, 3692157, 3693575, 3695742, 3697280, 3700353, 3702402, 3712008, 3714054, 3715599, 3719186, 3721747, 3724820, 3726357, 3729444, 3741311, 3742851, 4151946, 4157067, 4158605, 4160652, 4163207, 4165264, 4167311, 4169361, 4172946, 4174990, 4177046, 4178579, 4180117, 4182169, 4183700, 4185239, 4186776, 4188314, 4189852, 4191387, 4192926, 4197533, 4200610, 4203683, 4207263, 4215456, 4220065, 4221574, 4225188, 4226696, 4228265, 4229800, 4231853, 4236468, 4238003, 4239541, 4241078, 4242616, 4248771, 4250305, 4251842, 4253380, 4254918, 4256459, 4258506, 4260044, 4261583, 4266198, 4267737, 4271322, 4611663, 4615761, 4617298, 4619347, 4621396, 4623445, 4626518, 4628055, 4629592, 4631641, 4633179, 4634716, 4636253, 4637790, 4639327, 4640864, 4642913, 4644450, 4646499, 4648036, 4649573, 4651110, 4652648, 4654698, 4656235, 4657772, 4659309, 4660847, 4662384, 4663885, 4665476, 4665934, 4668041, 4668638, 4671141, 4671621, 4673616, 4675238, 4675807, 4676775, 4677344, 4678826, 4679393, 4680875, 4681442, 4682924, 4683491, 4684974, 4685540, 4686511, 4687077, 4688048, 4688614, 4690097, 4690663, 4691634, 4692058, 4693687, 4694248, 4695225, 4695785, 4696762, 4697322, 4698299, 4698859, 4699836, 4700396, 4701373, 4701933, 4702910, 4703470, 4704447, 4705007, 4705984, 4706544, 4707525, 4708081, 4709063, 4709618, 4710600, 4711155, 4712137, 4712551, 4714189, 4714740, 4716238, 4716649, 4718288, 4718837, 4719825, 4720374, 4721362, 4721911, 4722899, 4723448, 4724436, 4724846, 4726485, 4727033, 4728023, 4728570, 4729560, 4729969, 4731611, 4732018, 4733660, 4734067, 4735709]
def m_nps : List Nat := [1, 2, 1, 3, 5, 4, 2, 3, 4, 1, 3, 1, 4, 2, 2, 2, 1, 2, 3, 1, 2, 3, 1, 1, 2, 2, 2, 3, 1, 1, 1, 3, 2, 2, 5, 3, 4, 3, 2, 4, 2, 3, 3, 1, 4, 1, 1, 2, 1, 1, 1, 1, 1, 1, 1, 1, 1, 1, 1, 1, 1, 2, 1, 2, 2, 2, 3, 2, 1, 1, 1, 2, 2, 4, 2, 1, 2, 1, 6, 2, 1, 2, 7, 4, 6, 3, 2, 3, 4, 3, 1, 3, 2, 2, 2, 2, 2, 2, 4, 3, 2, 2, 2, 1, 3, 1, 3, 3, 3, 3, 1, 3, 3, 1, 1, 2, 1, 2, 2, 2, 1, 2, 1, 1, 5, 1, 1, 3, 2, 3, 2, 3, 1, 1, 3, 3, 2, 6, 2, 1, 3, 1, 3, 1, 1, 6, 7, 1, 2, 2, 1, 1, 1, 1, 1, 1, 1, 1, 1, 1, 1, 1, 1, 2, 1, 2, 1, 2, 5, 2, 7, 4, 6, 2, 3, 2, 3, 4, 3, 1, 2, 3, 2, 1, 2, 3, 2, 2, 2, 2, 2, 2, 4, 2, 1, 1, 1, 3, 2, 2, 2, 2, 1, 3, 2, 1, 3, 1, 1, 3, 3, 3, 3, 1, 3, 3, 3, 5, 3, 1, 1, 2, 3, 3, 8, 5, 7, 4, 3, 4, 5, 4, 4, 3, 3, 3, 3, 3, 3, 5, 4, 3, 3, 3, 4, 4, 4, 4, 4, 4, 4, 2]
def m_ows : List Nat := [0, 0, 0, 0, 0, 0, 0, 0, 0, 1, 1, 1, 1, 1, 1, 1, 2, 2, 2, 2, 2, 2, 3, 3, 3, 3, 3, 3, 4, 4, 4, 4, 4, 4, 4, 4, 4, 4, 4, 4, 4, 4, 4, 5, 5, 5, 5, 5, 5, 5, 5, 5, 5, 5, 5, 5, 5, 5, 5, 5, 5, 5, 5, 5, 5, 5, 5, 5, 5, 5, 5, 5, 5, 5, 5, 6, 6, 7, 7, 7, 7, 7, 7, 7, 7, 7, 7, 7, 7, 7, 7, 7, 7, 7, 7, 7, 7, 7, 7, 7, 7, 7, 7, 7, 7, 7, 7, 7, 7, 7, 7, 7, 7, 7, 7, 7, 7, 7, 7, 7, 7, 7, 7, 7, 7, 7, 7, 7, 7, 7, 7, 7, 8, 8, 8, 8, 8, 8, 8, 8, 8, 8, 8, 8, 8, 8, 8, 8, 8, 8, 8, 8, 8, 8, 8, 8, 8, 8, 8, 8, 8, 8, 8, 8, 8, 8, 8, 8, 8, 8, 8, 8, 8, 8, 8, 8, 8, 8, 8, 8, 8, 8, 8, 8, 8, 8, 8, 8, 8, 8, 8, 8, 8, 8, 8, 8, 8, 8, 8, 8, 8, 8, 8, 8, 8, 8, 8, 8, 8, 8, 8, 8, 8, 8, 8, 8, 8, 8, 8, 8, 8, 8, 9, 9, 9, 9, 9, 9, 9, 9, 9, 9, 9, 9, 9, 9, 9, 9, 9, 9, 9, 9, 9, 9, 9, 9, 9, 9, 9, 9, 9, 9]
abbrev m_ifl (q : Nat × (Nat × (Nat × Nat))) : Prop := m_mem (m_fk q) m_flk = true ∧ q.2.1 < 1000 ∧ q.2.2.1 < 16 ∧ q.2.2.2 < 64
abbrev m_iml (q : Nat × (Nat × Nat)) : Prop := m_mem (m_mk q) m_mlk = true ∧ q.2.1 < 1000 ∧ q.2.2 < 512
set_option maxRecDepth 100000 in
theorem m_flk_ok : m_flk = m_fl.map m_fk ∧ (m_fl.all fun q => decide (q.2.1 < 1000 ∧ q.2.2.1 < 16 ∧ q.2.2.2 < 64)) = true := by decide +kernel
set_option maxRecDepth 100000 in
theorem m_mlk_ok : m_mlk = m_ml.map m_mk ∧ (m_ml.all fun q => decide (q.2.1 < 1000 ∧ q.2.2 < 512)) = true := by decide +kernel
theorem m_ifl_in {q : Nat × (Nat × (Nat × Nat))} (h : m_ifl q) : q ∈ m_fl := by
  obtain ⟨h1, h2, h3, h4⟩ := h
  have h5 := m_mem_in h1
  rw [m_flk_ok.1] at h5
  obtain ⟨x, hx, e⟩ := List.mem_map.mp h5
  have h6 := of_decide_eq_true (List.all_eq_true.mp m_flk_ok.2 x hx)
  obtain ⟨a, b, c, d⟩ := q
  obtain ⟨a', b', c', d'⟩ := x
  simp only [m_fk] at e h2 h3 h4 h6
  obtain ⟨g1, g2, g3⟩ := h6
  have e1 : a = a' ∧ b = b' ∧ c = c' ∧ d = d' := by omega
  obtain ⟨rfl, rfl, rfl, rfl⟩ := e1
  exact hx
theorem m_iml_in {q : Nat × (Nat × Nat)} (h : m_iml q) : q ∈ m_ml := by
  obtain ⟨h1, h2, h3⟩ := h
  have h5 := m_mem_in h1
  rw [m_mlk_ok.1] at h5
  obtain ⟨x, hx, e⟩ := List.mem_map.mp h5
  have h6 := of_decide_eq_true (List.all_eq_true.mp m_mlk_ok.2 x hx)
  obtain ⟨a, b, c⟩ := q
  obtain ⟨a', b', c'⟩ := x
  simp only [m_mk] at e h2 h3 h6
  obtain ⟨g1, g2⟩ := h6
  have e1 : a = a' ∧ b = b' ∧ c = c' := by omega
  obtain ⟨rfl, rfl, rfl⟩ := e1
  exact hx
end
section
/-! THE LOOK: each of our instructions is what the bytes at its place say. -/
def m_cnd (c : Nat) : ClassFile.Cond := match c with
  | 0 => .eq
  | 1 => .ne
  | 2 => .lt
  | 3 => .ge
  | 4 => .gt
  | _ => .le
def m_bi (o : Nat) : Instr := match o with
  | 0 => .iadd
  | 1 => .isub
  | 2 => .imul
  | 3 => .idiv
  | 4 => .irem
  | 5 => .ishl
  | 6 => .ishr
  | 7 => .iand
  | 8 => .ior
  | _ => .ixor
/-- the byte where the instruction of place t begins -/
def m_pc (L : List (Nat × m_I)) (t : Nat) : Nat := match L[t]? with
  | some q => q.1
  | none => 0
abbrev m_dc (cd : ByteArray) (pc : Nat) (j : Instr) (n : Nat) : Prop := decode cd pc = .ok (j, n)
/-- .. and the next one lies right behind it -/
abbrev m_d1 (cd : ByteArray) (L : List (Nat × m_I)) (pc i : Nat) (j : Instr) (n : Nat) : Prop := decode cd pc = .ok (j, n) ∧ m_pc L (i + 1) = pc + n
abbrev m_tg (L : List (Nat × m_I)) (t : Nat) : Prop := t < L.length
noncomputable def m_kd (ci k : Nat) : Nat := if ((m_vc ci).2.1 k).2.2.1 = "I" then 0 else if ((m_vc ci).2.1 k).2.2.1 = "Z" then 1 else 2
/-- the words' number that an instruction names -/
def m_ix (l : List (Int32 × Nat)) : Nat := match l with
  | q :: _ => q.2
  | [] => 0
def m_at (t : Nat) : ArrayType := match t with
  | 0 => .int
  | 1 => .boolean
  | _ => .long
/-- how many values a call of method a takes -/
noncomputable def m_np (a : Nat) : Option Nat := (parseMethodDescriptor (m_y a).desc).map fun d => d.parameters.length + (if a ∈ m_stl then 0 else 1)
/-- a throw: new, dup, ldc (or ldc_w), invokespecial, athrow -/
abbrev m_tw (cd : ByteArray) (pc ik is ic w : Nat) : Prop := m_dc cd pc (.new ik) 3 ∧ m_dc cd (pc + 3) .dup 1 ∧
  ((w = 0 ∧ m_dc cd (pc + 4) (.ldc is) 2 ∧ m_dc cd (pc + 6) (.invokespecial ic) 3 ∧ m_dc cd (pc + 9) .athrow 1) ∨ (w = 1 ∧ m_dc cd (pc + 4) (.ldc_w is) 3 ∧ m_dc cd (pc + 7) (.invokespecial ic) 3 ∧ m_dc cd (pc + 10) .athrow 1))
/-- a handler's row (from, to, at, type) and ours (from, to, what, answer) -/
abbrev m_hd (cd : ByteArray) (own : Nat) (q : Nat × Nat × Nat × Nat) (h : Nat × (Nat × (Nat × Int32))) : Prop := q.1 = h.1 ∧ q.2.1 = h.2.1 ∧ own = 9 ∧ ((h.2.2.1 = 0 ∧ q.2.2.2 = 13) ∨ (h.2.2.1 = 1 ∧ q.2.2.2 = 34)) ∧
  ((∃ k : Fin 4, m_dc cd q.2.2.1 (.astore_n k) 1 ∧ k.val < 3 + 1 ∧ m_dc cd (q.2.2.1 + 1) (.iconst h.2.2.2.toInt) 1 ∧ m_dc cd (q.2.2.1 + 2) .ireturn 1) ∨ (∃ k : Fin 16, m_dc cd q.2.2.1 (.astore k.val) 2 ∧ m_dc cd (q.2.2.1 + 2) (.iconst h.2.2.2.toInt) 1 ∧ m_dc cd (q.2.2.1 + 3) .ireturn 1))
/-- the constructors; the methods with handlers (the law's own) -/
def m_ins : List Nat := [0, 9, 16, 22, 28, 43, 75, 77, 132]
def m_nh (a : Nat) : Bool := Nat.ble a 221
noncomputable def m_lk (own : Nat) (cd : ByteArray) (mx : Nat) (rt : Option FieldType) (ini : Bool) (L : List (Nat × m_I)) (pc i : Nat) (I : m_I) : Bool := match I with
  | (o, (a, (b, (n, l)))) => match o with
    | 0 => decide (m_d1 cd L pc i (.iconst n.toInt) 1 ∨ (m_d1 cd L pc i (.bipush n.toInt) 2 ∧ (Int8.ofInt n.toInt).toInt32 = n) ∨ (m_d1 cd L pc i (.sipush n.toInt) 3 ∧ (Int16.ofInt n.toInt).toInt32 = n) ∨ (m_d1 cd L pc i (.ldc a) 2 ∧ (own, (a, n)) ∈ m_kl))
    | 1 => decide (m_d1 cd L pc i (.iload a) 2 ∨ (a < 4 ∧ m_d1 cd L pc i (.iload_n (Fin.ofNat 4 a)) 1))
    | 2 => decide (m_d1 cd L pc i (.aload a) 2 ∨ (a < 4 ∧ m_d1 cd L pc i (.aload_n (Fin.ofNat 4 a)) 1))
    | 3 => decide (m_d1 cd L pc i (.istore a) 2 ∨ (a < 4 ∧ m_d1 cd L pc i (.istore_n (Fin.ofNat 4 a)) 1))
    | 4 => decide (m_d1 cd L pc i (.astore a) 2 ∨ (a < 4 ∧ m_d1 cd L pc i (.astore_n (Fin.ofNat 4 a)) 1))
    | 5 => decide (m_d1 cd L pc i (.iinc a n.toInt) 3)
    | 6 => decide (m_d1 cd L pc i (.getfield (m_ix l)) 3 ∧ m_ifl (own, (m_ix l, (a, b))))
    | 7 => decide (m_d1 cd L pc i (.putfield (m_ix l)) 3 ∧ m_ifl (own, (m_ix l, (a, b))) ∧ n.toNatClampNeg = m_kd a b ∧ (((m_vc a).2.1 b).2.2.2 = false ∨ (ini = true ∧ own = a)))
    | 8 => decide (m_d1 cd L pc i .iaload 1)
    | 9 => decide (m_d1 cd L pc i .iastore 1)
    | 10 => decide (m_d1 cd L pc i .baload 1)
    | 11 => decide (m_d1 cd L pc i .bastore 1)
    | 12 => decide (m_d1 cd L pc i .aaload 1)
    | 13 => decide (m_d1 cd L pc i .aastore 1)
    | 14 => decide (m_d1 cd L pc i .laload 1)
    | 15 => decide (m_d1 cd L pc i .lastore 1)
    | 16 => decide (m_d1 cd L pc i .arraylength 1)
    | 17 => decide (m_d1 cd L pc i (m_bi a) 1)
    | 18 => decide (m_d1 cd L pc i (.ifCond (m_cnd a) ((m_pc L b : Int) - pc)) 3 ∧ m_tg L b)
    | 19 => decide (m_d1 cd L pc i (.if_icmp (m_cnd a) ((m_pc L b : Int) - pc)) 3 ∧ m_tg L b)
    | 20 => decide (m_dc cd pc (.goto ((m_pc L b : Int) - pc)) 3 ∧ m_tg L b)
    | 21 => decide ((a = 0 ∧ m_dc cd pc (.tableswitch ((m_pc L b : Int) - pc) n.toInt (n.toInt + (l.length : Int) - 1) (l.map (fun q => (m_pc L q.2 : Int) - pc)).toArray) (m_pc L (i + 1) - pc) ∧ l.map (fun q => q.1) = (List.range l.length).map (fun j => n + Int32.ofNat j) ∧ 0 ≤ n ∧ n.toInt + (l.length : Int) < 1000) ∨
        (a = 1 ∧ m_dc cd pc (.lookupswitch ((m_pc L b : Int) - pc) (l.map (fun q => (q.1.toInt, (m_pc L q.2 : Int) - pc))).toArray) (m_pc L (i + 1) - pc) ∧ ((l.map (fun q => (q.1.toInt, (m_pc L q.2 : Int) - pc))).zip ((l.map (fun q => (q.1.toInt, (m_pc L q.2 : Int) - pc))).drop 1)).all (fun (a, next) => a.1 < next.1) = true))
    | 22 => decide (m_d1 cd L pc i .dup 1)
    | 23 => decide (m_d1 cd L pc i .dup2 1)
    | 24 => decide (m_d1 cd L pc i .i2l 1)
    | 25 => decide (a < 2 ∧ m_d1 cd L pc i (.lconst (Fin.ofNat 2 a)) 1)
    | 26 => decide (m_d1 cd L pc i .lcmp 1)
    | 27 => decide (m_dc cd pc .ireturn 1 ∧ ((a = 0 ∧ rt = some .int) ∨ (a = 1 ∧ rt = some .boolean)))
    | 28 => decide (m_dc cd pc .areturn 1 ∧ rt = some (.object RX4))
    | 29 => decide (m_dc cd pc .return_ 1 ∧ rt = none)
    | 30 => decide (m_pc L (i + 1) = pc + 3) && decide (m_nps.getD a 0 = b) && (
        (decide (l.map (fun q => q.1) = [0]) && decide (m_dc cd pc (.invokevirtual (m_ix l)) 3) && decide (m_iml (own, (m_ix l, a))) && m_mem a m_inl && m_mem a m_sel && decide (n.toNatClampNeg = m_ows.getD a 0 + 1) && m_nh a && decide (0 < b)) ||
         (decide (l.map (fun q => q.1) = [1]) && decide (m_dc cd pc (.invokestatic (m_ix l)) 3) && decide (m_iml (own, (m_ix l, a))) && m_mem a m_stl && decide (n.toNatClampNeg = 0)) ||
         (decide (l.map (fun q => q.1) = [2]) && decide (m_dc cd pc (.invokespecial (m_ix l)) 3) && decide (m_iml (own, (m_ix l, a))) && m_mem a m_inl && m_mem a m_ins && decide (n.toNatClampNeg = 0) && m_nh a && true && decide (0 < b)) ||
         (decide (l.map (fun q => q.1) = [4]) && decide (m_dc cd pc (.invokestatic (m_ix l)) 3) && decide ((own, (m_ix l, a)) ∈ m_nl) && m_mem a m_stl && decide (n.toNatClampNeg = 0) && m_nh a) ||
         (decide (l.map (fun q => q.1) = [5]) && decide (m_dc cd pc (.invokespecial (m_ix l)) 3) && decide ((own, (m_ix l, a)) ∈ m_nl) && m_mem a m_inl && m_mem a m_ins && decide (n.toNatClampNeg = 0) && m_nh a && true && decide (0 < b)))
    | 31 => decide (m_d1 cd L pc i (.invokestatic (m_ix l)) 3 ∧ (own, (m_ix l, 1)) ∈ m_jl)
    | 32 => decide (m_d1 cd L pc i (.invokestatic (m_ix l)) 3 ∧ (own, (m_ix l, 2)) ∈ m_jl)
    | 33 => decide (m_d1 cd L pc i (.invokestatic (m_ix l)) 3 ∧ (own, (m_ix l, 3)) ∈ m_jl)
    | 34 => decide (m_d1 cd L pc i (.invokevirtual (m_ix l)) 3 ∧ (own, (m_ix l, 4)) ∈ m_jl)
    | 35 => decide (m_d1 cd L pc i (.invokevirtual (m_ix l)) 3 ∧ (own, (m_ix l, 5)) ∈ m_jl)
    | 36 => match l with
      | [w, is, ic] => decide (m_tw cd pc w.2 is.2 ic.2 w.1.toNatClampNeg ∧ (own, (w.2, (is.2, (ic.2, a)))) ∈ m_tl)
      | _ => false
    | 37 => decide (m_d1 cd L pc i (.new (m_ix l)) 3 ∧ (own, (m_ix l, a)) ∈ m_cl ∧ a < 9)
    | 38 => decide (m_pc L (i + 1) = pc + (if a < 3 then 2 else 3) ∧ ((a < 3 ∧ m_dc cd pc (.newarray (m_at a)) 2) ∨ (5 ≤ a ∧ m_dc cd pc (.anewarray (m_ix l)) 3 ∧ (own, (m_ix l, a)) ∈ m_al)))
    | 39 => decide (m_d1 cd L pc i (.multianewarray (m_ix l) 2) 4 ∧ (own, (m_ix l, a + 3)) ∈ m_al)
    | 40 => decide (m_d1 cd L pc i (.invokespecial (m_ix l)) 3 ∧ (own, (m_ix l, 0)) ∈ m_jl)
    | 41 => decide (m_d1 cd L pc i (.ldc b) 2 ∧ (own, (b, a)) ∈ m_sl)
    | _ => true
noncomputable def m_li (own : Nat) (cd : ByteArray) (mx : Nat) (rt : Option FieldType) (ini : Bool) (L : List (Nat × m_I)) : Nat → List (Nat × m_I) → Bool
  | _, [] => true
  | i, q :: r => m_lk own cd mx rt ini L q.1 i q.2 && m_li own cd mx rt ini L (i + 1) r
noncomputable def m_lm (own : Nat) (cd : ByteArray) (mx : Nat) (rt : Option FieldType) (ini : Bool) (hh : List (Nat × Nat × Nat × Nat)) (M : m_Md) : Bool :=
  m_li own cd mx rt ini M.1 0 M.1 && decide (M.2.2 = mx) && decide (hh.length = M.2.1.length) && (hh.zip M.2.1).all (fun q => decide (m_hd cd own q.1 q.2)) && decide (m_pc M.1 0 = 0)
set_option maxRecDepth 100000 in
theorem m_ins_ok : (m_ins.all fun a => decide ((m_y a).name = "<init>") && decide (m_rt a = none)) = true ∧ ((List.range 222).all fun a => decide (m_hh a = [])) = true := by decide +kernel
set_option maxRecDepth 100000 in
theorem m_nps_ok : ((List.range 251).all fun a => decide (m_np a = some (m_nps.getD a 0)) && decide (m_ow a = m_ows.getD a 0)) = true := by decide +kernel
theorem m_li_at {own : Nat} {cd : ByteArray} {mx : Nat} {rt : Option FieldType} {ini : Bool} {L : List (Nat × m_I)} : ∀ (l : List (Nat × m_I)) (i : Nat), m_li own cd mx rt ini L i l = true → ∀ (r : Nat) (q : Nat × m_I), l[r]? = some q → m_lk own cd mx rt ini L q.1 (i + r) q.2 = true
  | [], _, _, r, q, h => by simp at h
  | x :: l, i, h, 0, q, hq => by
    simp only [m_li, Bool.and_eq_true] at h
    simp only [List.getElem?_cons_zero, Option.some.injEq] at hq
    subst hq
    exact h.1
  | x :: l, i, h, r + 1, q, hq => by
    simp only [m_li, Bool.and_eq_true] at h
    rw [List.getElem?_cons_succ] at hq
    have := m_li_at l (i + 1) h.2 r q hq
    rwa [show i + 1 + r = i + (r + 1) by omega] at this
/-- all that the look says of a method -/
def m_good (own : Nat) (cd : ByteArray) (mx : Nat) (rt : Option FieldType) (ini : Bool) (hh : List (Nat × Nat × Nat × Nat)) (M : m_Md) : Prop :=
  (∀ (i : Nat) (q : Nat × m_I), M.1[i]? = some q → m_lk own cd mx rt ini M.1 q.1 i q.2 = true) ∧ M.2.2 = mx ∧ hh.length = M.2.1.length ∧ (hh.zip M.2.1).all (fun q => decide (m_hd cd own q.1 q.2)) = true ∧ m_pc M.1 0 = 0
theorem m_good_of {own : Nat} {cd : ByteArray} {mx : Nat} {rt : Option FieldType} {ini : Bool} {hh : List (Nat × Nat × Nat × Nat)} {M : m_Md} (h : m_lm own cd mx rt ini hh M = true) : m_good own cd mx rt ini hh M := by
  simp only [m_lm, Bool.and_eq_true, decide_eq_true_eq] at h
  obtain ⟨⟨⟨⟨h1, h2⟩, h3⟩, h4⟩, h5⟩ := h
  refine ⟨fun i q hq => ?_, h2, h3, h4, h5⟩
  have := m_li_at M.1 0 h1 i q hq
  rwa [Nat.zero_add] at this
end
section
/-! THE LOOK at the methods of the class, one by one; written by a program (wip/whole/gen_06.py) -/
set_option maxRecDepth 100000 in
theorem o_X0_init : m_lm 0 cX0_init 2 none true [] m_X0_init = true := by decide +kernel
theorem g_X0_init : m_good 0 cX0_init 2 none true [] m_X0_init := m_good_of o_X0_init
set_option maxRecDepth 100000 in
theorem o_X0_setTo : m_lm 0 cX0_setTo 3 none false [] m_X0_setTo = true := by decide +kernel
theorem g_X0_setTo : m_good 0 cX0_setTo 3 none false [] m_X0_setTo := m_good_of o_X0_setTo
set_option maxRecDepth 100000 in
theorem o_X0_latestHolder : m_lm 0 cX0_latestHolder 3 (some .int) false [] m_X0_latestHolder = true := by decide +kernel
theorem g_X0_latestHolder : m_good 0 cX0_latestHolder 3 (some .int) false [] m_X0_latestHolder := m_good_of o_X0_latestHolder
set_option maxRecDepth 100000 in
theorem o_X0_hasPassed : m_lm 0 cX0_hasPassed 3 (some .boolean) false [] m_X0_hasPassed = true := by decide +kernel
theorem g_X0_hasPassed : m_good 0 cX0_hasPassed 3 (some .boolean) false [] m_X0_hasPassed := m_good_of o_X0_hasPassed
set_option maxRecDepth 100000 in
theorem o_X0_nameHand : m_lm 0 cX0_nameHand 7 none false [] m_X0_nameHand = true := by decide +kernel
theorem g_X0_nameHand : m_good 0 cX0_nameHand 7 none false [] m_X0_nameHand := m_good_of o_X0_nameHand
set_option maxRecDepth 100000 in
theorem o_X0_ask : m_lm 0 cX0_ask 5 (some .int) false [] m_X0_ask = true := by decide +kernel
theorem g_X0_ask : m_good 0 cX0_ask 5 (some .int) false [] m_X0_ask := m_good_of o_X0_ask
set_option maxRecDepth 100000 in
theorem o_X0_dropQuestion : m_lm 0 cX0_dropQuestion 3 none false [] m_X0_dropQuestion = true := by decide +kernel
theorem g_X0_dropQuestion : m_good 0 cX0_dropQuestion 3 none false [] m_X0_dropQuestion := m_good_of o_X0_dropQuestion
set_option maxRecDepth 100000 in
theorem o_X0_suppose : m_lm 0 cX0_suppose 4 none false [] m_X0_suppose = true := by decide +kernel
theorem g_X0_suppose : m_good 0 cX0_suppose 4 none false [] m_X0_suppose := m_good_of o_X0_suppose
set_option maxRecDepth 100000 in
theorem o_X0_tell : m_lm 0 cX0_tell 4 none false [] m_X0_tell = true := by decide +kernel
theorem g_X0_tell : m_good 0 cX0_tell 4 none false [] m_X0_tell := m_good_of o_X0_tell
set_option maxRecDepth 100000 in
theorem o_X1_init : m_lm 1 cX1_init 1 none true [] m_X1_init = true := by decide +kernel
theorem g_X1_init : m_good 1 cX1_init 1 none true [] m_X1_init := m_good_of o_X1_init
set_option maxRecDepth 100000 in
theorem o_X1_reckon : m_lm 1 cX1_reckon 4 none false [] m_X1_reckon = true := by decide +kernel
theorem g_X1_reckon : m_good 1 cX1_reckon 4 none false [] m_X1_reckon := m_good_of o_X1_reckon
set_option maxRecDepth 100000 in
theorem o_X1_clear : m_lm 1 cX1_clear 2 none false [] m_X1_clear = true := by decide +kernel
theorem g_X1_clear : m_good 1 cX1_clear 2 none false [] m_X1_clear := m_good_of o_X1_clear
set_option maxRecDepth 100000 in
theorem o_X1_claimOn : m_lm 1 cX1_claimOn 6 none false [] m_X1_claimOn = true := by decide +kernel
theorem g_X1_claimOn : m_good 1 cX1_claimOn 6 none false [] m_X1_claimOn := m_good_of o_X1_claimOn
set_option maxRecDepth 100000 in
theorem o_X1_payUp : m_lm 1 cX1_payUp 3 none false [] m_X1_payUp = true := by decide +kernel
theorem g_X1_payUp : m_good 1 cX1_payUp 3 none false [] m_X1_payUp := m_good_of o_X1_payUp
set_option maxRecDepth 100000 in
theorem o_X1_payOwner : m_lm 1 cX1_payOwner 3 none false [] m_X1_payOwner = true := by decide +kernel
theorem g_X1_payOwner : m_good 1 cX1_payOwner 3 none false [] m_X1_payOwner := m_good_of o_X1_payOwner
set_option maxRecDepth 100000 in
theorem o_X1_titleFor : m_lm 1 cX1_titleFor 5 (some .int) false [] m_X1_titleFor = true := by decide +kernel
theorem g_X1_titleFor : m_good 1 cX1_titleFor 5 (some .int) false [] m_X1_titleFor := m_good_of o_X1_titleFor
set_option maxRecDepth 100000 in
theorem o_X2_init : m_lm 2 cX2_init 1 none true [] m_X2_init = true := by decide +kernel
theorem g_X2_init : m_good 2 cX2_init 1 none true [] m_X2_init := m_good_of o_X2_init
set_option maxRecDepth 100000 in
theorem o_X2_setTo : m_lm 2 cX2_setTo 2 none false [] m_X2_setTo = true := by decide +kernel
theorem g_X2_setTo : m_good 2 cX2_setTo 2 none false [] m_X2_setTo := m_good_of o_X2_setTo
set_option maxRecDepth 100000 in
theorem o_X2_add : m_lm 2 cX2_add 3 (some .boolean) false [] m_X2_add = true := by decide +kernel
theorem g_X2_add : m_good 2 cX2_add 3 (some .boolean) false [] m_X2_add := m_good_of o_X2_add
set_option maxRecDepth 100000 in
theorem o_X2_all : m_lm 2 cX2_all 3 (some .int) false [] m_X2_all = true := by decide +kernel
theorem g_X2_all : m_good 2 cX2_all 3 (some .int) false [] m_X2_all := m_good_of o_X2_all
set_option maxRecDepth 100000 in
theorem o_X2_allOf : m_lm 2 cX2_allOf 2 (some .int) false [] m_X2_allOf = true := by decide +kernel
theorem g_X2_allOf : m_good 2 cX2_allOf 2 (some .int) false [] m_X2_allOf := m_good_of o_X2_allOf
set_option maxRecDepth 100000 in
theorem o_X2_lostLast : m_lm 2 cX2_lostLast 7 (some .int) false [] m_X2_lostLast = true := by decide +kernel
theorem g_X2_lostLast : m_good 2 cX2_lostLast 7 (some .int) false [] m_X2_lostLast := m_good_of o_X2_lostLast
set_option maxRecDepth 100000 in
theorem o_X3_init : m_lm 3 cX3_init 1 none true [] m_X3_init = true := by decide +kernel
theorem g_X3_init : m_good 3 cX3_init 1 none true [] m_X3_init := m_good_of o_X3_init
set_option maxRecDepth 100000 in
theorem o_X3_clear : m_lm 3 cX3_clear 1 none false [] m_X3_clear = true := by decide +kernel
theorem g_X3_clear : m_good 3 cX3_clear 1 none false [] m_X3_clear := m_good_of o_X3_clear
set_option maxRecDepth 100000 in
theorem o_X3_setTo : m_lm 3 cX3_setTo 2 none false [] m_X3_setTo = true := by decide +kernel
theorem g_X3_setTo : m_good 3 cX3_setTo 2 none false [] m_X3_setTo := m_good_of o_X3_setTo
set_option maxRecDepth 100000 in
theorem o_X3_entry : m_lm 3 cX3_entry 2 (some .int) false [] m_X3_entry = true := by decide +kernel
theorem g_X3_entry : m_good 3 cX3_entry 2 (some .int) false [] m_X3_entry := m_good_of o_X3_entry
set_option maxRecDepth 100000 in
theorem o_X3_hasFact : m_lm 3 cX3_hasFact 2 (some .boolean) false [] m_X3_hasFact = true := by decide +kernel
theorem g_X3_hasFact : m_good 3 cX3_hasFact 2 (some .boolean) false [] m_X3_hasFact := m_good_of o_X3_hasFact
set_option maxRecDepth 100000 in
theorem o_X3_tellFact : m_lm 3 cX3_tellFact 4 none false [] m_X3_tellFact = true := by decide +kernel
theorem g_X3_tellFact : m_good 3 cX3_tellFact 4 none false [] m_X3_tellFact := m_good_of o_X3_tellFact
set_option maxRecDepth 100000 in
theorem o_X4_init : m_lm 4 cX4_init 1 none true [] m_X4_init = true := by decide +kernel
theorem g_X4_init : m_good 4 cX4_init 1 none true [] m_X4_init := m_good_of o_X4_init
set_option maxRecDepth 100000 in
theorem o_X4_clear : m_lm 4 cX4_clear 1 none false [] m_X4_clear = true := by decide +kernel
theorem g_X4_clear : m_good 4 cX4_clear 1 none false [] m_X4_clear := m_good_of o_X4_clear
set_option maxRecDepth 100000 in
theorem o_X4_isFull : m_lm 4 cX4_isFull 1 (some .boolean) false [] m_X4_isFull = true := by decide +kernel
theorem g_X4_isFull : m_good 4 cX4_isFull 1 (some .boolean) false [] m_X4_isFull := m_good_of o_X4_isFull
set_option maxRecDepth 100000 in
theorem o_X4_beginClause : m_lm 4 cX4_beginClause 3 none false [] m_X4_beginClause = true := by decide +kernel
theorem g_X4_beginClause : m_good 4 cX4_beginClause 3 none false [] m_X4_beginClause := m_good_of o_X4_beginClause
set_option maxRecDepth 100000 in
theorem o_X4_include : m_lm 4 cX4_include 2 none false [] m_X4_include = true := by decide +kernel
theorem g_X4_include : m_good 4 cX4_include 2 none false [] m_X4_include := m_good_of o_X4_include
set_option maxRecDepth 100000 in
theorem o_X4_addStep : m_lm 4 cX4_addStep 2 none false [] m_X4_addStep = true := by decide +kernel
theorem g_X4_addStep : m_good 4 cX4_addStep 2 none false [] m_X4_addStep := m_good_of o_X4_addStep
set_option maxRecDepth 100000 in
theorem o_X4_holdsFor : m_lm 4 cX4_holdsFor 6 (some .boolean) false [] m_X4_holdsFor = true := by decide +kernel
theorem g_X4_holdsFor : m_good 4 cX4_holdsFor 6 (some .boolean) false [] m_X4_holdsFor := m_good_of o_X4_holdsFor
set_option maxRecDepth 100000 in
theorem o_X4_owedFor : m_lm 4 cX4_owedFor 4 (some .int) false [] m_X4_owedFor = true := by decide +kernel
theorem g_X4_owedFor : m_good 4 cX4_owedFor 4 (some .int) false [] m_X4_owedFor := m_good_of o_X4_owedFor
set_option maxRecDepth 100000 in
theorem o_X4_claimFor : m_lm 4 cX4_claimFor 5 (some .int) false [] m_X4_claimFor = true := by decide +kernel
theorem g_X4_claimFor : m_good 4 cX4_claimFor 5 (some .int) false [] m_X4_claimFor := m_good_of o_X4_claimFor
set_option maxRecDepth 100000 in
theorem o_X4_allows : m_lm 4 cX4_allows 4 (some .boolean) false [] m_X4_allows = true := by decide +kernel
theorem g_X4_allows : m_good 4 cX4_allows 4 (some .boolean) false [] m_X4_allows := m_good_of o_X4_allows
set_option maxRecDepth 100000 in
theorem o_X4_doubles : m_lm 4 cX4_doubles 3 (some .boolean) false [] m_X4_doubles = true := by decide +kernel
theorem g_X4_doubles : m_good 4 cX4_doubles 3 (some .boolean) false [] m_X4_doubles := m_good_of o_X4_doubles
set_option maxRecDepth 100000 in
theorem o_X4_isFor : m_lm 4 cX4_isFor 4 (some .boolean) false [] m_X4_isFor = true := by decide +kernel
theorem g_X4_isFor : m_good 4 cX4_isFor 4 (some .boolean) false [] m_X4_isFor := m_good_of o_X4_isFor
set_option maxRecDepth 100000 in
theorem o_X4_has : m_lm 4 cX4_has 2 (some .boolean) false [] m_X4_has = true := by decide +kernel
theorem g_X4_has : m_good 4 cX4_has 2 (some .boolean) false [] m_X4_has := m_good_of o_X4_has
set_option maxRecDepth 100000 in
theorem o_X4_work : m_lm 4 cX4_work 6 (some .int) false [] m_X4_work = true := by decide +kernel
theorem g_X4_work : m_good 4 cX4_work 6 (some .int) false [] m_X4_work := m_good_of o_X4_work
set_option maxRecDepth 100000 in
theorem o_X4_join : m_lm 4 cX4_join 3 (some .int) false [] m_X4_join = true := by decide +kernel
theorem g_X4_join : m_good 4 cX4_join 3 (some .int) false [] m_X4_join := m_good_of o_X4_join
set_option maxRecDepth 100000 in
theorem o_X5_init : m_lm 5 cX5_init 1 none true [] m_X5_init = true := by decide +kernel
theorem g_X5_init : m_good 5 cX5_init 1 none true [] m_X5_init := m_good_of o_X5_init
set_option maxRecDepth 100000 in
theorem o_X5_readLaw : m_lm 5 cX5_readLaw 6 (some .int) false [] m_X5_readLaw = true := by decide +kernel
theorem g_X5_readLaw : m_good 5 cX5_readLaw 6 (some .int) false [] m_X5_readLaw := m_good_of o_X5_readLaw
set_option maxRecDepth 100000 in
theorem o_X5_readClause : m_lm 5 cX5_readClause 3 (some .boolean) false [] m_X5_readClause = true := by decide +kernel
theorem g_X5_readClause : m_good 5 cX5_readClause 3 (some .boolean) false [] m_X5_readClause := m_good_of o_X5_readClause
set_option maxRecDepth 100000 in
theorem o_X5_readMixing : m_lm 5 cX5_readMixing 2 (some .boolean) false [] m_X5_readMixing = true := by decide +kernel
theorem g_X5_readMixing : m_good 5 cX5_readMixing 2 (some .boolean) false [] m_X5_readMixing := m_good_of o_X5_readMixing
set_option maxRecDepth 100000 in
theorem o_X5_readKeeping : m_lm 5 cX5_readKeeping 3 (some .boolean) false [] m_X5_readKeeping = true := by decide +kernel
theorem g_X5_readKeeping : m_good 5 cX5_readKeeping 3 (some .boolean) false [] m_X5_readKeeping := m_good_of o_X5_readKeeping
set_option maxRecDepth 100000 in
theorem o_X5_readHarms : m_lm 5 cX5_readHarms 3 (some .boolean) false [] m_X5_readHarms = true := by decide +kernel
theorem g_X5_readHarms : m_good 5 cX5_readHarms 3 (some .boolean) false [] m_X5_readHarms := m_good_of o_X5_readHarms
set_option maxRecDepth 100000 in
theorem o_X5_readHarm : m_lm 5 cX5_readHarm 2 (some .boolean) false [] m_X5_readHarm = true := by decide +kernel
theorem g_X5_readHarm : m_good 5 cX5_readHarm 2 (some .boolean) false [] m_X5_readHarm := m_good_of o_X5_readHarm
set_option maxRecDepth 100000 in
theorem o_X5_readTerms : m_lm 5 cX5_readTerms 3 (some .boolean) false [] m_X5_readTerms = true := by decide +kernel
theorem g_X5_readTerms : m_good 5 cX5_readTerms 3 (some .boolean) false [] m_X5_readTerms := m_good_of o_X5_readTerms
set_option maxRecDepth 100000 in
theorem o_X5_readTerm : m_lm 5 cX5_readTerm 1 (some .boolean) false [] m_X5_readTerm = true := by decide +kernel
theorem g_X5_readTerm : m_good 5 cX5_readTerm 1 (some .boolean) false [] m_X5_readTerm := m_good_of o_X5_readTerm
set_option maxRecDepth 100000 in
theorem o_X5_readEither : m_lm 5 cX5_readEither 3 (some .boolean) false [] m_X5_readEither = true := by decide +kernel
theorem g_X5_readEither : m_good 5 cX5_readEither 3 (some .boolean) false [] m_X5_readEither := m_good_of o_X5_readEither
set_option maxRecDepth 100000 in
theorem o_X5_readBoth : m_lm 5 cX5_readBoth 3 (some .boolean) false [] m_X5_readBoth = true := by decide +kernel
theorem g_X5_readBoth : m_good 5 cX5_readBoth 3 (some .boolean) false [] m_X5_readBoth := m_good_of o_X5_readBoth
set_option maxRecDepth 100000 in
theorem o_X5_readCondition : m_lm 5 cX5_readCondition 1 (some .boolean) false [] m_X5_readCondition = true := by decide +kernel
theorem g_X5_readCondition : m_good 5 cX5_readCondition 1 (some .boolean) false [] m_X5_readCondition := m_good_of o_X5_readCondition
set_option maxRecDepth 100000 in
theorem o_X5_readNot : m_lm 5 cX5_readNot 1 (some .boolean) false [] m_X5_readNot = true := by decide +kernel
theorem g_X5_readNot : m_good 5 cX5_readNot 1 (some .boolean) false [] m_X5_readNot := m_good_of o_X5_readNot
set_option maxRecDepth 100000 in
theorem o_X5_readComparison : m_lm 5 cX5_readComparison 3 (some .boolean) false [] m_X5_readComparison = true := by decide +kernel
theorem g_X5_readComparison : m_good 5 cX5_readComparison 3 (some .boolean) false [] m_X5_readComparison := m_good_of o_X5_readComparison
set_option maxRecDepth 100000 in
theorem o_X5_readSum : m_lm 5 cX5_readSum 4 (some .boolean) false [] m_X5_readSum = true := by decide +kernel
theorem g_X5_readSum : m_good 5 cX5_readSum 4 (some .boolean) false [] m_X5_readSum := m_good_of o_X5_readSum
set_option maxRecDepth 100000 in
theorem o_X5_readProduct : m_lm 5 cX5_readProduct 4 (some .boolean) false [] m_X5_readProduct = true := by decide +kernel
theorem g_X5_readProduct : m_good 5 cX5_readProduct 4 (some .boolean) false [] m_X5_readProduct := m_good_of o_X5_readProduct
set_option maxRecDepth 100000 in
theorem o_X5_readUnit : m_lm 5 cX5_readUnit 3 (some .boolean) false [] m_X5_readUnit = true := by decide +kernel
theorem g_X5_readUnit : m_good 5 cX5_readUnit 3 (some .boolean) false [] m_X5_readUnit := m_good_of o_X5_readUnit
set_option maxRecDepth 100000 in
theorem o_X5_readNumber : m_lm 5 cX5_readNumber 1 (some .boolean) false [] m_X5_readNumber = true := by decide +kernel
theorem g_X5_readNumber : m_good 5 cX5_readNumber 1 (some .boolean) false [] m_X5_readNumber := m_good_of o_X5_readNumber
set_option maxRecDepth 100000 in
theorem o_X5_readChoice : m_lm 5 cX5_readChoice 3 (some .boolean) false [] m_X5_readChoice = true := by decide +kernel
theorem g_X5_readChoice : m_good 5 cX5_readChoice 3 (some .boolean) false [] m_X5_readChoice := m_good_of o_X5_readChoice
set_option maxRecDepth 100000 in
theorem o_X5_enter : m_lm 5 cX5_enter 1 (some .boolean) false [] m_X5_enter = true := by decide +kernel
theorem g_X5_enter : m_good 5 cX5_enter 1 (some .boolean) false [] m_X5_enter := m_good_of o_X5_enter
set_option maxRecDepth 100000 in
theorem o_X5_leave : m_lm 5 cX5_leave 2 (some .boolean) false [] m_X5_leave = true := by decide +kernel
theorem g_X5_leave : m_good 5 cX5_leave 2 (some .boolean) false [] m_X5_leave := m_good_of o_X5_leave
set_option maxRecDepth 100000 in
theorem o_X5_take : m_lm 5 cX5_take 2 (some .boolean) false [] m_X5_take = true := by decide +kernel
theorem g_X5_take : m_good 5 cX5_take 2 (some .boolean) false [] m_X5_take := m_good_of o_X5_take
set_option maxRecDepth 100000 in
theorem o_X5_takeWord : m_lm 5 cX5_takeWord 2 (some .boolean) false [] m_X5_takeWord = true := by decide +kernel
theorem g_X5_takeWord : m_good 5 cX5_takeWord 2 (some .boolean) false [] m_X5_takeWord := m_good_of o_X5_takeWord
set_option maxRecDepth 100000 in
theorem o_X5_isNumber : m_lm 5 cX5_isNumber 3 (some .boolean) false [] m_X5_isNumber = true := by decide +kernel
theorem g_X5_isNumber : m_good 5 cX5_isNumber 3 (some .boolean) false [] m_X5_isNumber := m_good_of o_X5_isNumber
set_option maxRecDepth 100000 in
theorem o_X5_fail : m_lm 5 cX5_fail 2 (some .boolean) false [] m_X5_fail = true := by decide +kernel
theorem g_X5_fail : m_good 5 cX5_fail 2 (some .boolean) false [] m_X5_fail := m_good_of o_X5_fail
set_option maxRecDepth 100000 in
theorem o_X5_nextToken : m_lm 5 cX5_nextToken 1 none false [] m_X5_nextToken = true := by decide +kernel
theorem g_X5_nextToken : m_good 5 cX5_nextToken 1 none false [] m_X5_nextToken := m_good_of o_X5_nextToken
set_option maxRecDepth 100000 in
theorem o_X5_isLetter : m_lm 5 cX5_isLetter 1 (some .boolean) false [] m_X5_isLetter = true := by decide +kernel
theorem g_X5_isLetter : m_good 5 cX5_isLetter 1 (some .boolean) false [] m_X5_isLetter := m_good_of o_X5_isLetter
set_option maxRecDepth 100000 in
theorem o_X5_isDigit : m_lm 5 cX5_isDigit 1 (some .boolean) false [] m_X5_isDigit = true := by decide +kernel
theorem g_X5_isDigit : m_good 5 cX5_isDigit 1 (some .boolean) false [] m_X5_isDigit := m_good_of o_X5_isDigit
set_option maxRecDepth 100000 in
theorem o_X5_isWord : m_lm 5 cX5_isWord 2 (some .boolean) false [] m_X5_isWord = true := by decide +kernel
theorem g_X5_isWord : m_good 5 cX5_isWord 2 (some .boolean) false [] m_X5_isWord := m_good_of o_X5_isWord
set_option maxRecDepth 100000 in
theorem o_X5_wordOf : m_lm 5 cX5_wordOf 5 (some .int) false [] m_X5_wordOf = true := by decide +kernel
theorem g_X5_wordOf : m_good 5 cX5_wordOf 5 (some .int) false [] m_X5_wordOf := m_good_of o_X5_wordOf
set_option maxRecDepth 100000 in
theorem o_X5_isSame : m_lm 5 cX5_isSame 5 (some .boolean) false [] m_X5_isSame = true := by decide +kernel
theorem g_X5_isSame : m_good 5 cX5_isSame 5 (some .boolean) false [] m_X5_isSame := m_good_of o_X5_isSame
set_option maxRecDepth 100000 in
theorem o_X5_bitsOf : m_lm 5 cX5_bitsOf 2 (some .int) false [] m_X5_bitsOf = true := by decide +kernel
theorem g_X5_bitsOf : m_good 5 cX5_bitsOf 2 (some .int) false [] m_X5_bitsOf := m_good_of o_X5_bitsOf
set_option maxRecDepth 100000 in
theorem o_X6_init : m_lm 6 cX6_init 1 none true [] m_X6_init = true := by decide +kernel
theorem g_X6_init : m_good 6 cX6_init 1 none true [] m_X6_init := m_good_of o_X6_init
set_option maxRecDepth 100000 in
theorem o_X6_setTo : m_lm 6 cX6_setTo 2 none false [] m_X6_setTo = true := by decide +kernel
theorem g_X6_setTo : m_good 6 cX6_setTo 2 none false [] m_X6_setTo := m_good_of o_X6_setTo
set_option maxRecDepth 100000 in
theorem o_X7_init : m_lm 7 cX7_init 2 none true [] m_X7_init = true := by decide +kernel
theorem g_X7_init : m_good 7 cX7_init 2 none true [] m_X7_init := m_good_of o_X7_init
set_option maxRecDepth 100000 in
theorem o_X7_feed : m_lm 7 cX7_feed 6 (some .int) false [] m_X7_feed = true := by decide +kernel
theorem g_X7_feed : m_good 7 cX7_feed 6 (some .int) false [] m_X7_feed := m_good_of o_X7_feed
set_option maxRecDepth 100000 in
theorem o_X7_law : m_lm 7 cX7_law 3 (some .int) false [] m_X7_law = true := by decide +kernel
theorem g_X7_law : m_good 7 cX7_law 3 (some .int) false [] m_X7_law := m_good_of o_X7_law
set_option maxRecDepth 100000 in
theorem o_X7_fault : m_lm 7 cX7_fault 1 (some .int) false [] m_X7_fault = true := by decide +kernel
theorem g_X7_fault : m_good 7 cX7_fault 1 (some .int) false [] m_X7_fault := m_good_of o_X7_fault
set_option maxRecDepth 100000 in
theorem o_X7_force : m_lm 7 cX7_force 3 (some .int) false [] m_X7_force = true := by decide +kernel
theorem g_X7_force : m_good 7 cX7_force 3 (some .int) false [] m_X7_force := m_good_of o_X7_force
set_option maxRecDepth 100000 in
theorem o_X7_words : m_lm 7 cX7_words 9 (some .int) false [] m_X7_words = true := by decide +kernel
theorem g_X7_words : m_good 7 cX7_words 9 (some .int) false [] m_X7_words := m_good_of o_X7_words
set_option maxRecDepth 100000 in
theorem o_X7_lets : m_lm 7 cX7_lets 4 (some .boolean) false [] m_X7_lets = true := by decide +kernel
theorem g_X7_lets : m_good 7 cX7_lets 4 (some .boolean) false [] m_X7_lets := m_good_of o_X7_lets
set_option maxRecDepth 100000 in
theorem o_X7_pass : m_lm 7 cX7_pass 7 (some .int) false [] m_X7_pass = true := by decide +kernel
theorem g_X7_pass : m_good 7 cX7_pass 7 (some .int) false [] m_X7_pass := m_good_of o_X7_pass
set_option maxRecDepth 100000 in
theorem o_X7_hand : m_lm 7 cX7_hand 3 (some .int) false [] m_X7_hand = true := by decide +kernel
theorem g_X7_hand : m_good 7 cX7_hand 3 (some .int) false [] m_X7_hand := m_good_of o_X7_hand
set_option maxRecDepth 100000 in
theorem o_X7_value : m_lm 7 cX7_value 3 (some .int) false [] m_X7_value = true := by decide +kernel
theorem g_X7_value : m_good 7 cX7_value 3 (some .int) false [] m_X7_value := m_good_of o_X7_value
set_option maxRecDepth 100000 in
theorem o_X7_purse : m_lm 7 cX7_purse 4 (some .int) false [] m_X7_purse = true := by decide +kernel
theorem g_X7_purse : m_good 7 cX7_purse 4 (some .int) false [] m_X7_purse := m_good_of o_X7_purse
set_option maxRecDepth 100000 in
theorem o_X7_fact : m_lm 7 cX7_fact 5 (some .boolean) false [] m_X7_fact = true := by decide +kernel
theorem g_X7_fact : m_good 7 cX7_fact 5 (some .boolean) false [] m_X7_fact := m_good_of o_X7_fact
set_option maxRecDepth 100000 in
theorem o_X7_harm : m_lm 7 cX7_harm 4 (some .int) false [] m_X7_harm = true := by decide +kernel
theorem g_X7_harm : m_good 7 cX7_harm 4 (some .int) false [] m_X7_harm := m_good_of o_X7_harm
set_option maxRecDepth 100000 in
theorem o_X7_holder : m_lm 7 cX7_holder 1 (some .int) false [] m_X7_holder = true := by decide +kernel
theorem g_X7_holder : m_good 7 cX7_holder 1 (some .int) false [] m_X7_holder := m_good_of o_X7_holder
set_option maxRecDepth 100000 in
theorem o_X7_name : m_lm 7 cX7_name 4 (some .int) false [] m_X7_name = true := by decide +kernel
theorem g_X7_name : m_good 7 cX7_name 4 (some .int) false [] m_X7_name := m_good_of o_X7_name
set_option maxRecDepth 100000 in
theorem o_X7_claim : m_lm 7 cX7_claim 2 (some .int) false [] m_X7_claim = true := by decide +kernel
theorem g_X7_claim : m_good 7 cX7_claim 2 (some .int) false [] m_X7_claim := m_good_of o_X7_claim
set_option maxRecDepth 100000 in
theorem o_X7_whom : m_lm 7 cX7_whom 2 (some .int) false [] m_X7_whom = true := by decide +kernel
theorem g_X7_whom : m_good 7 cX7_whom 2 (some .int) false [] m_X7_whom := m_good_of o_X7_whom
set_option maxRecDepth 100000 in
theorem o_X7_pays : m_lm 7 cX7_pays 2 (some .int) false [] m_X7_pays = true := by decide +kernel
theorem g_X7_pays : m_good 7 cX7_pays 2 (some .int) false [] m_X7_pays := m_good_of o_X7_pays
set_option maxRecDepth 100000 in
theorem o_X7_bears : m_lm 7 cX7_bears 2 (some .int) false [] m_X7_bears = true := by decide +kernel
theorem g_X7_bears : m_good 7 cX7_bears 2 (some .int) false [] m_X7_bears := m_good_of o_X7_bears
set_option maxRecDepth 100000 in
theorem o_X7_must : m_lm 7 cX7_must 2 (some .boolean) false [] m_X7_must = true := by decide +kernel
theorem g_X7_must : m_good 7 cX7_must 2 (some .boolean) false [] m_X7_must := m_good_of o_X7_must
set_option maxRecDepth 100000 in
theorem o_X7_frees : m_lm 7 cX7_frees 3 (some .int) false [] m_X7_frees = true := by decide +kernel
theorem g_X7_frees : m_good 7 cX7_frees 3 (some .int) false [] m_X7_frees := m_good_of o_X7_frees
set_option maxRecDepth 100000 in
theorem o_X7_question : m_lm 7 cX7_question 4 (some .int) false [] m_X7_question = true := by decide +kernel
theorem g_X7_question : m_good 7 cX7_question 4 (some .int) false [] m_X7_question := m_good_of o_X7_question
set_option maxRecDepth 100000 in
theorem o_X7_inCase : m_lm 7 cX7_inCase 3 (some .int) false [] m_X7_inCase = true := by decide +kernel
theorem g_X7_inCase : m_good 7 cX7_inCase 3 (some .int) false [] m_X7_inCase := m_good_of o_X7_inCase
set_option maxRecDepth 100000 in
theorem o_X7_sure : m_lm 7 cX7_sure 3 (some .int) false [] m_X7_sure = true := by decide +kernel
theorem g_X7_sure : m_good 7 cX7_sure 3 (some .int) false [] m_X7_sure := m_good_of o_X7_sure
set_option maxRecDepth 100000 in
theorem o_X7_cases : m_lm 7 cX7_cases 2 (some .int) false [] m_X7_cases = true := by decide +kernel
theorem g_X7_cases : m_good 7 cX7_cases 2 (some .int) false [] m_X7_cases := m_good_of o_X7_cases
set_option maxRecDepth 100000 in
theorem o_X7_hangs : m_lm 7 cX7_hangs 4 (some .int) false [] m_X7_hangs = true := by decide +kernel
theorem g_X7_hangs : m_good 7 cX7_hangs 4 (some .int) false [] m_X7_hangs := m_good_of o_X7_hangs
set_option maxRecDepth 100000 in
theorem o_X7_least : m_lm 7 cX7_least 3 (some .int) false [] m_X7_least = true := by decide +kernel
theorem g_X7_least : m_good 7 cX7_least 3 (some .int) false [] m_X7_least := m_good_of o_X7_least
set_option maxRecDepth 100000 in
theorem o_X7_find : m_lm 7 cX7_find 4 (some .int) false [] m_X7_find = true := by decide +kernel
theorem g_X7_find : m_good 7 cX7_find 4 (some .int) false [] m_X7_find := m_good_of o_X7_find
set_option maxRecDepth 100000 in
theorem o_X7_title : m_lm 7 cX7_title 1 (some .int) false [] m_X7_title = true := by decide +kernel
theorem g_X7_title : m_good 7 cX7_title 1 (some .int) false [] m_X7_title := m_good_of o_X7_title
set_option maxRecDepth 100000 in
theorem o_X7_found : m_lm 7 cX7_found 4 (some .int) false [] m_X7_found = true := by decide +kernel
theorem g_X7_found : m_good 7 cX7_found 4 (some .int) false [] m_X7_found := m_good_of o_X7_found
set_option maxRecDepth 100000 in
theorem o_X7_put : m_lm 7 cX7_put 3 (some .int) false [] m_X7_put = true := by decide +kernel
theorem g_X7_put : m_good 7 cX7_put 3 (some .int) false [] m_X7_put := m_good_of o_X7_put
set_option maxRecDepth 100000 in
theorem o_X7_share : m_lm 7 cX7_share 4 (some .int) false [] m_X7_share = true := by decide +kernel
theorem g_X7_share : m_good 7 cX7_share 4 (some .int) false [] m_X7_share := m_good_of o_X7_share
set_option maxRecDepth 100000 in
theorem o_X7_judge : m_lm 7 cX7_judge 4 (some .int) false [] m_X7_judge = true := by decide +kernel
theorem g_X7_judge : m_good 7 cX7_judge 4 (some .int) false [] m_X7_judge := m_good_of o_X7_judge
set_option maxRecDepth 100000 in
theorem o_X7_wrong : m_lm 7 cX7_wrong 2 (some .int) false [] m_X7_wrong = true := by decide +kernel
theorem g_X7_wrong : m_good 7 cX7_wrong 2 (some .int) false [] m_X7_wrong := m_good_of o_X7_wrong
set_option maxRecDepth 100000 in
theorem o_X7_parting : m_lm 7 cX7_parting 6 (some .int) false [] m_X7_parting = true := by decide +kernel
theorem g_X7_parting : m_good 7 cX7_parting 6 (some .int) false [] m_X7_parting := m_good_of o_X7_parting
set_option maxRecDepth 100000 in
theorem o_X7_beside : m_lm 7 cX7_beside 3 (some .int) false [] m_X7_beside = true := by decide +kernel
theorem g_X7_beside : m_good 7 cX7_beside 3 (some .int) false [] m_X7_beside := m_good_of o_X7_beside
set_option maxRecDepth 100000 in
theorem o_X7_image : m_lm 7 cX7_image 1 (some .int) false [] m_X7_image = true := by decide +kernel
theorem g_X7_image : m_good 7 cX7_image 1 (some .int) false [] m_X7_image := m_good_of o_X7_image
set_option maxRecDepth 100000 in
theorem o_X7_restore : m_lm 7 cX7_restore 1 (some .int) false [] m_X7_restore = true := by decide +kernel
theorem g_X7_restore : m_good 7 cX7_restore 1 (some .int) false [] m_X7_restore := m_good_of o_X7_restore
set_option maxRecDepth 100000 in
theorem o_X7_count : m_lm 7 cX7_count 2 (some .int) false [] m_X7_count = true := by decide +kernel
theorem g_X7_count : m_good 7 cX7_count 2 (some .int) false [] m_X7_count := m_good_of o_X7_count
set_option maxRecDepth 100000 in
theorem o_X7_need : m_lm 7 cX7_need 1 none false [] m_X7_need = true := by decide +kernel
theorem g_X7_need : m_good 7 cX7_need 1 none false [] m_X7_need := m_good_of o_X7_need
set_option maxRecDepth 100000 in
theorem o_X7_needHand : m_lm 7 cX7_needHand 2 none false [] m_X7_needHand = true := by decide +kernel
theorem g_X7_needHand : m_good 7 cX7_needHand 2 none false [] m_X7_needHand := m_good_of o_X7_needHand
set_option maxRecDepth 100000 in
theorem o_X7_isWithin : m_lm 7 cX7_isWithin 2 (some .boolean) false [] m_X7_isWithin = true := by decide +kernel
theorem g_X7_isWithin : m_good 7 cX7_isWithin 2 (some .boolean) false [] m_X7_isWithin := m_good_of o_X7_isWithin
set_option maxRecDepth 100000 in
theorem o_X7_isLaw : m_lm 7 cX7_isLaw 2 (some .boolean) false [] m_X7_isLaw = true := by decide +kernel
theorem g_X7_isLaw : m_good 7 cX7_isLaw 2 (some .boolean) false [] m_X7_isLaw := m_good_of o_X7_isLaw
set_option maxRecDepth 100000 in
theorem o_X7_lawInForce : m_lm 7 cX7_lawInForce 1 (some (.object RX4)) false [] m_X7_lawInForce = true := by decide +kernel
theorem g_X7_lawInForce : m_good 7 cX7_lawInForce 1 (some (.object RX4)) false [] m_X7_lawInForce := m_good_of o_X7_lawInForce
set_option maxRecDepth 100000 in
theorem o_X7_layOnTape : m_lm 7 cX7_layOnTape 3 none false [] m_X7_layOnTape = true := by decide +kernel
theorem g_X7_layOnTape : m_good 7 cX7_layOnTape 3 none false [] m_X7_layOnTape := m_good_of o_X7_layOnTape
set_option maxRecDepth 100000 in
theorem o_X7_keepingOfCase : m_lm 7 cX7_keepingOfCase 1 (some .int) false [] m_X7_keepingOfCase = true := by decide +kernel
theorem g_X7_keepingOfCase : m_good 7 cX7_keepingOfCase 1 (some .int) false [] m_X7_keepingOfCase := m_good_of o_X7_keepingOfCase
set_option maxRecDepth 100000 in
theorem o_X7_harmOfCase : m_lm 7 cX7_harmOfCase 1 (some .int) false [] m_X7_harmOfCase = true := by decide +kernel
theorem g_X7_harmOfCase : m_good 7 cX7_harmOfCase 1 (some .int) false [] m_X7_harmOfCase := m_good_of o_X7_harmOfCase
set_option maxRecDepth 100000 in
theorem o_X7_nameCase : m_lm 7 cX7_nameCase 6 none false [] m_X7_nameCase = true := by decide +kernel
theorem g_X7_nameCase : m_good 7 cX7_nameCase 6 none false [] m_X7_nameCase := m_good_of o_X7_nameCase
set_option maxRecDepth 100000 in
theorem o_X7_allCases : m_lm 7 cX7_allCases 1 (some .int) false [] m_X7_allCases = true := by decide +kernel
theorem g_X7_allCases : m_good 7 cX7_allCases 1 (some .int) false [] m_X7_allCases := m_good_of o_X7_allCases
set_option maxRecDepth 100000 in
theorem o_X7_reckonCases : m_lm 7 cX7_reckonCases 2 none false [] m_X7_reckonCases = true := by decide +kernel
theorem g_X7_reckonCases : m_good 7 cX7_reckonCases 2 none false [] m_X7_reckonCases := m_good_of o_X7_reckonCases
set_option maxRecDepth 100000 in
theorem o_X7_isBurdened : m_lm 7 cX7_isBurdened 3 (some .boolean) false [] m_X7_isBurdened = true := by decide +kernel
theorem g_X7_isBurdened : m_good 7 cX7_isBurdened 3 (some .boolean) false [] m_X7_isBurdened := m_good_of o_X7_isBurdened
set_option maxRecDepth 100000 in
theorem o_X7_burdenedCases : m_lm 7 cX7_burdenedCases 4 (some .int) false [] m_X7_burdenedCases = true := by decide +kernel
theorem g_X7_burdenedCases : m_good 7 cX7_burdenedCases 4 (some .int) false [] m_X7_burdenedCases := m_good_of o_X7_burdenedCases
set_option maxRecDepth 100000 in
theorem o_X7_casesLikeBit : m_lm 7 cX7_casesLikeBit 5 (some .int) false [] m_X7_casesLikeBit = true := by decide +kernel
theorem g_X7_casesLikeBit : m_good 7 cX7_casesLikeBit 5 (some .int) false [] m_X7_casesLikeBit := m_good_of o_X7_casesLikeBit
set_option maxRecDepth 100000 in
theorem o_X7_matters : m_lm 7 cX7_matters 3 (some .boolean) false [] m_X7_matters = true := by decide +kernel
theorem g_X7_matters : m_good 7 cX7_matters 3 (some .boolean) false [] m_X7_matters := m_good_of o_X7_matters
set_option maxRecDepth 100000 in
theorem o_X7_areBorneAlike : m_lm 7 cX7_areBorneAlike 4 (some .boolean) false [] m_X7_areBorneAlike = true := by decide +kernel
theorem g_X7_areBorneAlike : m_good 7 cX7_areBorneAlike 4 (some .boolean) false [] m_X7_areBorneAlike := m_good_of o_X7_areBorneAlike
end
section
/-! .. of the reference -/
set_option maxRecDepth 100000 in
theorem o_X8_init : m_lm 8 cX8_init 2 none true [] m_X8_init = true := by decide +kernel
theorem g_X8_init : m_good 8 cX8_init 2 none true [] m_X8_init := m_good_of o_X8_init
set_option maxRecDepth 100000 in
theorem o_X8_thrown : m_lm 8 cX8_thrown 1 (some .int) false [] m_X8_thrown = true := by decide +kernel
theorem g_X8_thrown : m_good 8 cX8_thrown 1 (some .int) false [] m_X8_thrown := m_good_of o_X8_thrown
set_option maxRecDepth 100000 in
theorem o_X8_bad : m_lm 8 cX8_bad 3 (some .boolean) false [] m_X8_bad = true := by decide +kernel
theorem g_X8_bad : m_good 8 cX8_bad 3 (some .boolean) false [] m_X8_bad := m_good_of o_X8_bad
set_option maxRecDepth 100000 in
theorem o_X8_in : m_lm 8 cX8_in 3 (some .boolean) false [] m_X8_in = true := by decide +kernel
theorem g_X8_in : m_good 8 cX8_in 3 (some .boolean) false [] m_X8_in := m_good_of o_X8_in
set_option maxRecDepth 100000 in
theorem o_X8_less : m_lm 8 cX8_less 2 (some .int) false [] m_X8_less = true := by decide +kernel
theorem g_X8_less : m_good 8 cX8_less 2 (some .int) false [] m_X8_less := m_good_of o_X8_less
set_option maxRecDepth 100000 in
theorem o_X8_feed : m_lm 8 cX8_feed 8 (some .int) false [] m_X8_feed = true := by decide +kernel
theorem g_X8_feed : m_good 8 cX8_feed 8 (some .int) false [] m_X8_feed := m_good_of o_X8_feed
set_option maxRecDepth 100000 in
theorem o_X8_byteAt : m_lm 8 cX8_byteAt 2 (some .int) false [] m_X8_byteAt = true := by decide +kernel
theorem g_X8_byteAt : m_good 8 cX8_byteAt 2 (some .int) false [] m_X8_byteAt := m_good_of o_X8_byteAt
set_option maxRecDepth 100000 in
theorem o_X8_blanks : m_lm 8 cX8_blanks 1 none false [] m_X8_blanks = true := by decide +kernel
theorem g_X8_blanks : m_good 8 cX8_blanks 1 none false [] m_X8_blanks := m_good_of o_X8_blanks
set_option maxRecDepth 100000 in
theorem o_X8_wrongAt : m_lm 8 cX8_wrongAt 3 none false [] m_X8_wrongAt = true := by decide +kernel
theorem g_X8_wrongAt : m_good 8 cX8_wrongAt 3 none false [] m_X8_wrongAt := m_good_of o_X8_wrongAt
set_option maxRecDepth 100000 in
theorem o_X8_isDigit : m_lm 8 cX8_isDigit 1 (some .boolean) false [] m_X8_isDigit = true := by decide +kernel
theorem g_X8_isDigit : m_good 8 cX8_isDigit 1 (some .boolean) false [] m_X8_isDigit := m_good_of o_X8_isDigit
set_option maxRecDepth 100000 in
theorem o_X8_number : m_lm 8 cX8_number 5 (some .int) false [] m_X8_number = true := by decide +kernel
theorem g_X8_number : m_good 8 cX8_number 5 (some .int) false [] m_X8_number := m_good_of o_X8_number
set_option maxRecDepth 100000 in
theorem o_X8_wordHere : m_lm 8 cX8_wordHere 3 (some .int) false [] m_X8_wordHere = true := by decide +kernel
theorem g_X8_wordHere : m_good 8 cX8_wordHere 3 (some .int) false [] m_X8_wordHere := m_good_of o_X8_wordHere
set_option maxRecDepth 100000 in
theorem o_X8_isAnswers : m_lm 8 cX8_isAnswers 1 (some .boolean) false [] m_X8_isAnswers = true := by decide +kernel
theorem g_X8_isAnswers : m_good 8 cX8_isAnswers 1 (some .boolean) false [] m_X8_isAnswers := m_good_of o_X8_isAnswers
set_option maxRecDepth 100000 in
theorem o_X8_word : m_lm 8 cX8_word 7 (some .int) false [] m_X8_word = true := by decide +kernel
theorem g_X8_word : m_good 8 cX8_word 7 (some .int) false [] m_X8_word := m_good_of o_X8_word
set_option maxRecDepth 100000 in
theorem o_X8_isWord : m_lm 8 cX8_isWord 7 (some .boolean) false [] m_X8_isWord = true := by decide +kernel
theorem g_X8_isWord : m_good 8 cX8_isWord 7 (some .boolean) false [] m_X8_isWord := m_good_of o_X8_isWord
set_option maxRecDepth 100000 in
theorem o_X8_skipWord : m_lm 8 cX8_skipWord 1 none false [] m_X8_skipWord = true := by decide +kernel
theorem g_X8_skipWord : m_good 8 cX8_skipWord 1 none false [] m_X8_skipWord := m_good_of o_X8_skipWord
set_option maxRecDepth 100000 in
theorem o_X8_sign : m_lm 8 cX8_sign 2 none false [] m_X8_sign = true := by decide +kernel
theorem g_X8_sign : m_good 8 cX8_sign 2 none false [] m_X8_sign := m_good_of o_X8_sign
set_option maxRecDepth 100000 in
theorem o_X8_opens : m_lm 8 cX8_opens 2 none false [] m_X8_opens = true := by decide +kernel
theorem g_X8_opens : m_good 8 cX8_opens 2 none false [] m_X8_opens := m_good_of o_X8_opens
set_option maxRecDepth 100000 in
theorem o_X8_nameHere : m_lm 8 cX8_nameHere 1 (some .int) false [] m_X8_nameHere = true := by decide +kernel
theorem g_X8_nameHere : m_good 8 cX8_nameHere 1 (some .int) false [] m_X8_nameHere := m_good_of o_X8_nameHere
set_option maxRecDepth 100000 in
theorem o_X8_unit : m_lm 8 cX8_unit 6 (some .int) false [] m_X8_unit = true := by decide +kernel
theorem g_X8_unit : m_good 8 cX8_unit 6 (some .int) false [] m_X8_unit := m_good_of o_X8_unit
set_option maxRecDepth 100000 in
theorem o_X8_product : m_lm 8 cX8_product 4 (some .int) false [] m_X8_product = true := by decide +kernel
theorem g_X8_product : m_good 8 cX8_product 4 (some .int) false [] m_X8_product := m_good_of o_X8_product
set_option maxRecDepth 100000 in
theorem o_X8_sum : m_lm 8 cX8_sum 4 (some .int) false [] m_X8_sum = true := by decide +kernel
theorem g_X8_sum : m_good 8 cX8_sum 4 (some .int) false [] m_X8_sum := m_good_of o_X8_sum
set_option maxRecDepth 100000 in
theorem o_X8_test : m_lm 8 cX8_test 4 (some .boolean) false [] m_X8_test = true := by decide +kernel
theorem g_X8_test : m_good 8 cX8_test 4 (some .boolean) false [] m_X8_test := m_good_of o_X8_test
set_option maxRecDepth 100000 in
theorem o_X8_ands : m_lm 8 cX8_ands 3 (some .boolean) false [] m_X8_ands = true := by decide +kernel
theorem g_X8_ands : m_good 8 cX8_ands 3 (some .boolean) false [] m_X8_ands := m_good_of o_X8_ands
set_option maxRecDepth 100000 in
theorem o_X8_ors : m_lm 8 cX8_ors 3 (some .boolean) false [] m_X8_ors = true := by decide +kernel
theorem g_X8_ors : m_good 8 cX8_ors 3 (some .boolean) false [] m_X8_ors := m_good_of o_X8_ors
set_option maxRecDepth 100000 in
theorem o_X8_keepingHere : m_lm 8 cX8_keepingHere 1 (some .int) false [] m_X8_keepingHere = true := by decide +kernel
theorem g_X8_keepingHere : m_good 8 cX8_keepingHere 1 (some .int) false [] m_X8_keepingHere := m_good_of o_X8_keepingHere
set_option maxRecDepth 100000 in
theorem o_X8_harmHere : m_lm 8 cX8_harmHere 1 (some .int) false [] m_X8_harmHere = true := by decide +kernel
theorem g_X8_harmHere : m_good 8 cX8_harmHere 1 (some .int) false [] m_X8_harmHere := m_good_of o_X8_harmHere
set_option maxRecDepth 100000 in
theorem o_X8_harms : m_lm 8 cX8_harms 4 (some .boolean) false [] m_X8_harms = true := by decide +kernel
theorem g_X8_harms : m_good 8 cX8_harms 4 (some .boolean) false [] m_X8_harms := m_good_of o_X8_harms
set_option maxRecDepth 100000 in
theorem o_X8_terms : m_lm 8 cX8_terms 3 (some .boolean) false [] m_X8_terms = true := by decide +kernel
theorem g_X8_terms : m_good 8 cX8_terms 3 (some .boolean) false [] m_X8_terms := m_good_of o_X8_terms
set_option maxRecDepth 100000 in
theorem o_X8_clause : m_lm 8 cX8_clause 3 none false [] m_X8_clause = true := by decide +kernel
theorem g_X8_clause : m_good 8 cX8_clause 3 none false [] m_X8_clause := m_good_of o_X8_clause
set_option maxRecDepth 100000 in
theorem o_X8_mixes : m_lm 8 cX8_mixes 3 none false [] m_X8_mixes = true := by decide +kernel
theorem g_X8_mixes : m_good 8 cX8_mixes 3 none false [] m_X8_mixes := m_good_of o_X8_mixes
set_option maxRecDepth 100000 in
theorem o_X8_says : m_lm 8 cX8_says 6 none false [] m_X8_says = true := by decide +kernel
theorem g_X8_says : m_good 8 cX8_says 6 none false [] m_X8_says := m_good_of o_X8_says
set_option maxRecDepth 100000 in
theorem o_X8_walks : m_lm 8 cX8_walks 1 none false [] m_X8_walks = true := by decide +kernel
theorem g_X8_walks : m_good 8 cX8_walks 1 none false [] m_X8_walks := m_good_of o_X8_walks
set_option maxRecDepth 100000 in
theorem o_X8_law : m_lm 8 cX8_law 3 (some .int) false [] m_X8_law = true := by decide +kernel
theorem g_X8_law : m_good 8 cX8_law 3 (some .int) false [] m_X8_law := m_good_of o_X8_law
set_option maxRecDepth 100000 in
theorem o_X8_fault : m_lm 8 cX8_fault 1 (some .int) false [] m_X8_fault = true := by decide +kernel
theorem g_X8_fault : m_good 8 cX8_fault 1 (some .int) false [] m_X8_fault := m_good_of o_X8_fault
set_option maxRecDepth 100000 in
theorem o_X8_force : m_lm 8 cX8_force 3 (some .int) false [] m_X8_force = true := by decide +kernel
theorem g_X8_force : m_good 8 cX8_force 3 (some .int) false [] m_X8_force := m_good_of o_X8_force
set_option maxRecDepth 100000 in
theorem o_X8_asks : m_lm 8 cX8_asks 5 none false [] m_X8_asks = true := by decide +kernel
theorem g_X8_asks : m_good 8 cX8_asks 5 none false [] m_X8_asks := m_good_of o_X8_asks
set_option maxRecDepth 100000 in
theorem o_X8_tellsBits : m_lm 8 cX8_tellsBits 3 none false [] m_X8_tellsBits = true := by decide +kernel
theorem g_X8_tellsBits : m_good 8 cX8_tellsBits 3 none false [] m_X8_tellsBits := m_good_of o_X8_tellsBits
set_option maxRecDepth 100000 in
theorem o_X8_words : m_lm 8 cX8_words 7 (some .int) false [] m_X8_words = true := by decide +kernel
theorem g_X8_words : m_good 8 cX8_words 7 (some .int) false [] m_X8_words := m_good_of o_X8_words
set_option maxRecDepth 100000 in
theorem o_X8_lets : m_lm 8 cX8_lets 5 (some .boolean) false [] m_X8_lets = true := by decide +kernel
theorem g_X8_lets : m_good 8 cX8_lets 5 (some .boolean) false [] m_X8_lets := m_good_of o_X8_lets
set_option maxRecDepth 100000 in
theorem o_X8_pass : m_lm 8 cX8_pass 7 (some .int) false [] m_X8_pass = true := by decide +kernel
theorem g_X8_pass : m_good 8 cX8_pass 7 (some .int) false [] m_X8_pass := m_good_of o_X8_pass
set_option maxRecDepth 100000 in
theorem o_X8_isHand : m_lm 8 cX8_isHand 2 (some .boolean) false [] m_X8_isHand = true := by decide +kernel
theorem g_X8_isHand : m_good 8 cX8_isHand 2 (some .boolean) false [] m_X8_isHand := m_good_of o_X8_isHand
set_option maxRecDepth 100000 in
theorem o_X8_hand : m_lm 8 cX8_hand 3 (some .int) false [] m_X8_hand = true := by decide +kernel
theorem g_X8_hand : m_good 8 cX8_hand 3 (some .int) false [] m_X8_hand := m_good_of o_X8_hand
set_option maxRecDepth 100000 in
theorem o_X8_value : m_lm 8 cX8_value 3 (some .int) false [] m_X8_value = true := by decide +kernel
theorem g_X8_value : m_good 8 cX8_value 3 (some .int) false [] m_X8_value := m_good_of o_X8_value
set_option maxRecDepth 100000 in
theorem o_X8_purse : m_lm 8 cX8_purse 4 (some .int) false [] m_X8_purse = true := by decide +kernel
theorem g_X8_purse : m_good 8 cX8_purse 4 (some .int) false [] m_X8_purse := m_good_of o_X8_purse
set_option maxRecDepth 100000 in
theorem o_X8_fact : m_lm 8 cX8_fact 5 (some .boolean) false [] m_X8_fact = true := by decide +kernel
theorem g_X8_fact : m_good 8 cX8_fact 5 (some .boolean) false [] m_X8_fact := m_good_of o_X8_fact
set_option maxRecDepth 100000 in
theorem o_X8_harm : m_lm 8 cX8_harm 4 (some .int) false [] m_X8_harm = true := by decide +kernel
theorem g_X8_harm : m_good 8 cX8_harm 4 (some .int) false [] m_X8_harm := m_good_of o_X8_harm
set_option maxRecDepth 100000 in
theorem o_X8_findHolder : m_lm 8 cX8_findHolder 2 none false [] m_X8_findHolder = true := by decide +kernel
theorem g_X8_findHolder : m_good 8 cX8_findHolder 2 none false [] m_X8_findHolder := m_good_of o_X8_findHolder
set_option maxRecDepth 100000 in
theorem o_X8_hasPassed : m_lm 8 cX8_hasPassed 2 (some .boolean) false [] m_X8_hasPassed = true := by decide +kernel
theorem g_X8_hasPassed : m_good 8 cX8_hasPassed 2 (some .boolean) false [] m_X8_hasPassed := m_good_of o_X8_hasPassed
set_option maxRecDepth 100000 in
theorem o_X8_tellsNames : m_lm 8 cX8_tellsNames 4 none false [] m_X8_tellsNames = true := by decide +kernel
theorem g_X8_tellsNames : m_good 8 cX8_tellsNames 4 none false [] m_X8_tellsNames := m_good_of o_X8_tellsNames
set_option maxRecDepth 100000 in
theorem o_X8_ends : m_lm 8 cX8_ends 4 none false [] m_X8_ends = true := by decide +kernel
theorem g_X8_ends : m_good 8 cX8_ends 4 none false [] m_X8_ends := m_good_of o_X8_ends
set_option maxRecDepth 100000 in
theorem o_X8_holder : m_lm 8 cX8_holder 1 (some .int) false [] m_X8_holder = true := by decide +kernel
theorem g_X8_holder : m_good 8 cX8_holder 1 (some .int) false [] m_X8_holder := m_good_of o_X8_holder
set_option maxRecDepth 100000 in
theorem o_X8_isWithin : m_lm 8 cX8_isWithin 2 (some .boolean) false [] m_X8_isWithin = true := by decide +kernel
theorem g_X8_isWithin : m_good 8 cX8_isWithin 2 (some .boolean) false [] m_X8_isWithin := m_good_of o_X8_isWithin
set_option maxRecDepth 100000 in
theorem o_X8_name : m_lm 8 cX8_name 3 (some .int) false [] m_X8_name = true := by decide +kernel
theorem g_X8_name : m_good 8 cX8_name 3 (some .int) false [] m_X8_name := m_good_of o_X8_name
set_option maxRecDepth 100000 in
theorem o_X8_claim : m_lm 8 cX8_claim 2 (some .int) false [] m_X8_claim = true := by decide +kernel
theorem g_X8_claim : m_good 8 cX8_claim 2 (some .int) false [] m_X8_claim := m_good_of o_X8_claim
set_option maxRecDepth 100000 in
theorem o_X8_whom : m_lm 8 cX8_whom 2 (some .int) false [] m_X8_whom = true := by decide +kernel
theorem g_X8_whom : m_good 8 cX8_whom 2 (some .int) false [] m_X8_whom := m_good_of o_X8_whom
set_option maxRecDepth 100000 in
theorem o_X8_pays : m_lm 8 cX8_pays 2 (some .int) false [] m_X8_pays = true := by decide +kernel
theorem g_X8_pays : m_good 8 cX8_pays 2 (some .int) false [] m_X8_pays := m_good_of o_X8_pays
set_option maxRecDepth 100000 in
theorem o_X8_bears : m_lm 8 cX8_bears 2 (some .int) false [] m_X8_bears = true := by decide +kernel
theorem g_X8_bears : m_good 8 cX8_bears 2 (some .int) false [] m_X8_bears := m_good_of o_X8_bears
set_option maxRecDepth 100000 in
theorem o_X8_must : m_lm 8 cX8_must 2 (some .boolean) false [] m_X8_must = true := by decide +kernel
theorem g_X8_must : m_good 8 cX8_must 2 (some .boolean) false [] m_X8_must := m_good_of o_X8_must
set_option maxRecDepth 100000 in
theorem o_X8_frees : m_lm 8 cX8_frees 3 (some .int) false [] m_X8_frees = true := by decide +kernel
theorem g_X8_frees : m_good 8 cX8_frees 3 (some .int) false [] m_X8_frees := m_good_of o_X8_frees
set_option maxRecDepth 100000 in
theorem o_X8_question : m_lm 8 cX8_question 4 (some .int) false [] m_X8_question = true := by decide +kernel
theorem g_X8_question : m_good 8 cX8_question 4 (some .int) false [] m_X8_question := m_good_of o_X8_question
set_option maxRecDepth 100000 in
theorem o_X8_goesInto : m_lm 8 cX8_goesInto 5 none false [] m_X8_goesInto = true := by decide +kernel
theorem g_X8_goesInto : m_good 8 cX8_goesInto 5 none false [] m_X8_goesInto := m_good_of o_X8_goesInto
set_option maxRecDepth 100000 in
theorem o_X8_comesBack : m_lm 8 cX8_comesBack 3 none false [] m_X8_comesBack = true := by decide +kernel
theorem g_X8_comesBack : m_good 8 cX8_comesBack 3 none false [] m_X8_comesBack := m_good_of o_X8_comesBack
set_option maxRecDepth 100000 in
theorem o_X8_caseMany : m_lm 8 cX8_caseMany 1 (some .int) false [] m_X8_caseMany = true := by decide +kernel
theorem g_X8_caseMany : m_good 8 cX8_caseMany 1 (some .int) false [] m_X8_caseMany := m_good_of o_X8_caseMany
set_option maxRecDepth 100000 in
theorem o_X8_findCases : m_lm 8 cX8_findCases 3 none false [] m_X8_findCases = true := by decide +kernel
theorem g_X8_findCases : m_good 8 cX8_findCases 3 none false [] m_X8_findCases := m_good_of o_X8_findCases
set_option maxRecDepth 100000 in
theorem o_X8_inCase : m_lm 8 cX8_inCase 3 (some .int) false [] m_X8_inCase = true := by decide +kernel
theorem g_X8_inCase : m_good 8 cX8_inCase 3 (some .int) false [] m_X8_inCase := m_good_of o_X8_inCase
set_option maxRecDepth 100000 in
theorem o_X8_casesOf : m_lm 8 cX8_casesOf 4 (some .int) false [] m_X8_casesOf = true := by decide +kernel
theorem g_X8_casesOf : m_good 8 cX8_casesOf 4 (some .int) false [] m_X8_casesOf := m_good_of o_X8_casesOf
set_option maxRecDepth 100000 in
theorem o_X8_sure : m_lm 8 cX8_sure 3 (some .int) false [] m_X8_sure = true := by decide +kernel
theorem g_X8_sure : m_good 8 cX8_sure 3 (some .int) false [] m_X8_sure := m_good_of o_X8_sure
set_option maxRecDepth 100000 in
theorem o_X8_cases : m_lm 8 cX8_cases 2 (some .int) false [] m_X8_cases = true := by decide +kernel
theorem g_X8_cases : m_good 8 cX8_cases 2 (some .int) false [] m_X8_cases := m_good_of o_X8_cases
set_option maxRecDepth 100000 in
theorem o_X8_hangs : m_lm 8 cX8_hangs 7 (some .int) false [] m_X8_hangs = true := by decide +kernel
theorem g_X8_hangs : m_good 8 cX8_hangs 7 (some .int) false [] m_X8_hangs := m_good_of o_X8_hangs
set_option maxRecDepth 100000 in
theorem o_X8_ones : m_lm 8 cX8_ones 3 (some .int) false [] m_X8_ones = true := by decide +kernel
theorem g_X8_ones : m_good 8 cX8_ones 3 (some .int) false [] m_X8_ones := m_good_of o_X8_ones
set_option maxRecDepth 100000 in
theorem o_X8_areAlike : m_lm 8 cX8_areAlike 4 (some .boolean) false [] m_X8_areAlike = true := by decide +kernel
theorem g_X8_areAlike : m_good 8 cX8_areAlike 4 (some .boolean) false [] m_X8_areAlike := m_good_of o_X8_areAlike
set_option maxRecDepth 100000 in
theorem o_X8_settles : m_lm 8 cX8_settles 3 (some .boolean) false [] m_X8_settles = true := by decide +kernel
theorem g_X8_settles : m_good 8 cX8_settles 3 (some .boolean) false [] m_X8_settles := m_good_of o_X8_settles
set_option maxRecDepth 100000 in
theorem o_X8_least : m_lm 8 cX8_least 3 (some .int) false [] m_X8_least = true := by decide +kernel
theorem g_X8_least : m_good 8 cX8_least 3 (some .int) false [] m_X8_least := m_good_of o_X8_least
set_option maxRecDepth 100000 in
theorem o_X8_find : m_lm 8 cX8_find 8 (some .int) false [] m_X8_find = true := by decide +kernel
theorem g_X8_find : m_good 8 cX8_find 8 (some .int) false [] m_X8_find := m_good_of o_X8_find
set_option maxRecDepth 100000 in
theorem o_X8_titleNow : m_lm 8 cX8_titleNow 4 (some .int) false [] m_X8_titleNow = true := by decide +kernel
theorem g_X8_titleNow : m_good 8 cX8_titleNow 4 (some .int) false [] m_X8_titleNow := m_good_of o_X8_titleNow
set_option maxRecDepth 100000 in
theorem o_X8_title : m_lm 8 cX8_title 1 (some .int) false [] m_X8_title = true := by decide +kernel
theorem g_X8_title : m_good 8 cX8_title 1 (some .int) false [] m_X8_title := m_good_of o_X8_title
set_option maxRecDepth 100000 in
theorem o_X8_found : m_lm 8 cX8_found 3 (some .int) false [] m_X8_found = true := by decide +kernel
theorem g_X8_found : m_good 8 cX8_found 3 (some .int) false [] m_X8_found := m_good_of o_X8_found
set_option maxRecDepth 100000 in
theorem o_X8_put : m_lm 8 cX8_put 3 (some .int) false [] m_X8_put = true := by decide +kernel
theorem g_X8_put : m_good 8 cX8_put 3 (some .int) false [] m_X8_put := m_good_of o_X8_put
set_option maxRecDepth 100000 in
theorem o_X8_share : m_lm 8 cX8_share 8 (some .int) false [] m_X8_share = true := by decide +kernel
theorem g_X8_share : m_good 8 cX8_share 8 (some .int) false [] m_X8_share := m_good_of o_X8_share
set_option maxRecDepth 100000 in
theorem o_X8_judge : m_lm 8 cX8_judge 4 (some .int) false [] m_X8_judge = true := by decide +kernel
theorem g_X8_judge : m_good 8 cX8_judge 4 (some .int) false [] m_X8_judge := m_good_of o_X8_judge
set_option maxRecDepth 100000 in
theorem o_X8_wrong : m_lm 8 cX8_wrong 2 (some .int) false [] m_X8_wrong = true := by decide +kernel
theorem g_X8_wrong : m_good 8 cX8_wrong 2 (some .int) false [] m_X8_wrong := m_good_of o_X8_wrong
set_option maxRecDepth 100000 in
theorem o_X8_claimIn : m_lm 8 cX8_claimIn 3 (some .int) false [] m_X8_claimIn = true := by decide +kernel
theorem g_X8_claimIn : m_good 8 cX8_claimIn 3 (some .int) false [] m_X8_claimIn := m_good_of o_X8_claimIn
set_option maxRecDepth 100000 in
theorem o_X8_parting : m_lm 8 cX8_parting 4 (some .int) false [] m_X8_parting = true := by decide +kernel
theorem g_X8_parting : m_good 8 cX8_parting 4 (some .int) false [] m_X8_parting := m_good_of o_X8_parting
set_option maxRecDepth 100000 in
theorem o_X8_beside : m_lm 8 cX8_beside 3 (some .int) false [] m_X8_beside = true := by decide +kernel
theorem g_X8_beside : m_good 8 cX8_beside 3 (some .int) false [] m_X8_beside := m_good_of o_X8_beside
set_option maxRecDepth 100000 in
theorem o_X8_moves : m_lm 8 cX8_moves 5 (some .int) false [] m_X8_moves = true := by decide +kernel
theorem g_X8_moves : m_good 8 cX8_moves 5 (some .int) false [] m_X8_moves := m_good_of o_X8_moves
set_option maxRecDepth 100000 in
theorem o_X8_movesAll : m_lm 8 cX8_movesAll 5 none false [] m_X8_movesAll = true := by decide +kernel
theorem g_X8_movesAll : m_good 8 cX8_movesAll 5 none false [] m_X8_movesAll := m_good_of o_X8_movesAll
set_option maxRecDepth 100000 in
theorem o_X8_image : m_lm 8 cX8_image 1 (some .int) false [] m_X8_image = true := by decide +kernel
theorem g_X8_image : m_good 8 cX8_image 1 (some .int) false [] m_X8_image := m_good_of o_X8_image
set_option maxRecDepth 100000 in
theorem o_X8_restore : m_lm 8 cX8_restore 1 (some .int) false [] m_X8_restore = true := by decide +kernel
theorem g_X8_restore : m_good 8 cX8_restore 1 (some .int) false [] m_X8_restore := m_good_of o_X8_restore
set_option maxRecDepth 100000 in
theorem o_X8_count : m_lm 8 cX8_count 2 (some .int) false [] m_X8_count = true := by decide +kernel
theorem g_X8_count : m_good 8 cX8_count 2 (some .int) false [] m_X8_count := m_good_of o_X8_count
end
section
/-! .. of the law -/
set_option maxRecDepth 100000 in
theorem o_L_law : m_lm 9 cL_law 4 (some .int) false [(0, 9, 12, 13)] m_L_law = true := by decide +kernel
theorem g_L_law : m_good 9 cL_law 4 (some .int) false [(0, 9, 12, 13)] m_L_law := m_good_of o_L_law
set_option maxRecDepth 100000 in
theorem o_L_force : m_lm 9 cL_force 4 (some .int) false [(0, 9, 12, 13)] m_L_force = true := by decide +kernel
theorem g_L_force : m_good 9 cL_force 4 (some .int) false [(0, 9, 12, 13)] m_L_force := m_good_of o_L_force
set_option maxRecDepth 100000 in
theorem o_L_words : m_lm 9 cL_words 9 (some .int) false [(0, 18, 21, 13)] m_L_words = true := by decide +kernel
theorem g_L_words : m_good 9 cL_words 9 (some .int) false [(0, 18, 21, 13)] m_L_words := m_good_of o_L_words
set_option maxRecDepth 100000 in
theorem o_L_lets : m_lm 9 cL_lets 6 (some .int) false [(0, 19, 22, 13)] m_L_lets = true := by decide +kernel
theorem g_L_lets : m_good 9 cL_lets 6 (some .int) false [(0, 19, 22, 13)] m_L_lets := m_good_of o_L_lets
set_option maxRecDepth 100000 in
theorem o_L_pass : m_lm 9 cL_pass 8 (some .int) false [(0, 16, 19, 13)] m_L_pass = true := by decide +kernel
theorem g_L_pass : m_good 9 cL_pass 8 (some .int) false [(0, 16, 19, 13)] m_L_pass := m_good_of o_L_pass
set_option maxRecDepth 100000 in
theorem o_L_hand : m_lm 9 cL_hand 5 (some .int) false [(0, 10, 13, 34), (0, 10, 17, 13)] m_L_hand = true := by decide +kernel
theorem g_L_hand : m_good 9 cL_hand 5 (some .int) false [(0, 10, 13, 34), (0, 10, 17, 13)] m_L_hand := m_good_of o_L_hand
set_option maxRecDepth 100000 in
theorem o_L_value : m_lm 9 cL_value 4 (some .int) false [(0, 9, 12, 13)] m_L_value = true := by decide +kernel
theorem g_L_value : m_good 9 cL_value 4 (some .int) false [(0, 9, 12, 13)] m_L_value := m_good_of o_L_value
set_option maxRecDepth 100000 in
theorem o_L_purse : m_lm 9 cL_purse 5 (some .int) false [(0, 10, 13, 34), (0, 10, 17, 13)] m_L_purse = true := by decide +kernel
theorem g_L_purse : m_good 9 cL_purse 5 (some .int) false [(0, 10, 13, 34), (0, 10, 17, 13)] m_L_purse := m_good_of o_L_purse
set_option maxRecDepth 100000 in
theorem o_L_fact : m_lm 9 cL_fact 6 (some .int) false [(0, 19, 22, 34), (0, 19, 26, 13)] m_L_fact = true := by decide +kernel
theorem g_L_fact : m_good 9 cL_fact 6 (some .int) false [(0, 19, 22, 34), (0, 19, 26, 13)] m_L_fact := m_good_of o_L_fact
set_option maxRecDepth 100000 in
theorem o_L_harm : m_lm 9 cL_harm 5 (some .int) false [(0, 10, 13, 13)] m_L_harm = true := by decide +kernel
theorem g_L_harm : m_good 9 cL_harm 5 (some .int) false [(0, 10, 13, 13)] m_L_harm := m_good_of o_L_harm
set_option maxRecDepth 100000 in
theorem o_L_name : m_lm 9 cL_name 5 (some .int) false [(0, 10, 13, 34), (0, 10, 17, 13)] m_L_name = true := by decide +kernel
theorem g_L_name : m_good 9 cL_name 5 (some .int) false [(0, 10, 13, 34), (0, 10, 17, 13)] m_L_name := m_good_of o_L_name
set_option maxRecDepth 100000 in
theorem o_L_claim : m_lm 9 cL_claim 4 (some .int) false [(0, 9, 12, 34)] m_L_claim = true := by decide +kernel
theorem g_L_claim : m_good 9 cL_claim 4 (some .int) false [(0, 9, 12, 34)] m_L_claim := m_good_of o_L_claim
set_option maxRecDepth 100000 in
theorem o_L_whom : m_lm 9 cL_whom 4 (some .int) false [(0, 9, 12, 34)] m_L_whom = true := by decide +kernel
theorem g_L_whom : m_good 9 cL_whom 4 (some .int) false [(0, 9, 12, 34)] m_L_whom := m_good_of o_L_whom
set_option maxRecDepth 100000 in
theorem o_L_pays : m_lm 9 cL_pays 4 (some .int) false [(0, 9, 12, 34)] m_L_pays = true := by decide +kernel
theorem g_L_pays : m_good 9 cL_pays 4 (some .int) false [(0, 9, 12, 34)] m_L_pays := m_good_of o_L_pays
set_option maxRecDepth 100000 in
theorem o_L_bears : m_lm 9 cL_bears 4 (some .int) false [(0, 9, 12, 34)] m_L_bears = true := by decide +kernel
theorem g_L_bears : m_good 9 cL_bears 4 (some .int) false [(0, 9, 12, 34)] m_L_bears := m_good_of o_L_bears
set_option maxRecDepth 100000 in
theorem o_L_must : m_lm 9 cL_must 4 (some .int) false [(0, 16, 19, 34)] m_L_must = true := by decide +kernel
theorem g_L_must : m_good 9 cL_must 4 (some .int) false [(0, 16, 19, 34)] m_L_must := m_good_of o_L_must
set_option maxRecDepth 100000 in
theorem o_L_frees : m_lm 9 cL_frees 4 (some .int) false [(0, 9, 12, 34)] m_L_frees = true := by decide +kernel
theorem g_L_frees : m_good 9 cL_frees 4 (some .int) false [(0, 9, 12, 34)] m_L_frees := m_good_of o_L_frees
set_option maxRecDepth 100000 in
theorem o_L_question : m_lm 9 cL_question 6 (some .int) false [(0, 12, 15, 34), (0, 12, 19, 13)] m_L_question = true := by decide +kernel
theorem g_L_question : m_good 9 cL_question 6 (some .int) false [(0, 12, 15, 34), (0, 12, 19, 13)] m_L_question := m_good_of o_L_question
set_option maxRecDepth 100000 in
theorem o_L_inCase : m_lm 9 cL_inCase 5 (some .int) false [(0, 10, 13, 34), (0, 10, 17, 13)] m_L_inCase = true := by decide +kernel
theorem g_L_inCase : m_good 9 cL_inCase 5 (some .int) false [(0, 10, 13, 34), (0, 10, 17, 13)] m_L_inCase := m_good_of o_L_inCase
set_option maxRecDepth 100000 in
theorem o_L_sure : m_lm 9 cL_sure 4 (some .int) false [(0, 9, 12, 34)] m_L_sure = true := by decide +kernel
theorem g_L_sure : m_good 9 cL_sure 4 (some .int) false [(0, 9, 12, 34)] m_L_sure := m_good_of o_L_sure
set_option maxRecDepth 100000 in
theorem o_L_cases : m_lm 9 cL_cases 4 (some .int) false [(0, 9, 12, 34)] m_L_cases = true := by decide +kernel
theorem g_L_cases : m_good 9 cL_cases 4 (some .int) false [(0, 9, 12, 34)] m_L_cases := m_good_of o_L_cases
set_option maxRecDepth 100000 in
theorem o_L_hangs : m_lm 9 cL_hangs 4 (some .int) false [(0, 9, 12, 34)] m_L_hangs = true := by decide +kernel
theorem g_L_hangs : m_good 9 cL_hangs 4 (some .int) false [(0, 9, 12, 34)] m_L_hangs := m_good_of o_L_hangs
set_option maxRecDepth 100000 in
theorem o_L_find : m_lm 9 cL_find 5 (some .int) false [(0, 10, 13, 34)] m_L_find = true := by decide +kernel
theorem g_L_find : m_good 9 cL_find 5 (some .int) false [(0, 10, 13, 34)] m_L_find := m_good_of o_L_find
set_option maxRecDepth 100000 in
theorem o_L_found : m_lm 9 cL_found 5 (some .int) false [(0, 10, 13, 34), (0, 10, 17, 13)] m_L_found = true := by decide +kernel
theorem g_L_found : m_good 9 cL_found 5 (some .int) false [(0, 10, 13, 34), (0, 10, 17, 13)] m_L_found := m_good_of o_L_found
set_option maxRecDepth 100000 in
theorem o_L_put : m_lm 9 cL_put 5 (some .int) false [(0, 10, 13, 13)] m_L_put = true := by decide +kernel
theorem g_L_put : m_good 9 cL_put 5 (some .int) false [(0, 10, 13, 13)] m_L_put := m_good_of o_L_put
set_option maxRecDepth 100000 in
theorem o_L_share : m_lm 9 cL_share 5 (some .int) false [(0, 10, 13, 13)] m_L_share = true := by decide +kernel
theorem g_L_share : m_good 9 cL_share 5 (some .int) false [(0, 10, 13, 13)] m_L_share := m_good_of o_L_share
set_option maxRecDepth 100000 in
theorem o_L_judge : m_lm 9 cL_judge 5 (some .int) false [(0, 10, 13, 34), (0, 10, 17, 13)] m_L_judge = true := by decide +kernel
theorem g_L_judge : m_good 9 cL_judge 5 (some .int) false [(0, 10, 13, 34), (0, 10, 17, 13)] m_L_judge := m_good_of o_L_judge
set_option maxRecDepth 100000 in
theorem o_L_parting : m_lm 9 cL_parting 5 (some .int) false [(0, 10, 13, 13)] m_L_parting = true := by decide +kernel
theorem g_L_parting : m_good 9 cL_parting 5 (some .int) false [(0, 10, 13, 13)] m_L_parting := m_good_of o_L_parting
set_option maxRecDepth 100000 in
theorem o_L_beside : m_lm 9 cL_beside 5 (some .int) false [(0, 10, 13, 34), (0, 10, 17, 13)] m_L_beside = true := by decide +kernel
theorem g_L_beside : m_good 9 cL_beside 5 (some .int) false [(0, 10, 13, 34), (0, 10, 17, 13)] m_L_beside := m_good_of o_L_beside
set_option maxRecDepth 100000 in
theorem o_L_law_0 : m_li 9 cL_law_ 7 (some .boolean) false m_L_law_.1 0 ((m_L_law_.1.drop 0).take 49) = true := by decide +kernel
set_option maxRecDepth 100000 in
theorem o_L_law_1 : m_li 9 cL_law_ 7 (some .boolean) false m_L_law_.1 49 ((m_L_law_.1.drop 49).take 49) = true := by decide +kernel
set_option maxRecDepth 100000 in
theorem o_L_law_2 : m_li 9 cL_law_ 7 (some .boolean) false m_L_law_.1 98 ((m_L_law_.1.drop 98).take 49) = true := by decide +kernel
set_option maxRecDepth 100000 in
theorem o_L_law_3 : m_li 9 cL_law_ 7 (some .boolean) false m_L_law_.1 147 ((m_L_law_.1.drop 147).take 49) = true := by decide +kernel
set_option maxRecDepth 100000 in
theorem o_L_law_4 : m_li 9 cL_law_ 7 (some .boolean) false m_L_law_.1 196 ((m_L_law_.1.drop 196).take 49) = true := by decide +kernel
set_option maxRecDepth 100000 in
theorem o_L_law_5 : m_li 9 cL_law_ 7 (some .boolean) false m_L_law_.1 245 ((m_L_law_.1.drop 245).take 49) = true := by decide +kernel
set_option maxRecDepth 100000 in
theorem o_L_law_6 : m_li 9 cL_law_ 7 (some .boolean) false m_L_law_.1 294 ((m_L_law_.1.drop 294).take 49) = true := by decide +kernel
set_option maxRecDepth 100000 in
theorem o_L_law_7 : m_li 9 cL_law_ 7 (some .boolean) false m_L_law_.1 343 ((m_L_law_.1.drop 343).take 49) = true := by decide +kernel
set_option maxRecDepth 100000 in
theorem o_L_law_8 : m_li 9 cL_law_ 7 (some .boolean) false m_L_law_.1 392 ((m_L_law_.1.drop 392).take 49) = true := by decide +kernel
set_option maxRecDepth 100000 in
theorem o_L_law_9 : m_li 9 cL_law_ 7 (some .boolean) false m_L_law_.1 441 ((m_L_law_.1.drop 441).take 49) = true := by decide +kernel
set_option maxRecDepth 100000 in
theorem o_L_law_10 : m_li 9 cL_law_ 7 (some .boolean) false m_L_law_.1 490 ((m_L_law_.1.drop 490).take 49) = true := by decide +kernel
set_option maxRecDepth 100000 in
theorem o_L_law_11 : m_li 9 cL_law_ 7 (some .boolean) false m_L_law_.1 539 ((m_L_law_.1.drop 539).take 49) = true := by decide +kernel
set_option maxRecDepth 100000 in
theorem o_L_law_12 : m_li 9 cL_law_ 7 (some .boolean) false m_L_law_.1 588 ((m_L_law_.1.drop 588).take 49) = true := by decide +kernel
set_option maxRecDepth 100000 in
theorem o_L_law_13 : m_li 9 cL_law_ 7 (some .boolean) false m_L_law_.1 637 ((m_L_law_.1.drop 637).take 49) = true := by decide +kernel
set_option maxRecDepth 100000 in
theorem o_L_law_14 : m_li 9 cL_law_ 7 (some .boolean) false m_L_law_.1 686 ((m_L_law_.1.drop 686).take 49) = true := by decide +kernel
set_option maxRecDepth 100000 in
theorem o_L_law_15 : m_li 9 cL_law_ 7 (some .boolean) false m_L_law_.1 735 ((m_L_law_.1.drop 735).take 49) = true := by decide +kernel
set_option maxRecDepth 100000 in
theorem o_L_law_16 : m_li 9 cL_law_ 7 (some .boolean) false m_L_law_.1 784 ((m_L_law_.1.drop 784).take 49) = true := by decide +kernel
set_option maxRecDepth 100000 in
theorem o_L_law_17 : m_li 9 cL_law_ 7 (some .boolean) false m_L_law_.1 833 ((m_L_law_.1.drop 833).take 49) = true := by decide +kernel
set_option maxRecDepth 100000 in
theorem o_L_law_18 : m_li 9 cL_law_ 7 (some .boolean) false m_L_law_.1 882 ((m_L_law_.1.drop 882).take 49) = true := by decide +kernel
set_option maxRecDepth 100000 in
theorem o_L_law_19 : m_li 9 cL_law_ 7 (some .boolean) false m_L_law_.1 931 ((m_L_law_.1.drop 931).take 49) = true := by decide +kernel
set_option maxRecDepth 100000 in
theorem o_L_law_20 : m_li 9 cL_law_ 7 (some .boolean) false m_L_law_.1 980 ((m_L_law_.1.drop 980).take 49) = true := by decide +kernel
set_option maxRecDepth 100000 in
theorem o_L_law_21 : m_li 9 cL_law_ 7 (some .boolean) false m_L_law_.1 1029 ((m_L_law_.1.drop 1029).take 49) = true := by decide +kernel
set_option maxRecDepth 100000 in
theorem o_L_law_22 : m_li 9 cL_law_ 7 (some .boolean) false m_L_law_.1 1078 ((m_L_law_.1.drop 1078).take 49) = true := by decide +kernel
set_option maxRecDepth 100000 in
theorem o_L_law_23 : m_li 9 cL_law_ 7 (some .boolean) false m_L_law_.1 1127 ((m_L_law_.1.drop 1127).take 49) = true := by decide +kernel
set_option maxRecDepth 100000 in
theorem o_L_law_24 : m_li 9 cL_law_ 7 (some .boolean) false m_L_law_.1 1176 ((m_L_law_.1.drop 1176).take 49) = true := by decide +kernel
set_option maxRecDepth 100000 in
theorem o_L_law_25 : m_li 9 cL_law_ 7 (some .boolean) false m_L_law_.1 1225 ((m_L_law_.1.drop 1225).take 49) = true := by decide +kernel
set_option maxRecDepth 100000 in
theorem o_L_law_26 : m_li 9 cL_law_ 7 (some .boolean) false m_L_law_.1 1274 ((m_L_law_.1.drop 1274).take 49) = true := by decide +kernel
set_option maxRecDepth 100000 in
theorem o_L_law_27 : m_li 9 cL_law_ 7 (some .boolean) false m_L_law_.1 1323 ((m_L_law_.1.drop 1323).take 49) = true := by decide +kernel
set_option maxRecDepth 100000 in
theorem o_L_law_28 : m_li 9 cL_law_ 7 (some .boolean) false m_L_law_.1 1372 ((m_L_law_.1.drop 1372).take 49) = true := by decide +kernel
set_option maxRecDepth 100000 in
theorem o_L_law_29 : m_li 9 cL_law_ 7 (some .boolean) false m_L_law_.1 1421 ((m_L_law_.1.drop 1421).take 49) = true := by decide +kernel
set_option maxRecDepth 100000 in
theorem o_L_law_len : m_L_law_.1.length = 1470 := by decide +kernel
theorem m_li_cut {own : Nat} {cd : ByteArray} {mx : Nat} {rt : Option FieldType} {ini : Bool} {L : List (Nat × m_I)} (k S : Nat) (h : m_li own cd mx rt ini L k ((L.drop k).take S) = true) (i : Nat) (q : Nat × m_I) (hq : L[i]? = some q) (h1 : k ≤ i) (h2 : i < k + S) : m_lk own cd mx rt ini L q.1 i q.2 = true := by
  have h3 := m_li_at _ k h (i - k) q (by rw [List.getElem?_take_of_lt (by omega), List.getElem?_drop, show k + (i - k) = i by omega]; exact hq)
  rwa [show k + (i - k) = i by omega] at h3
theorem g_L_law_ : m_good 9 cL_law_ 7 (some .boolean) false [] m_L_law_ := by
  refine ⟨fun i q hq => ?_, rfl, rfl, rfl, rfl⟩
  have hi : i < 1470 := by
    have := (List.getElem?_eq_some_iff.mp hq).1
    rw [o_L_law_len] at this
    exact this
  by_cases h0 : i < 49
  · exact m_li_cut 0 49 o_L_law_0 i q hq (by omega) (by omega)
  by_cases h1 : i < 98
  · exact m_li_cut 49 49 o_L_law_1 i q hq (by omega) (by omega)
  by_cases h2 : i < 147
  · exact m_li_cut 98 49 o_L_law_2 i q hq (by omega) (by omega)
  by_cases h3 : i < 196
  · exact m_li_cut 147 49 o_L_law_3 i q hq (by omega) (by omega)
  by_cases h4 : i < 245
  · exact m_li_cut 196 49 o_L_law_4 i q hq (by omega) (by omega)
  by_cases h5 : i < 294
  · exact m_li_cut 245 49 o_L_law_5 i q hq (by omega) (by omega)
  by_cases h6 : i < 343
  · exact m_li_cut 294 49 o_L_law_6 i q hq (by omega) (by omega)
  by_cases h7 : i < 392
  · exact m_li_cut 343 49 o_L_law_7 i q hq (by omega) (by omega)
  by_cases h8 : i < 441
  · exact m_li_cut 392 49 o_L_law_8 i q hq (by omega) (by omega)
  by_cases h9 : i < 490
  · exact m_li_cut 441 49 o_L_law_9 i q hq (by omega) (by omega)
  by_cases h10 : i < 539
  · exact m_li_cut 490 49 o_L_law_10 i q hq (by omega) (by omega)
  by_cases h11 : i < 588
  · exact m_li_cut 539 49 o_L_law_11 i q hq (by omega) (by omega)
  by_cases h12 : i < 637
  · exact m_li_cut 588 49 o_L_law_12 i q hq (by omega) (by omega)
  by_cases h13 : i < 686
  · exact m_li_cut 637 49 o_L_law_13 i q hq (by omega) (by omega)
  by_cases h14 : i < 735
  · exact m_li_cut 686 49 o_L_law_14 i q hq (by omega) (by omega)
  by_cases h15 : i < 784
  · exact m_li_cut 735 49 o_L_law_15 i q hq (by omega) (by omega)
  by_cases h16 : i < 833
  · exact m_li_cut 784 49 o_L_law_16 i q hq (by omega) (by omega)
  by_cases h17 : i < 882
  · exact m_li_cut 833 49 o_L_law_17 i q hq (by omega) (by omega)
  by_cases h18 : i < 931
  · exact m_li_cut 882 49 o_L_law_18 i q hq (by omega) (by omega)
  by_cases h19 : i < 980
  · exact m_li_cut 931 49 o_L_law_19 i q hq (by omega) (by omega)
  by_cases h20 : i < 1029
  · exact m_li_cut 980 49 o_L_law_20 i q hq (by omega) (by omega)
  by_cases h21 : i < 1078
  · exact m_li_cut 1029 49 o_L_law_21 i q hq (by omega) (by omega)
  by_cases h22 : i < 1127
  · exact m_li_cut 1078 49 o_L_law_22 i q hq (by omega) (by omega)
  by_cases h23 : i < 1176
  · exact m_li_cut 1127 49 o_L_law_23 i q hq (by omega) (by omega)
  by_cases h24 : i < 1225
  · exact m_li_cut 1176 49 o_L_law_24 i q hq (by omega) (by omega)
  by_cases h25 : i < 1274
  · exact m_li_cut 1225 49 o_L_law_25 i q hq (by omega) (by omega)
  by_cases h26 : i < 1323
  · exact m_li_cut 1274 49 o_L_law_26 i q hq (by omega) (by omega)
  by_cases h27 : i < 1372
  · exact m_li_cut 1323 49 o_L_law_27 i q hq (by omega) (by omega)
  by_cases h28 : i < 1421
  · exact m_li_cut 1372 49 o_L_law_28 i q hq (by omega) (by omega)
  by_cases h29 : i < 1470
  · exact m_li_cut 1421 49 o_L_law_29 i q hq (by omega) (by omega)
  omega
end
section
/-! ===== BEGIN words of one list among another's, by their places ===== -/
theorem goodIn_r {big : List Cond} (ws : List Cond) (ps : List Nat) (hp : ws = ps.filterMap (fun i => big[i]?)) (h : ws.all goodWord = true) : GoodIn big ws := by
  intro w hw
  have h1 := List.all_eq_true.mp h w hw
  rw [hp] at hw
  obtain ⟨i, -, hi⟩ := List.mem_filterMap.mp hw
  have hm : w ∈ big := by first | exact List.mem_of_getElem? hi | exact List.getElem?_mem hi
  exact ⟨hm, good_of_word h1⟩
theorem goodIn_app {big a b : List Cond} (ha : GoodIn big a) (hb : GoodIn big b) : GoodIn big (a ++ b) := fun w h => (List.mem_append.mp h).elim (ha w) (hb w)
theorem goodIn_ca {big a b : List Cond} {c : Cond} (ha : GoodIn big (c :: a)) (hb : GoodIn big b) : GoodIn big (c :: (a ++ b)) := fun w h => (List.mem_cons.mp h).elim (fun e => ha w (List.mem_cons.mpr (Or.inl e))) (fun h => (List.mem_append.mp h).elim (fun h => ha w (List.mem_cons.mpr (Or.inr h))) (hb w))
theorem goodIn_sub {big ws : List Cond} (hm : ∀ w ∈ ws, w ∈ big) (h : ws.all goodWord = true) : GoodIn big ws := fun w hw => ⟨hm w hw, good_of_word (List.all_eq_true.mp h w hw)⟩
/-! ===== END ===== -/
/-! ===== BEGIN exceptions that leave a method, and their catching by the caller (launches without stack traces) ===== -/
section VXA
/-! The laws vx_back, vx_callV, vx_callS, vx_callSW, vx_throw0, vx_throwS follow proofs of the library, with one case more: JvmDerived/Free/Laws.lean (Back.of_free), Shelf42/LK1.lean (callV, callS), Shelf/KitTraced.lean (throwNew0V, throwNewS). -/
/-- where a method has thrown q: the class by its name, the cell, what was written, the world -/
def vx_T (XC : String → State → State → Prop) (st : State) (q : Addr) (t : State) (mc ms : Nat) (free : Addr → Prop) : Prop :=
  ∃ (E : String) (ce : Cell) (L : List Loc), XC E st t ∧ t.heap[q]? = some ce ∧ ce.vm = .none ∧ st.vm.findClass E = some ce.cls ∧ st.WarmedH t.vm ∧ st.sameButNew ({ t with vm := st.vm } : State) L mc ms ∧ ∀ z ∈ L, free z.base
def vx_Q (Qc : Array Value → State → Outcome → State → Prop) (XC : String → State → State → Prop) (mc ms : Nat) (free : Addr → Prop) : Array Value → State → Outcome → State → Prop := fun a st o t =>
  (Qc a st o t ∧ ∃ L, FrameEnd st o t L mc ms ∧ ∀ q ∈ L, free q.base) ∨ ∃ q, o = .threw q ∧ vx_T XC st q t mc ms free
/-- a callee that returns or throws -/
def vx_Met (l : Launch) (y : MethodName) (ws : List Cond) (rm : Room) (Pc : Array Value → State → Prop) (Qc : Array Value → State → Outcome → State → Prop) (XC : String → State → State → Prop) (mc ms : Nat) (free : Addr → Prop) : Prop :=
  MetFree l y (headSpec ws rm) Pc (fun _ _ _ _ _ => True) (vx_Q Qc XC mc ms free)
def vx_Post (XC : String → State → State → Prop) (mc ms : Nat) (free : Addr → Prop) : Pt → Array Value → Addr → Pt → Prop := fun A a q B =>
  ∃ (g : JFrame) (mk : MethodId) (t : State) (L : List Loc) (E : String) (ce : Cell), B.U.heap = t.heap ∧ B.U.vm = t.vm ∧ XC E (A.U.calling g mk a) t ∧ t.heap[q]? = some ce ∧ ce.vm = .none ∧ A.U.vm.findClass E = some ce.cls ∧ B.locs = A.locs ++ L ∧ (∀ z ∈ L, free z.base) ∧ B.cells = A.cells + mc ∧ B.slots = A.slots + ms
def vx_Back (l : Launch) (R : Room) (p : Program) (e : Env) (below : List Frame) (s : State) (sargs : Array Value) (y : MethodName) (len W9 : Nat)
    (Pre : Pt → Array Value → Prop) (Post : Pt → Array Value → Option Value → Pt → Prop) (PostX : Pt → Array Value → Addr → Pt → Prop) : Prop :=
  ∀ (m : MethodId) (meth : Method) (c : Code) (A : Pt) (g : JFrame) (ig : Instr) (mk : MethodId) (a : Array Value),
    Stand p l e R s m sargs below meth c A.U A.locs A.cells A.slots → g.method = m → g.locals.size = c.maxLocals → decode c.code g.pc = .ok (ig, len) →
    2 * g.monitorRoom + (g.stack.map fun v => v.category).sum ≤ W9 → A.U.methodNamed? y = some mk → Pre A a →
    (∃ (v : Option Value) (B : Pt), Stand p l e R s m sargs below meth c B.U B.locs B.cells B.slots ∧ Post A a v B ∧
      Steps p.tables e below (doInvoke e (A.U.setTop g) [] mk a).1 (B.U.setTop { g with pc := g.pc + len, stack := v.toList ++ g.stack })) ∨
    (∃ (q : Addr) (B : Pt), Stand p l e R s m sargs below meth c B.U B.locs B.cells B.slots ∧ PostX A a q B ∧
      Steps p.tables e below (doInvoke e (A.U.setTop g) [] mk a).1 ((B.U.setTop g).pushFrame (.throwing q)))
section Payer
variable {l : Launch} {R : Room} {p : Program} {e : Env} {below : List Frame} {s : State} {sargs : Array Value} {y : MethodName} {len W9 : Nat}
theorem vx_back {ws : List Cond} {rm : Room} {Pc : Array Value → State → Prop} {Qc : Array Value → State → Outcome → State → Prop} {XC : String → State → State → Prop} {mc ms : Nat} {free : Addr → Prop} {bytes : ByteArray} {maxL : Nat} {ret : Option FieldType}
    (hM : vx_Met l y ws rm Pc Qc XC mc ms free) (hblind : FrameBlind Pc) (hrc : rm.cells = mc) (hrs : rm.slots = ms)
    (hframes : rm.frames + 1 ≤ R.frames) (hlocals : W9 + (maxL + 11) + rm.locals ≤ R.locals)
    (hws : ∀ w ∈ ws, ∀ a' U, s.WarmedH U.vm → w.before a' U = true) (hcode : Cond.code y bytes maxL ret ∈ ws) (hinit : ∀ a' U, s.WarmedH U.vm → (Cond.initialized y.cls).before a' U = true) :
    vx_Back l R p e below s sargs y len W9 (PreOf R mc ms Pc) (PostOf Qc mc ms free) (vx_Post XC mc ms free) := by
  intro m meth c A g ig mk a X hg hsize hdg hW hn hp
  have h1 : (headSpec ws rm).pre.before a A.U = true := atoms_intro fun w hw => hws w hw _ _ X.warmed
  have h2 : (Cond.code y bytes maxL ret).before a A.U = true := hws _ hcode _ _ X.warmed
  have h3 : (Cond.initialized y.cls).before a A.U = true := hinit _ _ X.warmed
  have h4 : A.cells + (headSpec ws rm).room.cells ≤ R.cells := by rw [show (headSpec ws rm).room.cells = mc from hrc]; exact hp.1
  have h5 : A.slots + (headSpec ws rm).room.slots ≤ R.slots := by rw [show (headSpec ws rm).room.slots = ms from hrs]; exact hp.2.1
  have hPc : Pc a (A.U.calling g mk a) := hblind _ _ _ _ hp.2.2
  obtain ⟨U, Ls, c0, s0⟩ := A
  dsimp only [Pt.U, Pt.locs, Pt.cells, Pt.slots] at h1 h2 h3 h4 h5 X hn hPc ⊢
  obtain ⟨methY, cY, hmY, hcY, -, hlY, -, -, -, -⟩ := Cond.code_spec hn h2
  obtain ⟨kY, hkY, -⟩ := className_of_methodNamed hn
  have hinitY : kY.init = .initialized := Cond.initialized_spec (findClass_of_methodNamed hn) hkY h3
  have h : At U g.method c below := by rw [hg]; exact X.here
  have hlocals9 : W9 + (maxL + 11) + (headSpec ws rm).room.locals ≤ R.locals := hlocals
  have happ : (headSpec ws rm).appliesLoose y e.platform (U.calling g mk a) = true :=
    Spec.appliesLoose_calling (g := g) h hdg hn hkY hinitY
      (X.room_calling (g := g) (R' := (headSpec ws rm).room) hsize hmY hcY hframes (by rw [hlY]; omega) h4 h5) h1
  obtain ⟨mid, hmid⟩ := h.above
  have hfr : (U.setTop g).frames = (.java g :: mid) ++ below := by rw [State.frames_setTop' g h.top, hmid]; rfl
  obtain ⟨o, s₂, hsteps, -, hend, hq⟩ := Steps.callFree hM p X.admits X.cas X.clock (acts := []) hfr happ hPc trivial
  have hq' : vx_Q Qc XC mc ms free a (U.calling g mk a) o s₂ := hq
  rw [State.frames_setTop' g h.top] at hend
  obtain ⟨g₀, hg0⟩ := Option.isSome_iff_exists.mp h.top
  obtain ⟨r, hr⟩ := State.topJava?_eq_some.mp hg0
  have hr' : (({ U with heap := s₂.heap, slotsUsed := s₂.slotsUsed } : State).setVm s₂.vm).frames = .java g₀ :: r := hr
  rcases hq' with ⟨hqc, L, hfe, hL⟩ | ⟨q, rfl, E, ce, L, hx, hce, hcv, hcl, hW₂, hsm, hL⟩
  · obtain ⟨⟨v, rfl⟩, hW₂, e2, q2, q3, q4, q5, q6⟩ := id hfe
    have e3 : s₂ = ({ (U.calling g mk a).setFrames s₂.frames with heap := s₂.heap, slotsUsed := s₂.slotsUsed } : State).setVm s₂.vm := by
      have : s₂ = ({ s₂ with vm := (U.calling g mk a).vm } : State).setVm s₂.vm := rfl
      rw [e2] at this
      exact this
    obtain ⟨c₂, i₂, len₂, hc₂, hd₂, hf₂⟩ := hend
    have hW' : U.WarmedH s₂.vm := hW₂
    have hcc : c₂ = c := by
      have h1 : s₂.code? g.method = U.code? g.method := by
        rw [State.code?_eq, State.code?_eq, hW'.alike.method?]
      exact Option.some.inj (hc₂.symm.trans (h1.trans h.code))
    subst hcc
    have hlen : len₂ = len := by rw [hdg] at hd₂; cases hd₂; rfl
    subst hlen
    have hs₂ : s₂ = (({ U with heap := s₂.heap, slotsUsed := s₂.slotsUsed } : State).setVm s₂.vm).setTop { g with pc := g.pc + len₂, stack := v.toList ++ g.stack } := by
      refine e3.trans ?_
      rw [hf₂, State.calling_eq h.top, State.setFrames_setFrames, State.setTop_of_frames _ hr', hr]
      rfl
    have hsame : U.sameButNew ({ U with heap := s₂.heap, slotsUsed := s₂.slotsUsed } : State) L mc ms := by
      refine ⟨?_, q2, q3, q4, q5, q6⟩
      obtain ⟨t, ht, -⟩ := State.frames_cons hr
      show ({ U with heap := s₂.heap, slotsUsed := s₂.slotsUsed } : State) = { U.setFrames U.frames with heap := s₂.heap, slotsUsed := s₂.slotsUsed }
      rw [State.setFrames_self ht]
    subst hg
    refine Or.inl ⟨v, ⟨(({ U with heap := s₂.heap, slotsUsed := s₂.slotsUsed } : State).setVm s₂.vm), Ls ++ L, c0 + mc, s0 + ms⟩,
      ⟨X.admits, X.cas, X.clock, X.frames, X.room, X.hears, X.method, X.code, (X.here.setHeapUsed s₂.heap s₂.slotsUsed).setVm hW'.alike, X.tail, State.WarmedH.trans X.warmed hW', X.limits, X.bytes, X.same.trans (hsame.setVm s.vm)⟩,
      ⟨g, mk, s₂, L, rfl, rfl, hqc, rfl, hL, rfl, rfl⟩, ?_⟩
    show Steps p.tables e below _ ((({ U with heap := s₂.heap, slotsUsed := s₂.slotsUsed } : State).setVm s₂.vm).setTop { g with pc := g.pc + len₂, stack := v.toList ++ g.stack })
    rw [← hs₂]
    exact hsteps
  · obtain ⟨e2, q2, q3, q4, q5, q6⟩ := id hsm
    have e3 : s₂ = ({ (U.calling g mk a).setFrames s₂.frames with heap := s₂.heap, slotsUsed := s₂.slotsUsed } : State).setVm s₂.vm := by
      have : s₂ = ({ s₂ with vm := (U.calling g mk a).vm } : State).setVm s₂.vm := rfl
      rw [e2] at this
      exact this
    have hf₂ : s₂.frames = .throwing q :: .java g :: U.frames.tail := hend
    have hW' : U.WarmedH s₂.vm := hW₂
    have hs₂ : s₂ = ((({ U with heap := s₂.heap, slotsUsed := s₂.slotsUsed } : State).setVm s₂.vm).setTop g).pushFrame (.throwing q) := by
      refine e3.trans ?_
      rw [hf₂, State.calling_eq h.top, State.setFrames_setFrames, State.pushFrame, State.frames_setTop _ hr', State.setTop_of_frames _ hr', State.setFrames_setFrames, hr]
      rfl
    have hsame : U.sameButNew ({ U with heap := s₂.heap, slotsUsed := s₂.slotsUsed } : State) L mc ms := by
      refine ⟨?_, q2, q3, q4, q5, q6⟩
      obtain ⟨t, ht, -⟩ := State.frames_cons hr
      show ({ U with heap := s₂.heap, slotsUsed := s₂.slotsUsed } : State) = { U.setFrames U.frames with heap := s₂.heap, slotsUsed := s₂.slotsUsed }
      rw [State.setFrames_self ht]
    subst hg
    refine Or.inr ⟨q, ⟨(({ U with heap := s₂.heap, slotsUsed := s₂.slotsUsed } : State).setVm s₂.vm), Ls ++ L, c0 + mc, s0 + ms⟩,
      ⟨X.admits, X.cas, X.clock, X.frames, X.room, X.hears, X.method, X.code, (X.here.setHeapUsed s₂.heap s₂.slotsUsed).setVm hW'.alike, X.tail, State.WarmedH.trans X.warmed hW', X.limits, X.bytes, X.same.trans (hsame.setVm s.vm)⟩,
      ⟨g, mk, s₂, L, E, ce, rfl, rfl, hx, hce, hcv, hcl, rfl, hL, rfl, rfl⟩, ?_⟩
    show Steps p.tables e below _ (((({ U with heap := s₂.heap, slotsUsed := s₂.slotsUsed } : State).setVm s₂.vm).setTop g).pushFrame (.throwing q))
    rw [← hs₂]
    exact hsteps
end Payer
section Calls
variable {p : Program} {l : Launch} {e : Env} {R : Room} {s : State} {m : MethodId} {args : Array Value} {below : List Frame} {meth : Method} {c : Code} {T : State} {locs : List Loc} {cells slots : Nat}
theorem vx_callV (X : Stand p l e R s m args below meth c T locs cells slots) (hexec : p.tables.exec = Jvm.exec) {own C : String} {index : Nat} {y : MethodName} {bytes : ByteArray} {maxL : Nat} {ret : Option FieldType}
    (hown : s.vm.findClass own = some m.cls) (hlink : (Cond.methodLink own index y).before args s = true) (hinst : (Cond.instanceMethod y).before args s = true) (hsel : (Cond.selects C y y).before args s = true)
    (hcode : (Cond.code y bytes maxL ret).before args s = true) (hy : y.cls ≠ "java/lang/invoke/MethodHandle" ∧ y.cls ≠ "java/lang/invoke/VarHandle")
    {W9 : Nat} {Pre : Pt → Array Value → Prop} {Post : Pt → Array Value → Option Value → Pt → Prop} {PostX : Pt → Array Value → Addr → Pt → Prop} (hK : vx_Back l R p e below s args y 3 W9 Pre Post PostX)
    {b : Addr} {cellB : Cell} (hcell : T.heap[b]? = some cellB) (hobj : cellB.vm.isStatics = false) (hcls : s.vm.findClass C = some cellB.cls)
    {g : JFrame} (hg : g.method = m) (hsize : g.locals.size = c.maxLocals) {argsL rest : List Value} (hlen : ∀ sig, parseMethodDescriptor y.desc = some sig → argsL.length = sig.parameters.length)
    (hstack : g.stack = argsL.reverse ++ .ref b :: rest) (hW : 2 * g.monitorRoom + (rest.map fun v => v.category).sum ≤ W9) (hdg : decode c.code g.pc = .ok (.invokevirtual index, 3))
    (hpre : ∀ vm₁, s.WarmedH vm₁ → Pre ⟨T.setVm vm₁, locs, cells, slots⟩ (Value.ref b :: argsL).toArray) :
    (∃ (v : Option Value) (vm₁ : Vm) (B : Pt), s.WarmedH vm₁ ∧ Stand p l e R s m args below meth c B.U B.locs B.cells B.slots ∧ Post ⟨T.setVm vm₁, locs, cells, slots⟩ (Value.ref b :: argsL).toArray v B ∧
      ∀ target, Steps p.tables e below (B.U.setTop { g with pc := g.pc + 3, stack := v.toList ++ rest }) target → Steps p.tables e below (T.setTop g) target) ∨
    (∃ (q : Addr) (vm₁ : Vm) (B : Pt), s.WarmedH vm₁ ∧ Stand p l e R s m args below meth c B.U B.locs B.cells B.slots ∧ PostX ⟨T.setVm vm₁, locs, cells, slots⟩ (Value.ref b :: argsL).toArray q B ∧
      Steps p.tables e below (T.setTop g) ((B.U.setTop { g with stack := rest }).pushFrame (.throwing q))) := by
  obtain ⟨mk, methM, hnamed, hmethM, hstM, habM⟩ := Cond.instanceMethod_spec hinst
  obtain ⟨methM', cM, hmethM', -, -, -, -, -, -, hsigM⟩ := Cond.code_spec hnamed hcode
  cases hmethM.symm.trans hmethM'
  obtain ⟨c2, r2, m2, q1, q2, q3, q4, kP, hkP, hkPi⟩ := Cond.selects_spec hsel
  cases hcls.symm.trans q1
  cases (State.methodFound?_of_named hnamed hy).symm.trans q2
  cases hnamed.symm.trans q3
  have hselP : selectMethod e.platform s.vm cellB.cls mk = .method mk := by rw [Launch.admits_selectMethod X.admits]; exact q4
  obtain ⟨vm₁, X₁, hstep₁⟩ := X.invokevirtual hexec hown hlink hnamed hmethM hstM hkP hkPi hy (a := b) (cell := cellB) hcell
    (fun z h => by rw [h] at hobj; cases hobj) hselP hmethM habM hkP hkPi (g := g) hg (argsL := argsL) (rest := rest) (hlen _ hsigM) hstack hdg
  rcases hK m meth c ⟨T.setVm vm₁, locs, cells, slots⟩ { g with stack := rest } (.invokevirtual index) mk (Value.ref b :: argsL).toArray X₁ hg hsize hdg hW (X₁.named hnamed) (hpre vm₁ X₁.warmed) with ⟨v, B, X', hpost, hsteps⟩ | ⟨q, B, X', hpost, hsteps⟩
  · exact Or.inl ⟨v, vm₁, B, X₁.warmed, X', hpost, fun target h => hstep₁ _ fun acts => by rw [doInvoke_state]; exact hsteps.trans h⟩
  · exact Or.inr ⟨q, vm₁, B, X₁.warmed, X', hpost, hstep₁ _ fun acts => by rw [doInvoke_state]; exact hsteps⟩
theorem vx_callS (X : Stand p l e R s m args below meth c T locs cells slots) (hexec : p.tables.exec = Jvm.exec) {own : String} {index : Nat} {y : MethodName} {bytes : ByteArray} {maxL : Nat} {ret : Option FieldType}
    (hown : s.vm.findClass own = some m.cls) (hlink : (Cond.methodLink own index y).before args s = true) (hstat : (Cond.static y).before args s = true) (hinit : (Cond.initialized y.cls).before args s = true)
    (hcode : (Cond.code y bytes maxL ret).before args s = true) (hy : y.cls ≠ "java/lang/invoke/MethodHandle" ∧ y.cls ≠ "java/lang/invoke/VarHandle")
    {W9 : Nat} {Pre : Pt → Array Value → Prop} {Post : Pt → Array Value → Option Value → Pt → Prop} {PostX : Pt → Array Value → Addr → Pt → Prop} (hK : vx_Back l R p e below s args y 3 W9 Pre Post PostX)
    {g : JFrame} (hg : g.method = m) (hsize : g.locals.size = c.maxLocals) {argsL rest : List Value} (hlen : ∀ sig, parseMethodDescriptor y.desc = some sig → argsL.length = sig.parameters.length)
    (hstack : g.stack = argsL.reverse ++ rest) (hW : 2 * g.monitorRoom + (rest.map fun v => v.category).sum ≤ W9) (hdg : decode c.code g.pc = .ok (.invokestatic index, 3))
    (hpre : ∀ vm₁, s.WarmedH vm₁ → Pre ⟨T.setVm vm₁, locs, cells, slots⟩ argsL.toArray) :
    (∃ (v : Option Value) (vm₁ : Vm) (B : Pt), s.WarmedH vm₁ ∧ Stand p l e R s m args below meth c B.U B.locs B.cells B.slots ∧ Post ⟨T.setVm vm₁, locs, cells, slots⟩ argsL.toArray v B ∧
      ∀ target, Steps p.tables e below (B.U.setTop { g with pc := g.pc + 3, stack := v.toList ++ rest }) target → Steps p.tables e below (T.setTop g) target) ∨
    (∃ (q : Addr) (vm₁ : Vm) (B : Pt), s.WarmedH vm₁ ∧ Stand p l e R s m args below meth c B.U B.locs B.cells B.slots ∧ PostX ⟨T.setVm vm₁, locs, cells, slots⟩ argsL.toArray q B ∧
      Steps p.tables e below (T.setTop g) ((B.U.setTop { g with stack := rest }).pushFrame (.throwing q))) := by
  obtain ⟨mk, hnamed⟩ := Cond.code_named hcode
  obtain ⟨methM, cM, hmethM, -, -, -, -, -, -, hsigM⟩ := Cond.code_spec hnamed hcode
  have hstatic : methM.isStatic = true := Cond.static_spec hnamed hmethM hstat
  obtain ⟨kP, hkP, -⟩ := className_of_methodNamed hnamed
  have hinitP : kP.init = .initialized := Cond.initialized_spec (findClass_of_methodNamed hnamed) hkP hinit
  obtain ⟨vm₁, X₁, hstep₁⟩ := X.invokestatic hexec hown hlink hnamed hmethM hstatic hkP hinitP hy (g := g) hg (argsL := argsL) (rest := rest) (hlen _ hsigM) hstack hdg
  rcases hK m meth c ⟨T.setVm vm₁, locs, cells, slots⟩ { g with stack := rest } (.invokestatic index) mk argsL.toArray X₁ hg hsize hdg hW (X₁.named hnamed) (hpre vm₁ X₁.warmed) with ⟨v, B, X', hpost, hsteps⟩ | ⟨q, B, X', hpost, hsteps⟩
  · exact Or.inl ⟨v, vm₁, B, X₁.warmed, X', hpost, fun target h => hstep₁ _ fun acts => by rw [doInvoke_state]; exact hsteps.trans h⟩
  · exact Or.inr ⟨q, vm₁, B, X₁.warmed, X', hpost, hstep₁ _ fun acts => by rw [doInvoke_state]; exact hsteps⟩
end Calls
theorem vx_cls {s : State} {T : State} {vm₁ : Vm} {E : String} {k : ClassId} (hW : s.WarmedH vm₁) (h : (T.setVm vm₁).vm.findClass E = some k) : s.vm.findClass E = some k := by
  have h1 : vm₁.findClass E = some k := h
  rw [hW.alike.findClass] at h1
  exact h1
/-- the method's frame g, with q thrown over it -/
def vx_W (p : Program) (l : Launch) (e : Env) (R : Room) (s : State) (m : MethodId) (args : Array Value) (below : List Frame) (meth : Method) (c : Code) (H : Heap) (locs : List Loc) (cells slots : Nat) (Q : State → Prop) (g : JFrame) (q : Addr) : Prop :=
  ∀ T : State, T.heap = H → Stand p l e R s m args below meth c T locs cells slots → ∃ t, Steps p.tables e below ((T.setTop g).pushFrame (.throwing q)) t ∧ Q t
def vx_Run (p : Program) (l : Launch) (e : Env) (R : Room) (s : State) (m : MethodId) (args : Array Value) (below : List Frame) (meth : Method) (c : Code) (H : Heap) (locs : List Loc) (cells slots mc ms : Nat) (g : JFrame) (rest : List Value) (Qa : State → Outcome → State → Prop) (XC : String → State → State → Prop) (free : Addr → Prop) : Prop :=
  ∀ T : State, T.heap = H → Stand p l e R s m args below meth c T locs cells slots →
    (∃ (v : Option Value) (st₀ t T' : State) (L : List Loc), st₀.heap = H ∧ Stand p l e R s m args below meth c T' (locs ++ L) (cells + mc) (slots + ms) ∧ (∀ q ∈ L, free q.base) ∧ T'.heap = t.heap ∧ T'.vm = t.vm ∧ Qa st₀ (.returned v) t ∧
      Goes p e below T g T' { g with pc := g.pc + 3, stack := v.toList ++ rest }) ∨
    (∃ (q : Addr) (st₀ t T' : State) (L : List Loc) (E : String) (ce : Cell), st₀.heap = H ∧ Stand p l e R s m args below meth c T' (locs ++ L) (cells + mc) (slots + ms) ∧ (∀ z ∈ L, free z.base) ∧ T'.heap = t.heap ∧ T'.vm = t.vm ∧ XC E st₀ t ∧ t.heap[q]? = some ce ∧ ce.vm = .none ∧ s.vm.findClass E = some ce.cls ∧
      Steps p.tables e below (T.setTop g) ((T'.setTop { g with stack := rest }).pushFrame (.throwing q)))
def vx_X {S : Type} (px : S → Prop) (B : String → S → State → Prop) (A : Nat → Prop) : String → State → State → Prop := fun E st t => ∃ u : S, px u ∧ B E u t ∧ va_F A st t
section Runs
variable {p : Program} {l : Launch} {e : Env} {R : Room} {s : State} {m : MethodId} {args : Array Value} {below : List Frame} {meth : Method} {c : Code} {H : Heap} {locs : List Loc} {cells slots : Nat}
variable {y : MethodName} {bytes cc : ByteArray} {maxL nL mc ms n index : Nat} {ret : Option FieldType} {ws : List Cond} {rm : Room} {Pc : Array Value → State → Prop} {Qc : Array Value → State → Outcome → State → Prop} {XC : String → State → State → Prop} {free : Addr → Prop} {Ts : List Cond} {own C : String} {b : Addr} {As rest : List Value} {g : JFrame}
theorem vx_callBack (cb : CallB R s args own index y bytes maxL ret ws rm mc ms n) (hM : vx_Met l y ws rm Pc Qc XC mc ms free) (hbl : FrameBlind Pc) : vx_Back l R p e below s args y 3 8 (PreOf R mc ms Pc) (PostOf Qc mc ms free) (vx_Post XC mc ms free) := by
  obtain ⟨hrc, hrs, hfr, hlo, hws, hcw, -, hini, -⟩ := cb
  exact vx_back (bytes := bytes) (maxL := maxL) (ret := ret) hM hbl hrc hrs hfr hlo hws hcw (fun a' U hW => word_at hW (Or.inl (by first | rfl | simp [Cond.onTables, Cond.keeps, Cond.steady])) hini)
theorem vx_runV (S : CallFix p m c cc nL s args Ts own) (hM : vx_Met l y ws rm Pc Qc XC mc ms free) (cw : CallW R s args own C index y bytes maxL ret ws rm mc ms n) (hp : PreV s H C b Pc As)
    (hg : g.method = m) (hn : As.length = n) (hsize : g.locals.size = nL) (hstack : g.stack = As.reverse ++ .ref b :: rest) (hW : 2 * g.monitorRoom + (rest.map fun v => v.category).sum ≤ 8) (hdg : decode cc g.pc = .ok (.invokevirtual index, 3)) (hf : cells + mc ≤ R.cells ∧ slots + ms ≤ R.slots) :
    vx_Run p l e R s m args below meth c H locs cells slots mc ms g rest (Qc (Value.ref b :: As).toArray) XC free := by
  have hK : vx_Back l R p e below s args y 3 8 (PreOf R mc ms Pc) (PostOf Qc mc ms free) (vx_Post XC mc ms free) := vx_callBack cw.1 hM hp.1
  obtain ⟨⟨-, -, -, -, -, -, hcode, -, hy, hlen, hl⟩, hin, hse⟩ := cw
  obtain ⟨hx, hb, hml, ho, -⟩ := S
  obtain ⟨-, ⟨cellB, hcB, hoB, hclB⟩, hPc⟩ := hp
  intro T hT X
  rcases vx_callV X hx (C := C) (bytes := bytes) (maxL := maxL) (ret := ret) ho hl hin hse hcode hy hK (by rw [hT]; exact hcB) hoB hclB hg (hsize.trans hml.symm) (argsL := As) (rest := rest) (fun sig h => hn.trans (hlen sig h)) hstack hW (by rw [hb]; exact hdg)
    (fun vm₁ hW₁ => ⟨hf.1, hf.2, hPc (T.setVm vm₁) hT hW₁⟩) with ⟨v, vm₁, ⟨U', l2, c2, s2⟩, hW₁, X', ⟨g', mk, t, L, e1, e2, hq, h1, hL, h2, h3⟩, st⟩ | ⟨q, vm₁, ⟨U', l2, c2, s2⟩, hW₁, X', ⟨g', mk, t, L, E, ce, e1, e2, hq, hce, hcv, hcl, h1, hL, h2, h3⟩, st⟩
  · dsimp only [Pt.U, Pt.locs, Pt.cells, Pt.slots] at X' e1 e2 h1 h2 h3 st
    subst h1; subst h2; subst h3
    exact Or.inl ⟨v, (T.setVm vm₁).calling g' mk (Value.ref b :: As).toArray, t, U', L, hT, X', hL, e1, e2, hq, st⟩
  · dsimp only [Pt.U, Pt.locs, Pt.cells, Pt.slots] at X' e1 e2 h1 h2 h3 st hcl
    subst h1; subst h2; subst h3
    exact Or.inr ⟨q, (T.setVm vm₁).calling g' mk (Value.ref b :: As).toArray, t, U', L, E, ce, hT, X', hL, e1, e2, hq, hce, hcv, vx_cls hW₁ hcl, st⟩
theorem vx_runS (S : CallFix p m c cc nL s args Ts own) (hM : vx_Met l y ws rm Pc Qc XC mc ms free) (cw : CallB R s args own index y bytes maxL ret ws rm mc ms n ∧ (Cond.static y).before args s = true) (hp : PreS s H Pc As)
    (hg : g.method = m) (hn : As.length = n) (hsize : g.locals.size = nL) (hstack : g.stack = As.reverse ++ rest) (hW : 2 * g.monitorRoom + (rest.map fun v => v.category).sum ≤ 8) (hdg : decode cc g.pc = .ok (.invokestatic index, 3)) (hf : cells + mc ≤ R.cells ∧ slots + ms ≤ R.slots) :
    vx_Run p l e R s m args below meth c H locs cells slots mc ms g rest (Qc As.toArray) XC free := by
  have hK : vx_Back l R p e below s args y 3 8 (PreOf R mc ms Pc) (PostOf Qc mc ms free) (vx_Post XC mc ms free) := vx_callBack cw.1 hM hp.1
  obtain ⟨⟨-, -, -, -, -, -, hcode, hini, hy, hlen, hl⟩, hstt⟩ := cw
  obtain ⟨hx, hb, hml, ho, -⟩ := S
  intro T hT X
  rcases vx_callS X hx (bytes := bytes) (maxL := maxL) (ret := ret) ho hl hstt hini hcode hy hK hg (hsize.trans hml.symm) (argsL := As) (rest := rest) (fun sig h => hn.trans (hlen sig h)) hstack hW (by rw [hb]; exact hdg)
    (fun vm₁ hW₁ => ⟨hf.1, hf.2, hp.2 (T.setVm vm₁) hT hW₁⟩) with ⟨v, vm₁, ⟨U', l2, c2, s2⟩, hW₁, X', ⟨g', mk, t, L, e1, e2, hq, h1, hL, h2, h3⟩, st⟩ | ⟨q, vm₁, ⟨U', l2, c2, s2⟩, hW₁, X', ⟨g', mk, t, L, E, ce, e1, e2, hq, hce, hcv, hcl, h1, hL, h2, h3⟩, st⟩
  · dsimp only [Pt.U, Pt.locs, Pt.cells, Pt.slots] at X' e1 e2 h1 h2 h3 st
    subst h1; subst h2; subst h3
    exact Or.inl ⟨v, (T.setVm vm₁).calling g' mk As.toArray, t, U', L, hT, X', hL, e1, e2, hq, st⟩
  · dsimp only [Pt.U, Pt.locs, Pt.cells, Pt.slots] at X' e1 e2 h1 h2 h3 st hcl
    subst h1; subst h2; subst h3
    exact Or.inr ⟨q, (T.setVm vm₁).calling g' mk As.toArray, t, U', L, E, ce, hT, X', hL, e1, e2, hq, hce, hcv, vx_cls hW₁ hcl, st⟩
end Runs
section Rows
variable {p : Program} {l : Launch} {e : Env} {R : Room} {s : State} {m : MethodId} {args : Array Value} {below : List Frame} {meth : Method} {c : Code} {H : Heap} {locs : List Loc} {cells slots : Nat} {Q : State → Prop}
variable {mc ms : Nat} {free : Addr → Prop} {A0 A1 : Nat → Prop} {H0 : Heap} {a : Array Value} {pc : Nat} {ls : Array Slot} {st0 rest : List Value}
theorem vx_keep {st₀ t T' : State} {L : List Loc} (h0 : st₀.heap = H) (e1 : T'.heap = t.heap) (hS : va_S A0 H0 H locs) (hA : ∀ q, q < H.size → A1 q → A0 q) (hf : ∀ q, free q → A0 q) (hL : ∀ q ∈ L, free q.base) (hF : va_F A1 st₀ t) :
    H.size ≤ T'.heap.size ∧ (∀ q : Nat, q < H.size → ¬ A1 q → T'.heap[q]? = H[q]?) ∧ va_S A0 H0 T'.heap (locs ++ L) := by
  obtain ⟨hz, hk⟩ := hF
  rw [h0] at hz hk
  exact ⟨by rw [e1]; exact hz, fun q h1 h2 => by rw [e1]; exact hk q h1 h2,
    ⟨Nat.le_trans hS.1 (by rw [e1]; exact hz), fun q h1 h2 => by rw [e1, hk q (Nat.lt_of_lt_of_le h1 hS.1) (fun z => h2 (hA q (Nat.lt_of_lt_of_le h1 hS.1) z))]; exact hS.2.1 q h1 h2, fun q hq => by
      rcases List.mem_append.mp hq with h | h
      · exact hS.2.2 q h
      · exact hf _ (hL q h)⟩⟩
theorem vx_calli {S SX : Type} {post : Int32 → S → Prop} {px : SX → Prop} {B : S → State → Prop} {BX : String → SX → State → Prop} {AX : Nat → Prop} (hr : vx_Run p l e R s m args below meth c H locs cells slots mc ms (F0 m pc ls st0) rest (va_Qi post B A1 a) (vx_X px BX AX) free) (hS : va_S A0 H0 H locs) (hA : ∀ q, q < H.size → A1 q → A0 q) (hf : ∀ q, free q → A0 q) (hAX : ∀ q, q < H.size → AX q → A0 q)
    (kx : ∀ (E : String) (ce : Cell) (q9 : Addr) (u : SX) (t : State) (H1 : Heap) (locs1 : List Loc), t.heap = H1 → s.vm.Alike t.vm → px u → BX E u t → H.size ≤ H1.size → (∀ q : Nat, q < H.size → ¬ AX q → H1[q]? = H[q]?) → va_S A0 H0 H1 locs1 → H1[q9]? = some ce → ce.vm = .none → s.vm.findClass E = some ce.cls → vx_W p l e R s m args below meth c H1 locs1 (cells + mc) (slots + ms) Q (F0 m pc ls rest) q9)
    (kk : ∀ (r : Int32) (u : S) (t : State) (H1 : Heap) (locs1 : List Loc), t.heap = H1 → s.vm.Alike t.vm → post r u → B u t → H.size ≤ H1.size → (∀ q : Nat, q < H.size → ¬ A1 q → H1[q]? = H[q]?) → va_S A0 H0 H1 locs1 → W p l e R s m args below meth c H1 locs1 (cells + mc) (slots + ms) Q (F0 m (pc + 3) ls (.int r :: rest))) : W p l e R s m args below meth c H locs cells slots Q (F0 m pc ls st0) := by
  intro T hT X
  rcases hr T hT X with ⟨v, st₀, t, T', L, h0, X', hL, e1, e2, ⟨⟨r, u, hv, hp, hb⟩, hF⟩, st⟩ | ⟨q, st₀, t, T', L, E, ce, h0, X', hL, e1, e2, ⟨u, hp, hb, hF⟩, hce, hcv, hcl, st⟩
  · cases hv
    obtain ⟨k1, k2, k3⟩ := vx_keep h0 e1 hS hA hf hL hF
    obtain ⟨t2, a1, b1⟩ := kk r u t T'.heap (locs ++ L) e1.symm (by rw [← e2]; exact X'.warmed.alike) hp hb k1 k2 k3 T' rfl X'
    exact ⟨t2, st t2 a1, b1⟩
  · obtain ⟨k1, k2, k3⟩ := vx_keep h0 e1 hS hAX hf hL hF
    obtain ⟨t2, a1, b1⟩ := kx E ce q u t T'.heap (locs ++ L) e1.symm (by rw [← e2]; exact X'.warmed.alike) hp hb k1 k2 k3 (by rw [e1]; exact hce) hcv hcl T' rfl X'
    exact ⟨t2, st.trans a1, b1⟩
theorem vx_calll {S SX : Type} {post : Int64 → S → Prop} {px : SX → Prop} {B : S → State → Prop} {BX : String → SX → State → Prop} {AX : Nat → Prop} (hr : vx_Run p l e R s m args below meth c H locs cells slots mc ms (F0 m pc ls st0) rest (va_Ql post B A1 a) (vx_X px BX AX) free) (hS : va_S A0 H0 H locs) (hA : ∀ q, q < H.size → A1 q → A0 q) (hf : ∀ q, free q → A0 q) (hAX : ∀ q, q < H.size → AX q → A0 q)
    (kx : ∀ (E : String) (ce : Cell) (q9 : Addr) (u : SX) (t : State) (H1 : Heap) (locs1 : List Loc), t.heap = H1 → s.vm.Alike t.vm → px u → BX E u t → H.size ≤ H1.size → (∀ q : Nat, q < H.size → ¬ AX q → H1[q]? = H[q]?) → va_S A0 H0 H1 locs1 → H1[q9]? = some ce → ce.vm = .none → s.vm.findClass E = some ce.cls → vx_W p l e R s m args below meth c H1 locs1 (cells + mc) (slots + ms) Q (F0 m pc ls rest) q9)
    (kk : ∀ (r : Int64) (u : S) (t : State) (H1 : Heap) (locs1 : List Loc), t.heap = H1 → s.vm.Alike t.vm → post r u → B u t → H.size ≤ H1.size → (∀ q : Nat, q < H.size → ¬ A1 q → H1[q]? = H[q]?) → va_S A0 H0 H1 locs1 → W p l e R s m args below meth c H1 locs1 (cells + mc) (slots + ms) Q (F0 m (pc + 3) ls (.long r :: rest))) : W p l e R s m args below meth c H locs cells slots Q (F0 m pc ls st0) := by
  intro T hT X
  rcases hr T hT X with ⟨v, st₀, t, T', L, h0, X', hL, e1, e2, ⟨⟨r, u, hv, hp, hb⟩, hF⟩, st⟩ | ⟨q, st₀, t, T', L, E, ce, h0, X', hL, e1, e2, ⟨u, hp, hb, hF⟩, hce, hcv, hcl, st⟩
  · cases hv
    obtain ⟨k1, k2, k3⟩ := vx_keep h0 e1 hS hA hf hL hF
    obtain ⟨t2, a1, b1⟩ := kk r u t T'.heap (locs ++ L) e1.symm (by rw [← e2]; exact X'.warmed.alike) hp hb k1 k2 k3 T' rfl X'
    exact ⟨t2, st t2 a1, b1⟩
  · obtain ⟨k1, k2, k3⟩ := vx_keep h0 e1 hS hAX hf hL hF
    obtain ⟨t2, a1, b1⟩ := kx E ce q u t T'.heap (locs ++ L) e1.symm (by rw [← e2]; exact X'.warmed.alike) hp hb k1 k2 k3 (by rw [e1]; exact hce) hcv hcl T' rfl X'
    exact ⟨t2, st.trans a1, b1⟩
theorem vx_callf {S SX : Type} {post : UInt32 → S → Prop} {px : SX → Prop} {B : S → State → Prop} {BX : String → SX → State → Prop} {AX : Nat → Prop} (hr : vx_Run p l e R s m args below meth c H locs cells slots mc ms (F0 m pc ls st0) rest (va_Qf post B A1 a) (vx_X px BX AX) free) (hS : va_S A0 H0 H locs) (hA : ∀ q, q < H.size → A1 q → A0 q) (hf : ∀ q, free q → A0 q) (hAX : ∀ q, q < H.size → AX q → A0 q)
    (kx : ∀ (E : String) (ce : Cell) (q9 : Addr) (u : SX) (t : State) (H1 : Heap) (locs1 : List Loc), t.heap = H1 → s.vm.Alike t.vm → px u → BX E u t → H.size ≤ H1.size → (∀ q : Nat, q < H.size → ¬ AX q → H1[q]? = H[q]?) → va_S A0 H0 H1 locs1 → H1[q9]? = some ce → ce.vm = .none → s.vm.findClass E = some ce.cls → vx_W p l e R s m args below meth c H1 locs1 (cells + mc) (slots + ms) Q (F0 m pc ls rest) q9)
    (kk : ∀ (r : UInt32) (u : S) (t : State) (H1 : Heap) (locs1 : List Loc), t.heap = H1 → s.vm.Alike t.vm → post r u → B u t → H.size ≤ H1.size → (∀ q : Nat, q < H.size → ¬ A1 q → H1[q]? = H[q]?) → va_S A0 H0 H1 locs1 → W p l e R s m args below meth c H1 locs1 (cells + mc) (slots + ms) Q (F0 m (pc + 3) ls (.float r :: rest))) : W p l e R s m args below meth c H locs cells slots Q (F0 m pc ls st0) := by
  intro T hT X
  rcases hr T hT X with ⟨v, st₀, t, T', L, h0, X', hL, e1, e2, ⟨⟨r, u, hv, hp, hb⟩, hF⟩, st⟩ | ⟨q, st₀, t, T', L, E, ce, h0, X', hL, e1, e2, ⟨u, hp, hb, hF⟩, hce, hcv, hcl, st⟩
  · cases hv
    obtain ⟨k1, k2, k3⟩ := vx_keep h0 e1 hS hA hf hL hF
    obtain ⟨t2, a1, b1⟩ := kk r u t T'.heap (locs ++ L) e1.symm (by rw [← e2]; exact X'.warmed.alike) hp hb k1 k2 k3 T' rfl X'
    exact ⟨t2, st t2 a1, b1⟩
  · obtain ⟨k1, k2, k3⟩ := vx_keep h0 e1 hS hAX hf hL hF
    obtain ⟨t2, a1, b1⟩ := kx E ce q u t T'.heap (locs ++ L) e1.symm (by rw [← e2]; exact X'.warmed.alike) hp hb k1 k2 k3 (by rw [e1]; exact hce) hcv hcl T' rfl X'
    exact ⟨t2, st.trans a1, b1⟩
theorem vx_calld {S SX : Type} {post : UInt64 → S → Prop} {px : SX → Prop} {B : S → State → Prop} {BX : String → SX → State → Prop} {AX : Nat → Prop} (hr : vx_Run p l e R s m args below meth c H locs cells slots mc ms (F0 m pc ls st0) rest (va_Qd post B A1 a) (vx_X px BX AX) free) (hS : va_S A0 H0 H locs) (hA : ∀ q, q < H.size → A1 q → A0 q) (hf : ∀ q, free q → A0 q) (hAX : ∀ q, q < H.size → AX q → A0 q)
    (kx : ∀ (E : String) (ce : Cell) (q9 : Addr) (u : SX) (t : State) (H1 : Heap) (locs1 : List Loc), t.heap = H1 → s.vm.Alike t.vm → px u → BX E u t → H.size ≤ H1.size → (∀ q : Nat, q < H.size → ¬ AX q → H1[q]? = H[q]?) → va_S A0 H0 H1 locs1 → H1[q9]? = some ce → ce.vm = .none → s.vm.findClass E = some ce.cls → vx_W p l e R s m args below meth c H1 locs1 (cells + mc) (slots + ms) Q (F0 m pc ls rest) q9)
    (kk : ∀ (r : UInt64) (u : S) (t : State) (H1 : Heap) (locs1 : List Loc), t.heap = H1 → s.vm.Alike t.vm → post r u → B u t → H.size ≤ H1.size → (∀ q : Nat, q < H.size → ¬ A1 q → H1[q]? = H[q]?) → va_S A0 H0 H1 locs1 → W p l e R s m args below meth c H1 locs1 (cells + mc) (slots + ms) Q (F0 m (pc + 3) ls (.double r :: rest))) : W p l e R s m args below meth c H locs cells slots Q (F0 m pc ls st0) := by
  intro T hT X
  rcases hr T hT X with ⟨v, st₀, t, T', L, h0, X', hL, e1, e2, ⟨⟨r, u, hv, hp, hb⟩, hF⟩, st⟩ | ⟨q, st₀, t, T', L, E, ce, h0, X', hL, e1, e2, ⟨u, hp, hb, hF⟩, hce, hcv, hcl, st⟩
  · cases hv
    obtain ⟨k1, k2, k3⟩ := vx_keep h0 e1 hS hA hf hL hF
    obtain ⟨t2, a1, b1⟩ := kk r u t T'.heap (locs ++ L) e1.symm (by rw [← e2]; exact X'.warmed.alike) hp hb k1 k2 k3 T' rfl X'
    exact ⟨t2, st t2 a1, b1⟩
  · obtain ⟨k1, k2, k3⟩ := vx_keep h0 e1 hS hAX hf hL hF
    obtain ⟨t2, a1, b1⟩ := kx E ce q u t T'.heap (locs ++ L) e1.symm (by rw [← e2]; exact X'.warmed.alike) hp hb k1 k2 k3 (by rw [e1]; exact hce) hcv hcl T' rfl X'
    exact ⟨t2, st.trans a1, b1⟩
theorem vx_callv {S SX : Type} {post : S → Prop} {px : SX → Prop} {B : S → State → Prop} {BX : String → SX → State → Prop} {AX : Nat → Prop} (hr : vx_Run p l e R s m args below meth c H locs cells slots mc ms (F0 m pc ls st0) rest (va_Qv post B A1 a) (vx_X px BX AX) free) (hS : va_S A0 H0 H locs) (hA : ∀ q, q < H.size → A1 q → A0 q) (hf : ∀ q, free q → A0 q) (hAX : ∀ q, q < H.size → AX q → A0 q)
    (kx : ∀ (E : String) (ce : Cell) (q9 : Addr) (u : SX) (t : State) (H1 : Heap) (locs1 : List Loc), t.heap = H1 → s.vm.Alike t.vm → px u → BX E u t → H.size ≤ H1.size → (∀ q : Nat, q < H.size → ¬ AX q → H1[q]? = H[q]?) → va_S A0 H0 H1 locs1 → H1[q9]? = some ce → ce.vm = .none → s.vm.findClass E = some ce.cls → vx_W p l e R s m args below meth c H1 locs1 (cells + mc) (slots + ms) Q (F0 m pc ls rest) q9)
    (kk : ∀ (u : S) (t : State) (H1 : Heap) (locs1 : List Loc), t.heap = H1 → s.vm.Alike t.vm → post u → B u t → H.size ≤ H1.size → (∀ q : Nat, q < H.size → ¬ A1 q → H1[q]? = H[q]?) → va_S A0 H0 H1 locs1 → W p l e R s m args below meth c H1 locs1 (cells + mc) (slots + ms) Q (F0 m (pc + 3) ls (rest))) : W p l e R s m args below meth c H locs cells slots Q (F0 m pc ls st0) := by
  intro T hT X
  rcases hr T hT X with ⟨v, st₀, t, T', L, h0, X', hL, e1, e2, ⟨⟨u, hv, hp, hb⟩, hF⟩, st⟩ | ⟨q, st₀, t, T', L, E, ce, h0, X', hL, e1, e2, ⟨u, hp, hb, hF⟩, hce, hcv, hcl, st⟩
  · cases hv
    obtain ⟨k1, k2, k3⟩ := vx_keep h0 e1 hS hA hf hL hF
    obtain ⟨t2, a1, b1⟩ := kk u t T'.heap (locs ++ L) e1.symm (by rw [← e2]; exact X'.warmed.alike) hp hb k1 k2 k3 T' rfl X'
    exact ⟨t2, st t2 a1, b1⟩
  · obtain ⟨k1, k2, k3⟩ := vx_keep h0 e1 hS hAX hf hL hF
    obtain ⟨t2, a1, b1⟩ := kx E ce q u t T'.heap (locs ++ L) e1.symm (by rw [← e2]; exact X'.warmed.alike) hp hb k1 k2 k3 (by rw [e1]; exact hce) hcv hcl T' rfl X'
    exact ⟨t2, st.trans a1, b1⟩
/-- caught by the row x of this method's table; the rows ahead don't take it -/
theorem vx_catch {own name : String} {E : String} {ce : Cell} {q : Addr} (hown : s.vm.findClass own = some m.cls) (pre : List ExceptionTableEntry) (x : ExceptionTableEntry) (suf : List ExceptionTableEntry) (hsplit : c.exceptionTable.toList = pre ++ x :: suf)
    (hpass : ∀ z ∈ pre, covers z pc = false ∨ (z.catchType ≠ 0 ∧ ∃ nm : String, (Cond.classLink own z.catchType nm).before args s = true ∧ va_Nc E nm s)) (hx : covers x pc = true) (h0 : x.catchType ≠ 0)
    (hlink : (Cond.classLink own x.catchType name).before args s = true) (hcast : (Cond.castable E name).before args s = true) (hcell : H[q]? = some ce) (hv : ce.vm = .none) (hcl : s.vm.findClass E = some ce.cls)
    (kk : W p l e R s m args below meth c H locs cells slots Q (F0 m x.handlerPc ls [.ref q])) : vx_W p l e R s m args below meth c H locs cells slots Q (F0 m pc ls rest) q := by
  intro T hT X
  have hpl : e.platform.magicAccessors = ({} : Platform).magicAccessors := by rw [X.admits.platform]
  obtain ⟨c3, c4, hc3, hc4, hasg⟩ := Cond.castable_spec hcast
  cases Option.some.inj (hc3.symm.trans hcl)
  obtain ⟨c5, hc5, hcl5⟩ := Cond.classLink_spec hown hlink e.platform hpl
  cases Option.some.inj (hc4.symm.trans hc5)
  obtain ⟨vm', X', st⟩ := X.thenCaughtThrough q (g := F0 m pc ls rest) rfl (Steps.refl _) (by rw [hT]; exact hcell) (by rw [hv]; rfl) (by obtain ⟨k9, h9, -⟩ := Vm.findClass_spec hcl; exact ⟨k9, h9⟩) pre x suf hsplit
    (fun z hz => by
      rcases hpass z hz with h | ⟨hz0, nm, hl1, hn1⟩
      · exact Or.inl h
      · obtain ⟨c6, hc6, hcl6⟩ := Cond.classLink_spec hown hl1 e.platform hpl
        obtain ⟨a8, b8, h1, h2, h3⟩ := hn1
        cases Option.some.inj (h1.symm.trans hcl)
        cases Option.some.inj (h2.symm.trans hc6)
        exact Or.inr ⟨hz0, _, hcl6, h3⟩) hx (Or.inr ⟨h0, c4, hcl5, hasg⟩)
  obtain ⟨t, a1, b1⟩ := kk (T.setVm vm') hT X'
  exact ⟨t, st.trans a1, b1⟩
end Rows
section Ends
variable {p : Program} {l : Launch} {e : Env} {R : Room} {s : State} {m : MethodId} {args : Array Value} {below : List Frame} {meth : Method} {c : Code} {H : Heap} {locs : List Loc} {cells slots : Nat} {Q : State → Prop}
variable {mc ms : Nat} {free : Addr → Prop} {A0 A1 : Nat → Prop} {H0 : Heap} {a : Array Value} {ls : Array Slot} {st0 rest : List Value}
variable {Qc : Array Value → State → Outcome → State → Prop} {XC : String → State → State → Prop}
/-- what a body that may throw owes at its end -/
def vx_MQ (below : List Frame) (Qc : Array Value → State → Outcome → State → Prop) (XC : String → State → State → Prop) (a : Array Value) (s : State) (mc ms : Nat) (free : Addr → Prop) : State → Prop := fun t =>
  ∃ o, t.status = .running ∧ Ended t below o ∧ vx_Q Qc XC mc ms free a s o t
theorem vx_ret {g : JFrame} {mc ms : Nat} (k : W p l e R s m args below meth c H locs cells slots (MQ below Qc args s mc ms free) g) : W p l e R s m args below meth c H locs cells slots (vx_MQ below Qc XC args s mc ms free) g := by
  intro T hT X
  obtain ⟨t, a1, o, b1, b2, b3, b4⟩ := k T hT X
  exact ⟨t, a1, o, b1, b2, Or.inl ⟨b3, b4⟩⟩
/-- not caught here: it goes on to the caller -/
theorem vx_widen {g : JFrame} {q : Addr} {k n : Nat} (h1 : cells ≤ k) (h2 : slots ≤ n) (kk : vx_W p l e R s m args below meth c H locs k n Q g q) : vx_W p l e R s m args below meth c H locs cells slots Q g q := fun T hT X => kk T hT (stand_widen X h1 h2)
theorem vx_out {pc : Nat} {E : String} {ce : Cell} {q : Addr} {mc ms : Nat} (hout : ∀ x ∈ c.exceptionTable.toList, covers x pc = false) (hlocks : meth.locks = false) (hcell : H[q]? = some ce) (hv : ce.vm = .none) (hcl : s.vm.findClass E = some ce.cls)
    (hx : ∀ t : State, t.heap = H → s.vm.Alike t.vm → XC E s t) (hf : ∀ z ∈ locs, free z.base) (hc : cells ≤ mc) (hs : slots ≤ ms) :
    vx_W p l e R s m args below meth c H locs cells slots (vx_MQ below Qc XC args s mc ms free) (F0 m pc ls rest) q := by
  intro T hT X
  obtain ⟨st1, hrun, hend, hW, hsm⟩ := X.leaveThrown q (g := F0 m pc ls rest) rfl rfl rfl hout hlocks
  have hcell9 : (T.setFrames (.throwing q :: below)).heap[q]? = some ce := by
    show T.heap[q]? = some ce
    rw [hT]; exact hcell
  exact ⟨_, st1, .threw q, hrun, hend, Or.inr ⟨q, rfl, E, ce, locs, hx _ hT hW.alike, hcell9, hv, hcl, hW, hsm.mono hc hs, hf⟩⟩
theorem vx_frame {U : State} {k n : Nat} (h : s.sameButNew ({ U with vm := s.vm } : State) locs k n) : s.heap.size ≤ U.heap.size ∧ ∀ q : Nat, q < s.heap.size → (∀ z ∈ locs, z.base ≠ q) → U.heap[q]? = s.heap[q]? := by
  obtain ⟨-, h2, -, -, -, h6⟩ := h
  refine ⟨h2, fun q hq hz => ?_⟩
  obtain ⟨c9, e1, e2, e3, e4⟩ := h6 q _ (Array.getElem?_eq_getElem hq)
  have hs : c9.slots = (s.heap[q]).slots := Array.ext_getElem? fun i => e4 i fun hm => hz _ hm rfl
  have h9 : c9 = s.heap[q] := by
    rw [hs] at e2
    exact e2
  have e5 : U.heap[q]? = some c9 := e1
  rw [e5, h9, Array.getElem?_eq_getElem hq]
/-- the words of a throw but the four that speak of the heap -/
def vx_no (w : Cond) : Bool := decide (w ≠ .isRef (.static Bundle.tN "UNASSIGNED_STACK" Bundle.steD)) && decide (w ≠ .isRef (.static Bundle.tN "SUPPRESSED_SENTINEL" Bundle.listD)) && decide (w ≠ .laysStatic Bundle.tN "UNASSIGNED_STACK" Bundle.steD) && decide (w ≠ .laysStatic Bundle.tN "SUPPRESSED_SENTINEL" Bundle.listD)
def vx_at0 (own : String) (ic : Nat) (X : String) (names : List String) : List Cond := (Bundle.ownAtoms0 own ic X names).filter vx_no
def vx_atS (own : String) (ic : Nat) (X : String) (names : List String) : List Cond := (Bundle.ownAtoms own ic X names).filter vx_no
/-- a word that the tables alone decide, or a good one -/
def vx_ot (w : Cond) : Bool := w.onTables || goodWord w
theorem vx_ot_at {args a' : Array Value} {s U : State} {w : Cond} (hW : s.WarmedH U.vm) (hvm : s.vm = U.vm) (hg : vx_ot w = true) (h : w.before args s = true) : w.before a' U = true := by
  simp only [vx_ot, Bool.or_eq_true] at hg
  rcases hg with hg | hg
  · exact va_tabs hg hvm h
  · exact word_at hW (good_of_word hg) h
/-- a list's words: the good ones out of the method's own list, the others by premises of their own -/
theorem vx_hat {args : Array Value} {s : State} {L B : List Cond} (h1 : ∀ w ∈ L.filter goodWord, w.before args s = true) (h2 : ∀ w ∈ L.filter (fun w => !goodWord w), w ∈ B) (h3 : ∀ w ∈ B, w.before args s = true) : ∀ w ∈ L, w.before args s = true := by
  intro w hw
  by_cases g : goodWord w = true
  · exact h1 w (List.mem_filter.mpr ⟨hw, g⟩)
  · refine h3 w (h2 w (List.mem_filter.mpr ⟨hw, ?_⟩))
    show (!goodWord w) = true
    cases hgw : goodWord w
    · rfl
    · exact absurd hgw g
theorem vx_c {args : Array Value} {s : State} {w : Cond} {B : List Cond} (h : w.before args s = true) (t : ∀ w ∈ B, w.before args s = true) : ∀ w' ∈ w :: B, w'.before args s = true := fun w' h' => (List.mem_cons.mp h').elim (fun e => by rw [e]; exact h) (t w')
theorem vx_n {args : Array Value} {s : State} : ∀ w ∈ ([] : List Cond), w.before args s = true := fun _ h => nomatch h
theorem vx_own {args : Array Value} {s : State} {L : List Cond} (h1 : ∀ w ∈ L.filter vx_no, w.before args s = true)
    (hU : (Cond.isRef (.static Bundle.tN "UNASSIGNED_STACK" Bundle.steD)).before args s = true) (hN : (Cond.isRef (.static Bundle.tN "SUPPRESSED_SENTINEL" Bundle.listD)).before args s = true)
    (lU : (Cond.laysStatic Bundle.tN "UNASSIGNED_STACK" Bundle.steD).before args s = true) (lN : (Cond.laysStatic Bundle.tN "SUPPRESSED_SENTINEL" Bundle.listD).before args s = true) : ∀ w ∈ L, w.before args s = true := by
  intro w hw
  by_cases e1 : w = .isRef (.static Bundle.tN "UNASSIGNED_STACK" Bundle.steD)
  · rw [e1]; exact hU
  · by_cases e2 : w = .isRef (.static Bundle.tN "SUPPRESSED_SENTINEL" Bundle.listD)
    · rw [e2]; exact hN
    · by_cases e3 : w = .laysStatic Bundle.tN "UNASSIGNED_STACK" Bundle.steD
      · rw [e3]; exact lU
      · by_cases e4 : w = .laysStatic Bundle.tN "SUPPRESSED_SENTINEL" Bundle.listD
        · rw [e4]; exact lN
        · exact h1 w (List.mem_filter.mpr ⟨hw, by unfold vx_no; rw [decide_eq_true e1, decide_eq_true e2, decide_eq_true e3, decide_eq_true e4]; rfl⟩)
/-- where a static field lies, its class's statics cell in H -/
def vx_L (C n d : String) (A : Nat → Prop) (U : State) (H : Heap) : Prop := ∃ (c : ClassId) (k : Class) (i : Nat) (f : Field) (a : Nat) (cell : Cell), U.vm.findClass C = some c ∧ U.fieldFound? C n d = some (c, k, i, f) ∧ f.isStatic = true ∧ k.statics = some a ∧ H[a]? = some cell ∧ cell.vm.isStatics = true ∧ cell.cls = c ∧ f.slot < cell.slots.size ∧ k.staticTypes[f.slot]? = some f.type ∧ ¬ A a
theorem vx_L.moved {C n d : String} {A : Nat → Prop} {u U : State} {H : Heap} (hvm : u.vm.Alike U.vm) (h : vx_L C n d A u H) : vx_L C n d A U H := by
  obtain ⟨c, k, i, f, a, cell, h1, h2, h3, h4, h5, h6, h7, h8, h9, h10⟩ := h
  obtain ⟨k', hi', he⟩ := State.fieldFound?_setVm hvm h2
  exact ⟨c, k', i, f, a, cell, by rw [hvm.findClass]; exact h1, hi', h3, by rw [he]; exact h4, h5, h6, h7, h8, by rw [he]; exact h9, h10⟩
theorem vx_L.kept {C n d : String} {A : Nat → Prop} {U : State} {H H1 : Heap} (h : vx_L C n d A U H) (hq : ∀ a : Nat, a < H.size → ¬ A a → H1[a]? = H[a]?) : vx_L C n d A U H1 := by
  obtain ⟨c, k, i, f, a, cell, h1, h2, h3, h4, h5, h6, h7, h8, h9, h10⟩ := h
  exact ⟨c, k, i, f, a, cell, h1, h2, h3, h4, by rw [hq a (Array.getElem?_eq_some_iff.mp h5).1 h10]; exact h5, h6, h7, h8, h9, h10⟩
theorem vx_L.narrow {C n d : String} {A B : Nat → Prop} {U : State} {H : Heap} (h : vx_L C n d A U H) (hAB : ∀ q, B q → A q) : vx_L C n d B U H := by
  obtain ⟨c, k, i, f, a, cell, h1, h2, h3, h4, h5, h6, h7, h8, h9, h10⟩ := h
  exact ⟨c, k, i, f, a, cell, h1, h2, h3, h4, h5, h6, h7, h8, h9, fun z => h10 (hAB _ z)⟩
theorem vx_L.word {C n d : String} {A : Nat → Prop} {s : State} {args : Array Value} (h : vx_L C n d A s s.heap) : (Cond.laysStatic C n d).before args s = true := by
  obtain ⟨c, k, i, f, a, cell, h1, h2, h3, h4, h5, h6, h7, h8, h9, -⟩ := h
  show (Cond.laysStatic C n d).holds args s none s [] = true
  exact Cond.laysStatic_of h1 h2 h3 h4 h5 h6 h7 h8 h9
/-- .. and what it holds: null or some reference -/
def vx_Zq (C n d : String) (A : Nat → Prop) (U : State) (H : Heap) : Prop := va_Zq C n d A U H ∧ vx_L C n d A U H
theorem vx_Zq.moved {C n d : String} {A : Nat → Prop} {u U : State} {H : Heap} (hvm : u.vm.Alike U.vm) (h : vx_Zq C n d A u H) : vx_Zq C n d A U H := ⟨va_Zq.moved hvm h.1, vx_L.moved hvm h.2⟩
theorem vx_Zq.kept {C n d : String} {A : Nat → Prop} {U : State} {H H1 : Heap} (h : vx_Zq C n d A U H) (hq : ∀ a : Nat, a < H.size → ¬ A a → H1[a]? = H[a]?) : vx_Zq C n d A U H1 := ⟨va_Zq.kept h.1 hq, vx_L.kept h.2 hq⟩
theorem vx_Zq.narrow {C n d : String} {A B : Nat → Prop} {U : State} {H : Heap} (h : vx_Zq C n d A U H) (hAB : ∀ q, B q → A q) : vx_Zq C n d B U H := ⟨va_Zq.narrow h.1 hAB, vx_L.narrow h.2 hAB⟩
theorem vx_Zqof {args : Array Value} {s : State} {C n d : String} {A : Nat → Prop} (hl : (Cond.laysStatic C n d).before args s = true) (hini : (Cond.initialized C).before args s = true) (h : (Cond.isRef (.static C n d)).before args s = true) (hA : ∀ a : Nat, a < s.heap.size → ¬ A a) : vx_Zq C n d A s s.heap := by
  refine ⟨va_Zqof hl hini h hA, ?_⟩
  obtain ⟨c, k, i, f, a, cell, h1, h2, h3, h4, h5, h6, h7, h8, h9⟩ := Cond.laysStatic_spec hl
  exact ⟨c, k, i, f, a, cell, h1, h2, h3, h4, h5, h6, h7, h8, h9, hA a (Array.getElem?_eq_some_iff.mp h5).1⟩
theorem vx_isRef {C n d : String} {v : Value} {A : Nat → Prop} {s : State} {args : Array Value} (h : va_Z C n d v A s s.heap) (hv : v.isRef = true) : (Cond.isRef (.static C n d)).before args s = true := by
  obtain ⟨cf, kf, fi, f, a, cell, h1, h2, h3, h4, h5, h6, h7, -⟩ := h
  have he : (Term.static C n d).eval args s none [] s = some v := by
    simp [Term.eval, State.fieldNamed?, h1, h2, h4, h5, h6, h7]
  simp only [Cond.before, Cond.holds, Cond.value, he]
  cases v <;> simp_all [Value.isRef]
theorem vx_isRefq {C n d : String} {A : Nat → Prop} {s : State} {args : Array Value} (h : va_Zq C n d A s s.heap) : (Cond.isRef (.static C n d)).before args s = true := by
  rcases h with h | ⟨t, h⟩
  · exact vx_isRef h rfl
  · exact vx_isRef h rfl
/-- the same frame, seen from here: as if the method were called anew in this heap -/
theorem vx_rebase {T : State} (X : Stand p l e R s m args below meth c T locs cells slots) {R' : Room} (hf : R'.frames ≤ R.frames) (hl : R'.locals ≤ R.locals) (hc : cells + R'.cells ≤ R.cells) (hs : slots + R'.slots ≤ R.slots) :
    Stand p l e R' ((T.setVm s.vm).setFrames (.invoking m args :: below)) m args below meth c T [] 0 0 := by
  have htop : (T.setVm s.vm).topJava?.isSome := X.here.top
  have hF : ((T.setVm s.vm).setFrames (.invoking m args :: below)).frames = .invoking m args :: below := State.frames_setFrames _ (State.cur_lt_of_top htop)
  obtain ⟨g₀, hg0⟩ := Option.isSome_iff_exists.mp htop
  obtain ⟨r, hr⟩ := State.topJava?_eq_some.mp hg0
  have hl9 : e.platform.stackLimits (T.setVm s.vm).me = e.platform.stackLimits s.me := X.limits
  have hb9 : (T.setVm s.vm).me.stackBytes = s.me.stackBytes := X.bytes
  refine ⟨X.admits, X.cas, X.clock, hF, ?_, X.hears, X.method, X.code, X.here, X.tail, X.warmed, ?_, ?_, ?_⟩
  · have h := X.room
    have hU : ((T.setVm s.vm).setFrames (.invoking m args :: below)).localsInUse = s.localsInUse := by
      rw [State.localsInUse_invoking hF (meth := meth) (c := c) X.method X.code, State.localsInUse_invoking X.frames X.method X.code]
    simp only [State.hasRoom, Bool.and_eq_true, decide_eq_true_eq] at h ⊢
    obtain ⟨⟨⟨⟨h1, h2, h3, h4, h5, h6⟩, h7⟩, h8⟩, h9⟩ := h
    rw [X.frames, List.length_cons] at h2 h3
    have q1 := X.heapSize
    have q2 := X.used
    simp only [hF, hU, List.length_cons, State.stackLimits_setFrames, State.stackBytes_setFrames, hl9, hb9]
    refine ⟨⟨⟨⟨by omega, by omega, by omega, by omega, by omega, h6⟩, ?_⟩, ?_⟩, X.book⟩
    · show T.heap.size + R'.cells ≤ e.platform.maxCells
      omega
    · show T.slotsUsed + R'.slots ≤ e.platform.maxSlots
      omega
  · rw [State.stackLimits_setFrames]; rfl
  · rw [State.stackBytes_setFrames]; rfl
  · refine ⟨?_, Nat.le_refl _, Nat.le_refl _, ?_, ?_, fun a c9 h9 => ⟨c9, h9, rfl, rfl, fun _ _ => rfl⟩⟩
    · obtain ⟨t, ht, -⟩ := State.frames_cons hr
      show T.setVm s.vm = { ((T.setVm s.vm).setFrames (.invoking m args :: below)).setFrames (T.setVm s.vm).frames with heap := T.heap, slotsUsed := T.slotsUsed }
      rw [State.setFrames_setFrames, State.setFrames_self ht]
      rfl
    · show T.slotsUsed = T.slotsUsed + ((T.heap.toList.drop T.heap.size).map (·.slots.size)).sum
      rw [List.drop_eq_nil_of_le (Nat.le_of_eq Array.length_toList)]
      rfl
    · show ((T.heap.toList.drop T.heap.size).map (·.slots.size)).sum ≤ 0
      rw [List.drop_eq_nil_of_le (Nat.le_of_eq Array.length_toList)]
      exact Nat.le_refl _
/-- 'throw new E()': new; dup; invokespecial; athrow -/
theorem vx_throw0 {cc : ByteArray} {pc : Nat} (hexec : p.tables.exec = Jvm.exec) (hb : c.code = cc) (hl : l.stackTraces = false) {own cls : String} {names : List String} {ik ic mc ms : Nat} {A : Nat → Prop}
    (hown : s.vm.findClass own = some m.cls) (hcls : Bundle.fit cls = true) (hnames : ∀ n ∈ names, Bundle.fit n = true)
    (hk : (Cond.classLink own ik cls).before args s = true) (hini : (Cond.initialized cls).before args s = true) (hat : ∀ w ∈ vx_at0 own ic cls names, w.before args s = true)
    (hgood : ∀ w ∈ Cond.classLink own ik cls :: Cond.initialized cls :: vx_at0 own ic cls names, vx_ot w = true)
    (hU : vx_Zq Bundle.tN "UNASSIGNED_STACK" Bundle.steD A s s.heap) (hN : vx_Zq Bundle.tN "SUPPRESSED_SENTINEL" Bundle.listD A s s.heap) (hS : va_S A s.heap H locs) (hsize : ls.size = c.maxLocals)
    (d0 : decode cc pc = .ok (.new ik, 3)) (d3 : decode cc (pc + 3) = .ok (.dup, 1)) (d4 : decode cc (pc + 4) = .ok (.invokespecial ic, 3)) (d7 : decode cc (pc + 7) = .ok (.athrow, 1))
    (hout : ∀ x ∈ c.exceptionTable.toList, covers x (pc + 7) = false)
    (hRframes : names.length + 3 < R.frames) (hRlocals : (rest.map fun v => v.category).sum + (13 * (names.length + 1) + 42) ≤ R.locals) (hRcells : cells + 1 ≤ R.cells) (hRslots : slots + 6 ≤ R.slots) (hlocks : meth.locks = false)
    (hx : ∀ t : State, s.vm.Alike t.vm → H.size ≤ t.heap.size → (∀ q : Nat, q < H.size → t.heap[q]? = H[q]?) → XC cls s t)
    (hf : ∀ z ∈ locs, free z.base) (hc : cells + 1 ≤ mc) (hs : slots + 6 ≤ ms) :
    W p l e R s m args below meth c H locs cells slots (vx_MQ below Qc XC args s mc ms free) (F0 m pc ls rest) := by
  intro T hT X
  have htr : e.platform.stackTraces = false := (show e.platform.stackTraces = l.stackTraces by rw [X.admits.platform]).trans hl
  have Y := vx_rebase X (R' := { frames := R.frames, locals := R.locals, cells := 1, slots := 6 }) (Nat.le_refl _) (Nat.le_refl _) hRcells hRslots
  obtain ⟨s', hA⟩ : ∃ z, z = (T.setVm s.vm).setFrames (.invoking m args :: below) := ⟨_, rfl⟩
  rw [← hA] at Y
  have hvm : s'.vm = s.vm := by rw [hA]; rfl
  have hhp : s'.heap = H := by rw [hA]; exact hT
  have hW0 : s.WarmedH s'.vm := by rw [hvm]; exact State.WarmedH.refl s
  have hat' : ∀ w ∈ vx_at0 own ic cls names, w.before args s' = true := fun w hw => vx_ot_at hW0 hvm.symm (hgood w (List.mem_cons_of_mem _ (List.mem_cons_of_mem _ hw))) (hat w hw)
  have hk' : (Cond.classLink own ik cls).before args s' = true := vx_ot_at hW0 hvm.symm (hgood _ List.mem_cons_self) hk
  have hini' : (Cond.initialized cls).before args s' = true := vx_ot_at hW0 hvm.symm (hgood _ (List.mem_cons_of_mem _ List.mem_cons_self)) hini
  have hU' : vx_Zq Bundle.tN "UNASSIGNED_STACK" Bundle.steD A s' s'.heap := by rw [hhp]; exact vx_Zq.moved hW0.alike (hU.kept hS.2.1)
  have hN' : vx_Zq Bundle.tN "SUPPRESSED_SENTINEL" Bundle.listD A s' s'.heap := by rw [hhp]; exact vx_Zq.moved hW0.alike (hN.kept hS.2.1)
  have h : ∀ w ∈ Bundle.ownAtoms0 own ic cls names, w.before args s' = true := vx_own hat' (vx_isRefq hU'.1) (vx_isRefq hN'.1) hU'.2.word hN'.2.word
  have hown' : s'.vm.findClass own = some m.cls := by rw [hvm]; exact hown
  have hins : (Cond.instantiable cls 6).before args s' = true := h _ (by simp [Bundle.ownAtoms0])
  obtain ⟨vm₁, cX, kX, hfX, hkX, -, -, X₁, st1⟩ := Y.newCold hexec (own := own) (C := cls) (index := ik) (n := 6) hown' hk' hins hini'
    (g := F0 m pc ls rest) rfl (by rw [hb]; exact d0) (Nat.le_refl _) (Nat.le_refl _)
  generalize hT1 : (T.setVm vm₁).pushCell { cls := cX, slots := kX.instanceTypes.map defaultValue, vm := .none } = T1 at X₁ st1
  have hcat : (Value.ref T.heap.size).category = 1 := rfl
  have hcellA : T1.heap[T.heap.size]? = some (freshCell cX kX) := by rw [← hT1]; exact State.heap_pushCell_size _ _
  have d3' : decode c.code (pc + 3) = .ok (.dup, 1) := by rw [hb]; exact d3
  obtain ⟨U, hsteps, hrun, hend, hW, hsame, ce, hce, hO⟩ := X₁.ctorThrow0 hexec htr (own := own) (cls := cls) (names := names) (ic := ic) hown' hcls hnames h (fun x hx => nomatch hx) hfX hkX hcellA (by rw [hhp, hT]; exact Nat.le_refl _)
    (g := { method := m, pc := pc + 4, locals := ls, stack := .ref T.heap.size :: .ref T.heap.size :: rest, locked := none }) rfl hsize rfl rfl (rest := rest) rfl
    (by rw [hb]; exact d4) (by rw [hb]; exact d7) hout hRframes (by simp only [List.map_cons, List.sum_cons, hcat]; omega) hlocks
  obtain ⟨f1, f2⟩ := vx_frame hsame
  rw [hhp] at f1 f2
  have hWs : s.WarmedH U.vm := State.WarmedH.trans hW0 hW
  have hcl : s.vm.findClass cls = some ce.cls := by
    have h9 := hO.cls
    rw [hvm] at h9
    exact h9
  have hall : s.sameButNew ({ U with vm := s.vm } : State) locs mc ms := by
    subst hA
    obtain ⟨e1, e2⟩ := hsame
    rw [State.setFrames_setFrames] at e1
    have h2 : (T.setVm s.vm).sameButNew ({ U with vm := s.vm } : State) [] (0 + 1) (0 + 6) := ⟨e1, e2⟩
    have h3 := X.same.trans h2
    rw [List.append_nil] at h3
    exact h3.mono hc hs
  refine ⟨U, ?_, .threw T.heap.size, hrun, hend, Or.inr ⟨T.heap.size, rfl, cls, ce, locs, hx U hWs.alike f1 (fun q hq => f2 q hq (fun z hz => nomatch hz)), hce, hO.vm, hcl, hWs, hall, hf⟩⟩
  refine st1 _ ?_
  show Steps p.tables e below (T1.setTop { method := m, pc := pc + 3, locals := ls, stack := .ref T.heap.size :: rest, locked := none }) _
  jvm_step X₁.here [X₁.here.top, hexec, d3', Value.category]
  exact hsteps
/-- 'throw new E("text")': new; dup; ldc; invokespecial; athrow -/
theorem vx_throwS {cc : ByteArray} {pc : Nat} (hexec : p.tables.exec = Jvm.exec) (hb : c.code = cc) (hl : l.stackTraces = false) {own cls text : String} {names : List String} {ik is ic mc ms sa : Nat} {A : Nat → Prop}
    (hown : s.vm.findClass own = some m.cls) (hcls : Bundle.fit cls = true) (hnames : ∀ n ∈ names, Bundle.fit n = true)
    (hk : (Cond.classLink own ik cls).before args s = true) (hini : (Cond.initialized cls).before args s = true) (hstr : vk_R own is text sa s) (hat : ∀ w ∈ vx_atS own ic cls names, w.before args s = true)
    (hgood : ∀ w ∈ Cond.classLink own ik cls :: Cond.initialized cls :: vx_atS own ic cls names, vx_ot w = true)
    (hU : vx_Zq Bundle.tN "UNASSIGNED_STACK" Bundle.steD A s s.heap) (hN : vx_Zq Bundle.tN "SUPPRESSED_SENTINEL" Bundle.listD A s s.heap) (hS : va_S A s.heap H locs) (hsize : ls.size = c.maxLocals)
    (d0 : decode cc pc = .ok (.new ik, 3)) (d3 : decode cc (pc + 3) = .ok (.dup, 1)) (d4 : decode cc (pc + 4) = .ok (.ldc is, 2)) (d6 : decode cc (pc + 6) = .ok (.invokespecial ic, 3)) (d9 : decode cc (pc + 9) = .ok (.athrow, 1))
    (hout : ∀ x ∈ c.exceptionTable.toList, covers x (pc + 9) = false)
    (hRframes : names.length + 3 < R.frames) (hRlocals : (rest.map fun v => v.category).sum + (13 * (names.length + 1) + 43) ≤ R.locals) (hRcells : cells + 1 ≤ R.cells) (hRslots : slots + 6 ≤ R.slots) (hlocks : meth.locks = false)
    (hx : ∀ t : State, s.vm.Alike t.vm → H.size ≤ t.heap.size → (∀ q : Nat, q < H.size → t.heap[q]? = H[q]?) → XC cls s t)
    (hf : ∀ z ∈ locs, free z.base) (hc : cells + 1 ≤ mc) (hs : slots + 6 ≤ ms) :
    W p l e R s m args below meth c H locs cells slots (vx_MQ below Qc XC args s mc ms free) (F0 m pc ls rest) := by
  intro T hT X
  have htr : e.platform.stackTraces = false := (show e.platform.stackTraces = l.stackTraces by rw [X.admits.platform]).trans hl
  have Y := vx_rebase X (R' := { frames := R.frames, locals := R.locals, cells := 1, slots := 6 }) (Nat.le_refl _) (Nat.le_refl _) hRcells hRslots
  obtain ⟨s', hA⟩ : ∃ z, z = (T.setVm s.vm).setFrames (.invoking m args :: below) := ⟨_, rfl⟩
  rw [← hA] at Y
  have hvm : s'.vm = s.vm := by rw [hA]; rfl
  have hhp : s'.heap = H := by rw [hA]; exact hT
  have hW0 : s.WarmedH s'.vm := by rw [hvm]; exact State.WarmedH.refl s
  have hat' : ∀ w ∈ vx_atS own ic cls names, w.before args s' = true := fun w hw => vx_ot_at hW0 hvm.symm (hgood w (List.mem_cons_of_mem _ (List.mem_cons_of_mem _ hw))) (hat w hw)
  have hk' : (Cond.classLink own ik cls).before args s' = true := vx_ot_at hW0 hvm.symm (hgood _ List.mem_cons_self) hk
  have hini' : (Cond.initialized cls).before args s' = true := vx_ot_at hW0 hvm.symm (hgood _ (List.mem_cons_of_mem _ List.mem_cons_self)) hini
  have hU' : vx_Zq Bundle.tN "UNASSIGNED_STACK" Bundle.steD A s' s'.heap := by rw [hhp]; exact vx_Zq.moved hW0.alike (hU.kept hS.2.1)
  have hN' : vx_Zq Bundle.tN "SUPPRESSED_SENTINEL" Bundle.listD A s' s'.heap := by rw [hhp]; exact vx_Zq.moved hW0.alike (hN.kept hS.2.1)
  have h : ∀ w ∈ Bundle.ownAtoms own ic cls names, w.before args s' = true := vx_own hat' (vx_isRefq hU'.1) (vx_isRefq hN'.1) hU'.2.word hN'.2.word
  have hown' : s'.vm.findClass own = some m.cls := by rw [hvm]; exact hown
  have hins : (Cond.instantiable cls 6).before args s' = true := h _ (by simp [Bundle.ownAtoms])
  obtain ⟨vm₁, cX, kX, hfX, hkX, -, -, X₁, st1⟩ := Y.newCold hexec (own := own) (C := cls) (index := ik) (n := 6) hown' hk' hins hini'
    (g := F0 m pc ls rest) rfl (by rw [hb]; exact d0) (Nat.le_refl _) (Nat.le_refl _)
  generalize hT1 : (T.setVm vm₁).pushCell { cls := cX, slots := kX.instanceTypes.map defaultValue, vm := .none } = T1 at X₁ st1
  have hcat : (Value.ref T.heap.size).category = 1 := rfl
  have hcellA : T1.heap[T.heap.size]? = some (freshCell cX kX) := by rw [← hT1]; exact State.heap_pushCell_size _ _
  have d3' : decode c.code (pc + 3) = .ok (.dup, 1) := by rw [hb]; exact d3
  have d4' : decode c.code (pc + 4) = .ok (.ldc is, 2) := by rw [hb]; exact d4
  have hstr' : vk_R own is text sa s' := vk_R.warm hW0 hstr
  obtain ⟨U, hsteps, hrun, hend, hW, hsame, ce, hce, hO⟩ := X₁.ctorThrowS hexec htr (own := own) (cls := cls) (names := names) (ic := ic) hown' hcls hnames h (fun x hx => nomatch hx) hfX hkX hcellA (by rw [hhp, hT]; exact Nat.le_refl _) (msg := .ref sa) rfl
    (g := { method := m, pc := pc + 6, locals := ls, stack := .ref sa :: .ref T.heap.size :: .ref T.heap.size :: rest, locked := none }) rfl hsize rfl rfl (rest := rest) rfl
    (by rw [hb]; exact d6) (by rw [hb]; exact d9) hout hRframes (by simp only [List.map_cons, List.sum_cons, hcat]; omega) hlocks
  obtain ⟨f1, f2⟩ := vx_frame hsame
  rw [hhp] at f1 f2
  have hWs : s.WarmedH U.vm := State.WarmedH.trans hW0 hW
  have hcl : s.vm.findClass cls = some ce.cls := by
    have h9 := hO.cls
    rw [hvm] at h9
    exact h9
  have hall : s.sameButNew ({ U with vm := s.vm } : State) locs mc ms := by
    subst hA
    obtain ⟨e1, e2⟩ := hsame
    rw [State.setFrames_setFrames] at e1
    have h2 : (T.setVm s.vm).sameButNew ({ U with vm := s.vm } : State) [] (0 + 1) (0 + 6) := ⟨e1, e2⟩
    have h3 := X.same.trans h2
    rw [List.append_nil] at h3
    exact h3.mono hc hs
  refine ⟨U, ?_, .threw T.heap.size, hrun, hend, Or.inr ⟨T.heap.size, rfl, cls, ce, locs, hx U hWs.alike f1 (fun q hq => f2 q hq (fun z hz => nomatch hz)), hce, hO.vm, hcl, hWs, hall, hf⟩⟩
  refine st1 _ ?_
  show Steps p.tables e below (T1.setTop { method := m, pc := pc + 3, locals := ls, stack := .ref T.heap.size :: rest, locked := none }) _
  jvm_step X₁.here [X₁.here.top, hexec, d3', Value.category]
  exact X₁.ldcString hexec (own := own) (text := text) (index := is) (a := sa) hown' hstr'.1 hstr'.2
    (g := { method := m, pc := pc + 4, locals := ls, stack := .ref T.heap.size :: .ref T.heap.size :: rest, locked := none }) rfl d4' _ hsteps
/-- 'throw new E("text")', the text by a wide index -/
theorem vx_throwSW {cc : ByteArray} {pc : Nat} (hexec : p.tables.exec = Jvm.exec) (hb : c.code = cc) (hl : l.stackTraces = false) {own cls text : String} {names : List String} {ik is ic mc ms sa : Nat} {A : Nat → Prop}
    (hown : s.vm.findClass own = some m.cls) (hcls : Bundle.fit cls = true) (hnames : ∀ n ∈ names, Bundle.fit n = true)
    (hk : (Cond.classLink own ik cls).before args s = true) (hini : (Cond.initialized cls).before args s = true) (hstr : vk_R own is text sa s) (hat : ∀ w ∈ vx_atS own ic cls names, w.before args s = true)
    (hgood : ∀ w ∈ Cond.classLink own ik cls :: Cond.initialized cls :: vx_atS own ic cls names, vx_ot w = true)
    (hU : vx_Zq Bundle.tN "UNASSIGNED_STACK" Bundle.steD A s s.heap) (hN : vx_Zq Bundle.tN "SUPPRESSED_SENTINEL" Bundle.listD A s s.heap) (hS : va_S A s.heap H locs) (hsize : ls.size = c.maxLocals)
    (d0 : decode cc pc = .ok (.new ik, 3)) (d3 : decode cc (pc + 3) = .ok (.dup, 1)) (d4 : decode cc (pc + 4) = .ok (.ldc_w is, 3)) (d7 : decode cc (pc + 7) = .ok (.invokespecial ic, 3)) (d10 : decode cc (pc + 10) = .ok (.athrow, 1))
    (hout : ∀ x ∈ c.exceptionTable.toList, covers x (pc + 10) = false)
    (hRframes : names.length + 3 < R.frames) (hRlocals : (rest.map fun v => v.category).sum + (13 * (names.length + 1) + 43) ≤ R.locals) (hRcells : cells + 1 ≤ R.cells) (hRslots : slots + 6 ≤ R.slots) (hlocks : meth.locks = false)
    (hx : ∀ t : State, s.vm.Alike t.vm → H.size ≤ t.heap.size → (∀ q : Nat, q < H.size → t.heap[q]? = H[q]?) → XC cls s t)
    (hf : ∀ z ∈ locs, free z.base) (hc : cells + 1 ≤ mc) (hs : slots + 6 ≤ ms) :
    W p l e R s m args below meth c H locs cells slots (vx_MQ below Qc XC args s mc ms free) (F0 m pc ls rest) := by
  intro T hT X
  have htr : e.platform.stackTraces = false := (show e.platform.stackTraces = l.stackTraces by rw [X.admits.platform]).trans hl
  have Y := vx_rebase X (R' := { frames := R.frames, locals := R.locals, cells := 1, slots := 6 }) (Nat.le_refl _) (Nat.le_refl _) hRcells hRslots
  obtain ⟨s', hA⟩ : ∃ z, z = (T.setVm s.vm).setFrames (.invoking m args :: below) := ⟨_, rfl⟩
  rw [← hA] at Y
  have hvm : s'.vm = s.vm := by rw [hA]; rfl
  have hhp : s'.heap = H := by rw [hA]; exact hT
  have hW0 : s.WarmedH s'.vm := by rw [hvm]; exact State.WarmedH.refl s
  have hat' : ∀ w ∈ vx_atS own ic cls names, w.before args s' = true := fun w hw => vx_ot_at hW0 hvm.symm (hgood w (List.mem_cons_of_mem _ (List.mem_cons_of_mem _ hw))) (hat w hw)
  have hk' : (Cond.classLink own ik cls).before args s' = true := vx_ot_at hW0 hvm.symm (hgood _ List.mem_cons_self) hk
  have hini' : (Cond.initialized cls).before args s' = true := vx_ot_at hW0 hvm.symm (hgood _ (List.mem_cons_of_mem _ List.mem_cons_self)) hini
  have hU' : vx_Zq Bundle.tN "UNASSIGNED_STACK" Bundle.steD A s' s'.heap := by rw [hhp]; exact vx_Zq.moved hW0.alike (hU.kept hS.2.1)
  have hN' : vx_Zq Bundle.tN "SUPPRESSED_SENTINEL" Bundle.listD A s' s'.heap := by rw [hhp]; exact vx_Zq.moved hW0.alike (hN.kept hS.2.1)
  have h : ∀ w ∈ Bundle.ownAtoms own ic cls names, w.before args s' = true := vx_own hat' (vx_isRefq hU'.1) (vx_isRefq hN'.1) hU'.2.word hN'.2.word
  have hown' : s'.vm.findClass own = some m.cls := by rw [hvm]; exact hown
  have hins : (Cond.instantiable cls 6).before args s' = true := h _ (by simp [Bundle.ownAtoms])
  obtain ⟨vm₁, cX, kX, hfX, hkX, -, -, X₁, st1⟩ := Y.newCold hexec (own := own) (C := cls) (index := ik) (n := 6) hown' hk' hins hini'
    (g := F0 m pc ls rest) rfl (by rw [hb]; exact d0) (Nat.le_refl _) (Nat.le_refl _)
  generalize hT1 : (T.setVm vm₁).pushCell { cls := cX, slots := kX.instanceTypes.map defaultValue, vm := .none } = T1 at X₁ st1
  have hcat : (Value.ref T.heap.size).category = 1 := rfl
  have hcellA : T1.heap[T.heap.size]? = some (freshCell cX kX) := by rw [← hT1]; exact State.heap_pushCell_size _ _
  have d3' : decode c.code (pc + 3) = .ok (.dup, 1) := by rw [hb]; exact d3
  have d4' : decode c.code (pc + 4) = .ok (.ldc_w is, 3) := by rw [hb]; exact d4
  have hstr' : vk_R own is text sa s' := vk_R.warm hW0 hstr
  obtain ⟨U, hsteps, hrun, hend, hW, hsame, ce, hce, hO⟩ := X₁.ctorThrowS hexec htr (own := own) (cls := cls) (names := names) (ic := ic) hown' hcls hnames h (fun x hx => nomatch hx) hfX hkX hcellA (by rw [hhp, hT]; exact Nat.le_refl _) (msg := .ref sa) rfl
    (g := { method := m, pc := pc + 7, locals := ls, stack := .ref sa :: .ref T.heap.size :: .ref T.heap.size :: rest, locked := none }) rfl hsize rfl rfl (rest := rest) rfl
    (by rw [hb]; exact d7) (by rw [hb]; exact d10) hout hRframes (by simp only [List.map_cons, List.sum_cons, hcat]; omega) hlocks
  obtain ⟨f1, f2⟩ := vx_frame hsame
  rw [hhp] at f1 f2
  have hWs : s.WarmedH U.vm := State.WarmedH.trans hW0 hW
  have hcl : s.vm.findClass cls = some ce.cls := by
    have h9 := hO.cls
    rw [hvm] at h9
    exact h9
  have hall : s.sameButNew ({ U with vm := s.vm } : State) locs mc ms := by
    subst hA
    obtain ⟨e1, e2⟩ := hsame
    rw [State.setFrames_setFrames] at e1
    have h2 : (T.setVm s.vm).sameButNew ({ U with vm := s.vm } : State) [] (0 + 1) (0 + 6) := ⟨e1, e2⟩
    have h3 := X.same.trans h2
    rw [List.append_nil] at h3
    exact h3.mono hc hs
  refine ⟨U, ?_, .threw T.heap.size, hrun, hend, Or.inr ⟨T.heap.size, rfl, cls, ce, locs, hx U hWs.alike f1 (fun q hq => f2 q hq (fun z hz => nomatch hz)), hce, hO.vm, hcl, hWs, hall, hf⟩⟩
  refine st1 _ ?_
  show Steps p.tables e below (T1.setTop { method := m, pc := pc + 3, locals := ls, stack := .ref T.heap.size :: rest, locked := none }) _
  jvm_step X₁.here [X₁.here.top, hexec, d3', Value.category]
  exact X₁.ldcStringW hexec (own := own) (text := text) (index := is) (a := sa) hown' hstr'.1 hstr'.2
    (g := { method := m, pc := pc + 4, locals := ls, stack := .ref T.heap.size :: .ref T.heap.size :: rest, locked := none }) rfl d4' _ hsteps
end Ends
section Bodies
variable {l : Launch}
theorem vx_ofW {y : MethodName} {ws ws' : List Cond} {rm : Room} {Pc : Array Value → State → Prop} {Qc : Array Value → State → Outcome → State → Prop} {XC : String → State → State → Prop} {mc ms : Nat} {free : Addr → Prop} {cc : ByteArray} {maxL : Nat} {ret : Option FieldType}
    (hy : plainName y.cls = true) (hw : ws = Cond.code y cc maxL ret :: ws')
    (body : ∀ p e s m args below meth c s₁, BodyLoose p l y (headSpec ws rm) cc maxL ret e s m args below meth c s₁ → c.maxLocals = maxL → (∀ x ∈ c.exceptionTable.toList, False) → Pc args s →
      W p l e (headSpec ws rm).room s m args below meth c s.heap [] 0 0 (vx_MQ below Qc XC args s mc ms free) (entryFrame m args maxL)) : vx_Met l y ws rm Pc Qc XC mc ms free := by
  refine MetFree.of_bodyS (code := cc) (maxLocals := maxL) (ret := ret) hy ?_ ?_
  · intro args s m h hn
    obtain ⟨meth, c, h1, h2, h3, h4, h5, h6, -, -⟩ := Cond.code_spec hn (atoms_spec (ws := ws) h _ (by rw [hw]; exact List.mem_cons_self))
    exact ⟨meth, c, h1, h2, h3, h4, h5, h6⟩
  · intro p e s m args below meth c s₁ B hml hP _
    have hh0 : s₁.heap = s.heap := by rw [B.state]; rfl
    have ht : ∀ x ∈ c.exceptionTable.toList, False := by
      obtain ⟨meth9, c9, h1, h2, -, -, -, -, h7, -⟩ := Cond.code_spec B.named (atoms_spec (ws := ws) B.pre _ (by rw [hw]; exact List.mem_cons_self))
      cases Option.some.inj (h1.symm.trans B.method)
      cases Option.some.inj (h2.symm.trans (Stand.of_body B).code)
      intro x hx
      rw [Array.isEmpty_iff.mp h7] at hx
      cases hx
    obtain ⟨t, a1, o, b1, b2, b3⟩ := body p e s m args below meth c s₁ B hml ht hP s₁ hh0 (Stand.of_body B)
    exact ⟨t, o, a1, b1, b2, b3⟩
/-- the table of a body with handlers -/
theorem vx_table {p : Program} {x y : MethodName} {S : Spec} {cc bytes : ByteArray} {maxL maxL' : Nat} {ret ret' : Option FieldType} {e : Env} {s s₁ : State} {m : MethodId} {args : Array Value} {below : List Frame} {meth : Method} {c : Code} {hh : List (Nat × Nat × Nat × Nat)}
    (B : BodyLoose p l y S cc maxL ret e s m args below meth c s₁) (h : (Cond.codeWith y bytes maxL' ret' hh).before args s = true) : c.exceptionTable.toList = tableOf hh := by
  obtain ⟨m9, meth9, c9, hn9, h1, h2, -, -, h6, -⟩ := Cond.codeWith_spec h
  cases Option.some.inj (hn9.symm.trans B.named)
  cases Option.some.inj (h1.symm.trans B.method)
  cases Option.some.inj (h2.symm.trans (Stand.of_body B).code)
  rw [← h6, table_eq]
end Bodies
end VXA
/-! ===== END ===== -/
/-! ===== BEGIN a static call of a method with an exception table ===== -/
section VXS
variable {p : Program} {l : Launch} {e : Env} {R : Room} {s : State} {m : MethodId} {args : Array Value} {below : List Frame} {meth : Method} {c : Code} {T : State} {H : Heap} {locs : List Loc} {cells slots : Nat}
abbrev vx_CSW (R : Room) (s : State) (args : Array Value) (own : String) (index : Nat) (y : MethodName) (bytes : ByteArray) (maxL : Nat) (ret : Option FieldType) (hh : List (Nat × Nat × Nat × Nat)) (ws : List Cond) (rm : Room) (mc ms n : Nat) : Prop :=
  (rm.cells = mc ∧ rm.slots = ms ∧ rm.frames + 1 ≤ R.frames ∧ 8 + (maxL + 11) + rm.locals ≤ R.locals ∧ (∀ w ∈ ws, ∀ (a' : Array Value) (U : State), s.WarmedH U.vm → w.before a' U = true) ∧ Cond.codeWith y bytes maxL ret hh ∈ ws) ∧
  (Cond.codeWith y bytes maxL ret hh).before args s = true ∧ (Cond.initialized y.cls).before args s = true ∧ (y.cls ≠ "java/lang/invoke/MethodHandle" ∧ y.cls ≠ "java/lang/invoke/VarHandle") ∧
  (∀ sig, parseMethodDescriptor y.desc = some sig → n = sig.parameters.length) ∧ (Cond.methodLink own index y).before args s = true ∧ (Cond.static y).before args s = true
theorem vx_cwSW {own : String} {index maxL mc ms : Nat} {y : MethodName} {bytes : ByteArray} {ret : Option FieldType} {hh : List (Nat × Nat × Nat × Nat)} {Ts ws ws' : List Cond} {rm : Room} (n : Nat) (ht : ∀ w ∈ Ts, w.before args s = true) (hT : GoodIn Ts (va_wsS own index y ws)) (hw : ws = Cond.codeWith y bytes maxL ret hh :: ws') (hrc : rm.cells = mc) (hrs : rm.slots = ms)
    (hd : y.cls ≠ "java/lang/invoke/MethodHandle" ∧ y.cls ≠ "java/lang/invoke/VarHandle" ∧ (parseMethodDescriptor y.desc).map (fun d => d.parameters.length) = some n) (hR : rm.frames + 1 ≤ R.frames ∧ 8 + (maxL + 11) + rm.locals ≤ R.locals) :
    vx_CSW R s args own index y bytes maxL ret hh ws rm mc ms n := by
  have ok : ∀ w ∈ va_wsS own index y ws, w.before args s = true := fun w h => ht w (hT w h).1
  have hG : GoodIn Ts ws := fun w h => hT w (by unfold va_wsS; exact List.mem_append_right _ h)
  have hc : Cond.codeWith y bytes maxL ret hh ∈ ws := by rw [hw]; exact List.mem_cons_self
  refine ⟨⟨hrc, hrs, hR.1, hR.2, pay_in ht hG, hc⟩, ht _ (hG _ hc).1, ok _ (by simp [va_wsS]), ⟨hd.1, hd.2.1⟩, fun sig h => ?_, ok _ (by simp [va_wsS]), ok _ (by simp [va_wsS])⟩
  have h2 := hd.2.2
  rw [h] at h2
  exact (Option.some.inj h2).symm
theorem vx_callSW (X : Stand p l e R s m args below meth c T locs cells slots) (hexec : p.tables.exec = Jvm.exec) {own : String} {index : Nat} {y : MethodName} {bytes : ByteArray} {maxL : Nat} {ret : Option FieldType} {hh : List (Nat × Nat × Nat × Nat)}
    (hown : s.vm.findClass own = some m.cls) (hlink : (Cond.methodLink own index y).before args s = true) (hstat : (Cond.static y).before args s = true) (hinit : (Cond.initialized y.cls).before args s = true)
    (hcode : (Cond.codeWith y bytes maxL ret hh).before args s = true) (hy : y.cls ≠ "java/lang/invoke/MethodHandle" ∧ y.cls ≠ "java/lang/invoke/VarHandle")
    {W9 : Nat} {Pre : Pt → Array Value → Prop} {Post : Pt → Array Value → Option Value → Pt → Prop} (hK : Back l R p e below s args y 3 W9 Pre Post)
    {g : JFrame} (hg : g.method = m) (hsize : g.locals.size = c.maxLocals) {argsL rest : List Value} (hlen : ∀ sig, parseMethodDescriptor y.desc = some sig → argsL.length = sig.parameters.length)
    (hstack : g.stack = argsL.reverse ++ rest) (hW : 2 * g.monitorRoom + (rest.map fun v => v.category).sum ≤ W9) (hdg : decode c.code g.pc = .ok (.invokestatic index, 3))
    (hpre : ∀ vm₁, s.WarmedH vm₁ → Pre ⟨T.setVm vm₁, locs, cells, slots⟩ argsL.toArray) :
    ∃ (v : Option Value) (vm₁ : Vm) (B : Pt), s.WarmedH vm₁ ∧ Stand p l e R s m args below meth c B.U B.locs B.cells B.slots ∧ Post ⟨T.setVm vm₁, locs, cells, slots⟩ argsL.toArray v B ∧
      ∀ target, Steps p.tables e below (B.U.setTop { g with pc := g.pc + 3, stack := v.toList ++ rest }) target → Steps p.tables e below (T.setTop g) target := by
  obtain ⟨mk, methM, cM, hnamed, hmethM, -, -, -, -, -, -, hsigM⟩ := Cond.codeWith_spec hcode
  have hstatic : methM.isStatic = true := Cond.static_spec hnamed hmethM hstat
  obtain ⟨kP, hkP, -⟩ := className_of_methodNamed hnamed
  have hinitP : kP.init = .initialized := Cond.initialized_spec (findClass_of_methodNamed hnamed) hkP hinit
  obtain ⟨vm₁, X₁, hstep₁⟩ := X.invokestatic hexec hown hlink hnamed hmethM hstatic hkP hinitP hy (g := g) hg (argsL := argsL) (rest := rest) (hlen _ hsigM) hstack hdg
  obtain ⟨v, B, X', hpost, hsteps⟩ := hK m meth c ⟨T.setVm vm₁, locs, cells, slots⟩ { g with stack := rest } (.invokestatic index) mk argsL.toArray X₁ hg hsize hdg hW (X₁.named hnamed) (hpre vm₁ X₁.warmed)
  exact ⟨v, vm₁, B, X₁.warmed, X', hpost, fun target h => hstep₁ _ fun acts => by rw [doInvoke_state]; exact hsteps.trans h⟩
theorem vx_runSW {y : MethodName} {bytes cc : ByteArray} {maxL nL mc ms n index : Nat} {ret : Option FieldType} {hh : List (Nat × Nat × Nat × Nat)} {ws : List Cond} {rm : Room} {Pc : Array Value → State → Prop} {Qc : Array Value → State → Outcome → State → Prop} {free : Addr → Prop} {Ts : List Cond} {own : String} {As rest : List Value} {g : JFrame}
    (S : CallFix p m c cc nL s args Ts own) (hM : Met l y ws rm Pc Qc mc ms free) (cw : vx_CSW R s args own index y bytes maxL ret hh ws rm mc ms n) (hp : PreS s H Pc As)
    (hg : g.method = m) (hn : As.length = n) (hsize : g.locals.size = nL) (hstack : g.stack = As.reverse ++ rest) (hW : 2 * g.monitorRoom + (rest.map fun v => v.category).sum ≤ 8) (hdg : decode cc g.pc = .ok (.invokestatic index, 3)) (hf : cells + mc ≤ R.cells ∧ slots + ms ≤ R.slots) :
    va_Run p l e R s m args below meth c H locs cells slots mc ms g rest (Qc As.toArray) (free) := by
  obtain ⟨⟨hrc, hrs, hfr, hlo, hws, hcw⟩, hcode, hini, hy, hlen, hl, hstt⟩ := cw
  have hK : Back l R p e below s args y 3 8 (PreOf R mc ms Pc) (PostOf Qc mc ms free) := va_backW (hh := hh) (bytes := bytes) (maxL := maxL) (ret := ret) hM hp.1 hrc hrs hfr hlo hws hcw (fun a' U hW => word_at hW (Or.inl (by first | rfl | simp [Cond.onTables, Cond.keeps, Cond.steady])) hini)
  obtain ⟨hx, hb, hml, ho, -⟩ := S
  intro T hT X
  obtain ⟨v, vm₁, ⟨U', l2, c2, s2⟩, hW₁, X', ⟨g', mk, t, L, e1, e2, hq, h1, hL, h2, h3⟩, st⟩ := vx_callSW X hx (hh := hh) (bytes := bytes) (maxL := maxL) (ret := ret) ho hl hstt hini hcode hy hK hg (hsize.trans hml.symm) (argsL := As) (rest := rest) (fun sig h => hn.trans (hlen sig h)) hstack hW (by rw [hb]; exact hdg)
    (fun vm₁ hW₁ => ⟨hf.1, hf.2, hp.2 (T.setVm vm₁) hT hW₁⟩)
  dsimp only [Pt.U, Pt.locs, Pt.cells, Pt.slots] at X' e1 e2 h1 h2 h3 st
  subst h1; subst h2; subst h3
  exact ⟨v, (T.setVm vm₁).calling g' mk As.toArray, t, U', L, hT, X', hL, e1, e2, hq, st⟩
/-- not caught here, past rows that name other classes: it goes on to the caller -/
theorem vx_outP {p : Program} {l : Launch} {e : Env} {R : Room} {s : State} {m : MethodId} {args : Array Value} {below : List Frame} {meth : Method} {c : Code} {H : Heap} {locs : List Loc} {cells slots : Nat} {free : Addr → Prop} {ls : Array Slot} {rest : List Value} {Qc : Array Value → State → Outcome → State → Prop} {XC : String → State → State → Prop}
    {pc : Nat} {own E : String} {ce : Cell} {q : Addr} {mc ms : Nat} (hown : s.vm.findClass own = some m.cls) (hlocks : meth.locks = false)
    (hpass : ∀ z ∈ c.exceptionTable.toList, covers z pc = false ∨ (z.catchType ≠ 0 ∧ ∃ nm : String, (Cond.classLink own z.catchType nm).before args s = true ∧ va_Nc E nm s)) (hcell : H[q]? = some ce) (hv : ce.vm = .none) (hcl : s.vm.findClass E = some ce.cls)
    (hx : ∀ t : State, t.heap = H → s.vm.Alike t.vm → XC E s t) (hf : ∀ z ∈ locs, free z.base) (hc : cells ≤ mc) (hs : slots ≤ ms) :
    vx_W p l e R s m args below meth c H locs cells slots (vx_MQ below Qc XC args s mc ms free) (F0 m pc ls rest) q := by
  intro T hT X
  have hpl : e.platform.magicAccessors = ({} : Platform).magicAccessors := by rw [X.admits.platform]
  obtain ⟨vm', hW', X', st⟩ := X.outThrough hlocks q (g := F0 m pc ls rest) rfl rfl rfl (cell := ce) (by rw [hT]; exact hcell) (by rw [hv]; rfl)
    (by obtain ⟨k9, h9, -⟩ := Vm.findClass_spec hcl; exact ⟨k9, h9⟩) (fun z hz => by
      rcases hpass z hz with h | ⟨hz0, nm, hl1, hn1⟩
      · exact Or.inl h
      · obtain ⟨c6, hc6, hcl6⟩ := Cond.classLink_spec hown hl1 e.platform hpl
        obtain ⟨a8, b8, h1, h2, h3⟩ := hn1
        cases Option.some.inj (h1.symm.trans hcl)
        cases Option.some.inj (h2.symm.trans hc6)
        exact Or.inr ⟨hz0, _, hcl6, h3⟩)
  obtain ⟨g₀, hfr⟩ := X'.frames_eq
  have hcell9 : ((T.setVm vm').setFrames (.throwing q :: below)).heap[q]? = some ce := by
    show T.heap[q]? = some ce
    rw [hT]; exact hcell
  have hend : Ended ((T.setVm vm').setFrames (.throwing q :: below)) below (.threw q) := State.frames_setFrames _ (State.cur_lt_of_frames hfr)
  refine ⟨(T.setVm vm').setFrames (.throwing q :: below), ?_, .threw q, X'.here.running, hend, Or.inr ⟨q, rfl, E, ce, locs, hx _ hT (X'.ends _).1.alike, hcell9, hv, hcl, (X'.ends _).1, (X'.ends _).2.mono hc hs, hf⟩⟩
  rw [X.pushThrowing_eq]
  exact st
/-- a thing of a world lies in the heap -/
theorem vx_lt {D : va_G} {cl : List vw_C} {ws : va_W} {H1 : Heap} (h : va_P D cl ws H1) {k : Nat} {q : Nat × va_E} (hk : ws[k]? = some q) : q.1 < H1.size := (h k q hk).lt
end VXS
/-! ===== END ===== -/
/-! ===== BEGIN methods with a table of their own: called by a name, returning or throwing ===== -/
section VXH
/-! vx_backW, vx_callVX, vx_callSX, vx_callVW, vx_runVW, vx_runVX, vx_runSX, vx_ofWH follow the same proofs as their sisters above (Free/Laws.lean, Shelf42/LK1.lean); vx_outP calls Shelf42/NT130.lean (outThrough). -/
section
variable {l : Launch} {R : Room} {p : Program} {e : Env} {below : List Frame} {s : State} {sargs : Array Value} {y : MethodName} {len W9 : Nat}
theorem vx_backW {ws : List Cond} {rm : Room} {Pc : Array Value → State → Prop} {Qc : Array Value → State → Outcome → State → Prop} {XC : String → State → State → Prop} {mc ms : Nat} {free : Addr → Prop} {bytes : ByteArray} {maxL : Nat} {ret : Option FieldType} {hh : List (Nat × Nat × Nat × Nat)}
    (hM : vx_Met l y ws rm Pc Qc XC mc ms free) (hblind : FrameBlind Pc) (hrc : rm.cells = mc) (hrs : rm.slots = ms)
    (hframes : rm.frames + 1 ≤ R.frames) (hlocals : W9 + (maxL + 11) + rm.locals ≤ R.locals)
    (hws : ∀ w ∈ ws, ∀ a' U, s.WarmedH U.vm → w.before a' U = true) (hcode : Cond.codeWith y bytes maxL ret hh ∈ ws) (hinit : ∀ a' U, s.WarmedH U.vm → (Cond.initialized y.cls).before a' U = true) :
    vx_Back l R p e below s sargs y len W9 (PreOf R mc ms Pc) (PostOf Qc mc ms free) (vx_Post XC mc ms free) := by
  intro m meth c A g ig mk a X hg hsize hdg hW hn hp
  have h1 : (headSpec ws rm).pre.before a A.U = true := atoms_intro fun w hw => hws w hw _ _ X.warmed
  have h2 : (Cond.codeWith y bytes maxL ret hh).before a A.U = true := hws _ hcode _ _ X.warmed
  have h3 : (Cond.initialized y.cls).before a A.U = true := hinit _ _ X.warmed
  have h4 : A.cells + (headSpec ws rm).room.cells ≤ R.cells := by rw [show (headSpec ws rm).room.cells = mc from hrc]; exact hp.1
  have h5 : A.slots + (headSpec ws rm).room.slots ≤ R.slots := by rw [show (headSpec ws rm).room.slots = ms from hrs]; exact hp.2.1
  have hPc : Pc a (A.U.calling g mk a) := hblind _ _ _ _ hp.2.2
  obtain ⟨U, Ls, c0, s0⟩ := A
  dsimp only [Pt.U, Pt.locs, Pt.cells, Pt.slots] at h1 h2 h3 h4 h5 X hn hPc ⊢
  obtain ⟨m9, methY, cY, hn9, hmY, hcY, -, hlY, -⟩ := Cond.codeWith_spec h2
  cases Option.some.inj (hn9.symm.trans hn)
  obtain ⟨kY, hkY, -⟩ := className_of_methodNamed hn
  have hinitY : kY.init = .initialized := Cond.initialized_spec (findClass_of_methodNamed hn) hkY h3
  have h : At U g.method c below := by rw [hg]; exact X.here
  have hlocals9 : W9 + (maxL + 11) + (headSpec ws rm).room.locals ≤ R.locals := hlocals
  have happ : (headSpec ws rm).appliesLoose y e.platform (U.calling g mk a) = true :=
    Spec.appliesLoose_calling (g := g) h hdg hn hkY hinitY
      (X.room_calling (g := g) (R' := (headSpec ws rm).room) hsize hmY hcY hframes (by rw [hlY]; omega) h4 h5) h1
  obtain ⟨mid, hmid⟩ := h.above
  have hfr : (U.setTop g).frames = (.java g :: mid) ++ below := by rw [State.frames_setTop' g h.top, hmid]; rfl
  obtain ⟨o, s₂, hsteps, -, hend, hq⟩ := Steps.callFree hM p X.admits X.cas X.clock (acts := []) hfr happ hPc trivial
  have hq' : vx_Q Qc XC mc ms free a (U.calling g mk a) o s₂ := hq
  rw [State.frames_setTop' g h.top] at hend
  obtain ⟨g₀, hg0⟩ := Option.isSome_iff_exists.mp h.top
  obtain ⟨r, hr⟩ := State.topJava?_eq_some.mp hg0
  have hr' : (({ U with heap := s₂.heap, slotsUsed := s₂.slotsUsed } : State).setVm s₂.vm).frames = .java g₀ :: r := hr
  rcases hq' with ⟨hqc, L, hfe, hL⟩ | ⟨q, rfl, E, ce, L, hx, hce, hcv, hcl, hW₂, hsm, hL⟩
  · obtain ⟨⟨v, rfl⟩, hW₂, e2, q2, q3, q4, q5, q6⟩ := id hfe
    have e3 : s₂ = ({ (U.calling g mk a).setFrames s₂.frames with heap := s₂.heap, slotsUsed := s₂.slotsUsed } : State).setVm s₂.vm := by
      have : s₂ = ({ s₂ with vm := (U.calling g mk a).vm } : State).setVm s₂.vm := rfl
      rw [e2] at this
      exact this
    obtain ⟨c₂, i₂, len₂, hc₂, hd₂, hf₂⟩ := hend
    have hW' : U.WarmedH s₂.vm := hW₂
    have hcc : c₂ = c := by
      have h1 : s₂.code? g.method = U.code? g.method := by
        rw [State.code?_eq, State.code?_eq, hW'.alike.method?]
      exact Option.some.inj (hc₂.symm.trans (h1.trans h.code))
    subst hcc
    have hlen : len₂ = len := by rw [hdg] at hd₂; cases hd₂; rfl
    subst hlen
    have hs₂ : s₂ = (({ U with heap := s₂.heap, slotsUsed := s₂.slotsUsed } : State).setVm s₂.vm).setTop { g with pc := g.pc + len₂, stack := v.toList ++ g.stack } := by
      refine e3.trans ?_
      rw [hf₂, State.calling_eq h.top, State.setFrames_setFrames, State.setTop_of_frames _ hr', hr]
      rfl
    have hsame : U.sameButNew ({ U with heap := s₂.heap, slotsUsed := s₂.slotsUsed } : State) L mc ms := by
      refine ⟨?_, q2, q3, q4, q5, q6⟩
      obtain ⟨t, ht, -⟩ := State.frames_cons hr
      show ({ U with heap := s₂.heap, slotsUsed := s₂.slotsUsed } : State) = { U.setFrames U.frames with heap := s₂.heap, slotsUsed := s₂.slotsUsed }
      rw [State.setFrames_self ht]
    subst hg
    refine Or.inl ⟨v, ⟨(({ U with heap := s₂.heap, slotsUsed := s₂.slotsUsed } : State).setVm s₂.vm), Ls ++ L, c0 + mc, s0 + ms⟩,
      ⟨X.admits, X.cas, X.clock, X.frames, X.room, X.hears, X.method, X.code, (X.here.setHeapUsed s₂.heap s₂.slotsUsed).setVm hW'.alike, X.tail, State.WarmedH.trans X.warmed hW', X.limits, X.bytes, X.same.trans (hsame.setVm s.vm)⟩,
      ⟨g, mk, s₂, L, rfl, rfl, hqc, rfl, hL, rfl, rfl⟩, ?_⟩
    show Steps p.tables e below _ ((({ U with heap := s₂.heap, slotsUsed := s₂.slotsUsed } : State).setVm s₂.vm).setTop { g with pc := g.pc + len₂, stack := v.toList ++ g.stack })
    rw [← hs₂]
    exact hsteps
  · obtain ⟨e2, q2, q3, q4, q5, q6⟩ := id hsm
    have e3 : s₂ = ({ (U.calling g mk a).setFrames s₂.frames with heap := s₂.heap, slotsUsed := s₂.slotsUsed } : State).setVm s₂.vm := by
      have : s₂ = ({ s₂ with vm := (U.calling g mk a).vm } : State).setVm s₂.vm := rfl
      rw [e2] at this
      exact this
    have hf₂ : s₂.frames = .throwing q :: .java g :: U.frames.tail := hend
    have hW' : U.WarmedH s₂.vm := hW₂
    have hs₂ : s₂ = ((({ U with heap := s₂.heap, slotsUsed := s₂.slotsUsed } : State).setVm s₂.vm).setTop g).pushFrame (.throwing q) := by
      refine e3.trans ?_
      rw [hf₂, State.calling_eq h.top, State.setFrames_setFrames, State.pushFrame, State.frames_setTop _ hr', State.setTop_of_frames _ hr', State.setFrames_setFrames, hr]
      rfl
    have hsame : U.sameButNew ({ U with heap := s₂.heap, slotsUsed := s₂.slotsUsed } : State) L mc ms := by
      refine ⟨?_, q2, q3, q4, q5, q6⟩
      obtain ⟨t, ht, -⟩ := State.frames_cons hr
      show ({ U with heap := s₂.heap, slotsUsed := s₂.slotsUsed } : State) = { U.setFrames U.frames with heap := s₂.heap, slotsUsed := s₂.slotsUsed }
      rw [State.setFrames_self ht]
    subst hg
    refine Or.inr ⟨q, ⟨(({ U with heap := s₂.heap, slotsUsed := s₂.slotsUsed } : State).setVm s₂.vm), Ls ++ L, c0 + mc, s0 + ms⟩,
      ⟨X.admits, X.cas, X.clock, X.frames, X.room, X.hears, X.method, X.code, (X.here.setHeapUsed s₂.heap s₂.slotsUsed).setVm hW'.alike, X.tail, State.WarmedH.trans X.warmed hW', X.limits, X.bytes, X.same.trans (hsame.setVm s.vm)⟩,
      ⟨g, mk, s₂, L, E, ce, rfl, rfl, hx, hce, hcv, hcl, rfl, hL, rfl, rfl⟩, ?_⟩
    show Steps p.tables e below _ (((({ U with heap := s₂.heap, slotsUsed := s₂.slotsUsed } : State).setVm s₂.vm).setTop g).pushFrame (.throwing q))
    rw [← hs₂]
    exact hsteps
end
variable {p : Program} {l : Launch} {e : Env} {R : Room} {s : State} {m : MethodId} {args : Array Value} {below : List Frame} {meth : Method} {c : Code} {T : State} {H : Heap} {locs : List Loc} {cells slots : Nat}
theorem vx_callVX (X : Stand p l e R s m args below meth c T locs cells slots) (hexec : p.tables.exec = Jvm.exec) {own C : String} {index : Nat} {y : MethodName} {bytes : ByteArray} {maxL : Nat} {ret : Option FieldType} {hh : List (Nat × Nat × Nat × Nat)}
    (hown : s.vm.findClass own = some m.cls) (hlink : (Cond.methodLink own index y).before args s = true) (hinst : (Cond.instanceMethod y).before args s = true) (hsel : (Cond.selects C y y).before args s = true)
    (hcode : (Cond.codeWith y bytes maxL ret hh).before args s = true) (hy : y.cls ≠ "java/lang/invoke/MethodHandle" ∧ y.cls ≠ "java/lang/invoke/VarHandle")
    {W9 : Nat} {Pre : Pt → Array Value → Prop} {Post : Pt → Array Value → Option Value → Pt → Prop} {PostX : Pt → Array Value → Addr → Pt → Prop} (hK : vx_Back l R p e below s args y 3 W9 Pre Post PostX)
    {b : Addr} {cellB : Cell} (hcell : T.heap[b]? = some cellB) (hobj : cellB.vm.isStatics = false) (hcls : s.vm.findClass C = some cellB.cls)
    {g : JFrame} (hg : g.method = m) (hsize : g.locals.size = c.maxLocals) {argsL rest : List Value} (hlen : ∀ sig, parseMethodDescriptor y.desc = some sig → argsL.length = sig.parameters.length)
    (hstack : g.stack = argsL.reverse ++ .ref b :: rest) (hW : 2 * g.monitorRoom + (rest.map fun v => v.category).sum ≤ W9) (hdg : decode c.code g.pc = .ok (.invokevirtual index, 3))
    (hpre : ∀ vm₁, s.WarmedH vm₁ → Pre ⟨T.setVm vm₁, locs, cells, slots⟩ (Value.ref b :: argsL).toArray) :
    (∃ (v : Option Value) (vm₁ : Vm) (B : Pt), s.WarmedH vm₁ ∧ Stand p l e R s m args below meth c B.U B.locs B.cells B.slots ∧ Post ⟨T.setVm vm₁, locs, cells, slots⟩ (Value.ref b :: argsL).toArray v B ∧
      ∀ target, Steps p.tables e below (B.U.setTop { g with pc := g.pc + 3, stack := v.toList ++ rest }) target → Steps p.tables e below (T.setTop g) target) ∨
    (∃ (q : Addr) (vm₁ : Vm) (B : Pt), s.WarmedH vm₁ ∧ Stand p l e R s m args below meth c B.U B.locs B.cells B.slots ∧ PostX ⟨T.setVm vm₁, locs, cells, slots⟩ (Value.ref b :: argsL).toArray q B ∧
      Steps p.tables e below (T.setTop g) ((B.U.setTop { g with stack := rest }).pushFrame (.throwing q))) := by
  obtain ⟨mk, methM, hnamed, hmethM, hstM, habM⟩ := Cond.instanceMethod_spec hinst
  obtain ⟨m8, methM', cM, hn8, hmethM', -, -, -, -, -, -, hsigM⟩ := Cond.codeWith_spec hcode
  cases Option.some.inj (hn8.symm.trans hnamed)
  cases hmethM.symm.trans hmethM'
  obtain ⟨c2, r2, m2, q1, q2, q3, q4, kP, hkP, hkPi⟩ := Cond.selects_spec hsel
  cases hcls.symm.trans q1
  cases (State.methodFound?_of_named hnamed hy).symm.trans q2
  cases hnamed.symm.trans q3
  have hselP : selectMethod e.platform s.vm cellB.cls mk = .method mk := by rw [Launch.admits_selectMethod X.admits]; exact q4
  obtain ⟨vm₁, X₁, hstep₁⟩ := X.invokevirtual hexec hown hlink hnamed hmethM hstM hkP hkPi hy (a := b) (cell := cellB) hcell
    (fun z h => by rw [h] at hobj; cases hobj) hselP hmethM habM hkP hkPi (g := g) hg (argsL := argsL) (rest := rest) (hlen _ hsigM) hstack hdg
  rcases hK m meth c ⟨T.setVm vm₁, locs, cells, slots⟩ { g with stack := rest } (.invokevirtual index) mk (Value.ref b :: argsL).toArray X₁ hg hsize hdg hW (X₁.named hnamed) (hpre vm₁ X₁.warmed) with ⟨v, B, X', hpost, hsteps⟩ | ⟨q, B, X', hpost, hsteps⟩
  · exact Or.inl ⟨v, vm₁, B, X₁.warmed, X', hpost, fun target h => hstep₁ _ fun acts => by rw [doInvoke_state]; exact hsteps.trans h⟩
  · exact Or.inr ⟨q, vm₁, B, X₁.warmed, X', hpost, hstep₁ _ fun acts => by rw [doInvoke_state]; exact hsteps⟩
theorem vx_callSX (X : Stand p l e R s m args below meth c T locs cells slots) (hexec : p.tables.exec = Jvm.exec) {own : String} {index : Nat} {y : MethodName} {bytes : ByteArray} {maxL : Nat} {ret : Option FieldType} {hh : List (Nat × Nat × Nat × Nat)}
    (hown : s.vm.findClass own = some m.cls) (hlink : (Cond.methodLink own index y).before args s = true) (hstat : (Cond.static y).before args s = true) (hinit : (Cond.initialized y.cls).before args s = true)
    (hcode : (Cond.codeWith y bytes maxL ret hh).before args s = true) (hy : y.cls ≠ "java/lang/invoke/MethodHandle" ∧ y.cls ≠ "java/lang/invoke/VarHandle")
    {W9 : Nat} {Pre : Pt → Array Value → Prop} {Post : Pt → Array Value → Option Value → Pt → Prop} {PostX : Pt → Array Value → Addr → Pt → Prop} (hK : vx_Back l R p e below s args y 3 W9 Pre Post PostX)
    {g : JFrame} (hg : g.method = m) (hsize : g.locals.size = c.maxLocals) {argsL rest : List Value} (hlen : ∀ sig, parseMethodDescriptor y.desc = some sig → argsL.length = sig.parameters.length)
    (hstack : g.stack = argsL.reverse ++ rest) (hW : 2 * g.monitorRoom + (rest.map fun v => v.category).sum ≤ W9) (hdg : decode c.code g.pc = .ok (.invokestatic index, 3))
    (hpre : ∀ vm₁, s.WarmedH vm₁ → Pre ⟨T.setVm vm₁, locs, cells, slots⟩ argsL.toArray) :
    (∃ (v : Option Value) (vm₁ : Vm) (B : Pt), s.WarmedH vm₁ ∧ Stand p l e R s m args below meth c B.U B.locs B.cells B.slots ∧ Post ⟨T.setVm vm₁, locs, cells, slots⟩ argsL.toArray v B ∧
      ∀ target, Steps p.tables e below (B.U.setTop { g with pc := g.pc + 3, stack := v.toList ++ rest }) target → Steps p.tables e below (T.setTop g) target) ∨
    (∃ (q : Addr) (vm₁ : Vm) (B : Pt), s.WarmedH vm₁ ∧ Stand p l e R s m args below meth c B.U B.locs B.cells B.slots ∧ PostX ⟨T.setVm vm₁, locs, cells, slots⟩ argsL.toArray q B ∧
      Steps p.tables e below (T.setTop g) ((B.U.setTop { g with stack := rest }).pushFrame (.throwing q))) := by
  obtain ⟨mk, methM, cM, hnamed, hmethM, -, -, -, -, -, -, hsigM⟩ := Cond.codeWith_spec hcode
  have hstatic : methM.isStatic = true := Cond.static_spec hnamed hmethM hstat
  obtain ⟨kP, hkP, -⟩ := className_of_methodNamed hnamed
  have hinitP : kP.init = .initialized := Cond.initialized_spec (findClass_of_methodNamed hnamed) hkP hinit
  obtain ⟨vm₁, X₁, hstep₁⟩ := X.invokestatic hexec hown hlink hnamed hmethM hstatic hkP hinitP hy (g := g) hg (argsL := argsL) (rest := rest) (hlen _ hsigM) hstack hdg
  rcases hK m meth c ⟨T.setVm vm₁, locs, cells, slots⟩ { g with stack := rest } (.invokestatic index) mk argsL.toArray X₁ hg hsize hdg hW (X₁.named hnamed) (hpre vm₁ X₁.warmed) with ⟨v, B, X', hpost, hsteps⟩ | ⟨q, B, X', hpost, hsteps⟩
  · exact Or.inl ⟨v, vm₁, B, X₁.warmed, X', hpost, fun target h => hstep₁ _ fun acts => by rw [doInvoke_state]; exact hsteps.trans h⟩
  · exact Or.inr ⟨q, vm₁, B, X₁.warmed, X', hpost, hstep₁ _ fun acts => by rw [doInvoke_state]; exact hsteps⟩
theorem vx_callVW (X : Stand p l e R s m args below meth c T locs cells slots) (hexec : p.tables.exec = Jvm.exec) {own C : String} {index : Nat} {y : MethodName} {bytes : ByteArray} {maxL : Nat} {ret : Option FieldType} {hh : List (Nat × Nat × Nat × Nat)}
    (hown : s.vm.findClass own = some m.cls) (hlink : (Cond.methodLink own index y).before args s = true) (hinst : (Cond.instanceMethod y).before args s = true) (hsel : (Cond.selects C y y).before args s = true)
    (hcode : (Cond.codeWith y bytes maxL ret hh).before args s = true) (hy : y.cls ≠ "java/lang/invoke/MethodHandle" ∧ y.cls ≠ "java/lang/invoke/VarHandle")
    {W9 : Nat} {Pre : Pt → Array Value → Prop} {Post : Pt → Array Value → Option Value → Pt → Prop} (hK : Back l R p e below s args y 3 W9 Pre Post)
    {b : Addr} {cellB : Cell} (hcell : T.heap[b]? = some cellB) (hobj : cellB.vm.isStatics = false) (hcls : s.vm.findClass C = some cellB.cls)
    {g : JFrame} (hg : g.method = m) (hsize : g.locals.size = c.maxLocals) {argsL rest : List Value} (hlen : ∀ sig, parseMethodDescriptor y.desc = some sig → argsL.length = sig.parameters.length)
    (hstack : g.stack = argsL.reverse ++ .ref b :: rest) (hW : 2 * g.monitorRoom + (rest.map fun v => v.category).sum ≤ W9) (hdg : decode c.code g.pc = .ok (.invokevirtual index, 3))
    (hpre : ∀ vm₁, s.WarmedH vm₁ → Pre ⟨T.setVm vm₁, locs, cells, slots⟩ (Value.ref b :: argsL).toArray) :
    ∃ (v : Option Value) (vm₁ : Vm) (B : Pt), s.WarmedH vm₁ ∧ Stand p l e R s m args below meth c B.U B.locs B.cells B.slots ∧ Post ⟨T.setVm vm₁, locs, cells, slots⟩ (Value.ref b :: argsL).toArray v B ∧
      ∀ target, Steps p.tables e below (B.U.setTop { g with pc := g.pc + 3, stack := v.toList ++ rest }) target → Steps p.tables e below (T.setTop g) target := by
  obtain ⟨mk, methM, hnamed, hmethM, hstM, habM⟩ := Cond.instanceMethod_spec hinst
  obtain ⟨m8, methM', cM, hn8, hmethM', -, -, -, -, -, -, hsigM⟩ := Cond.codeWith_spec hcode
  cases Option.some.inj (hn8.symm.trans hnamed)
  cases hmethM.symm.trans hmethM'
  obtain ⟨c2, r2, m2, q1, q2, q3, q4, kP, hkP, hkPi⟩ := Cond.selects_spec hsel
  cases hcls.symm.trans q1
  cases (State.methodFound?_of_named hnamed hy).symm.trans q2
  cases hnamed.symm.trans q3
  have hselP : selectMethod e.platform s.vm cellB.cls mk = .method mk := by rw [Launch.admits_selectMethod X.admits]; exact q4
  obtain ⟨vm₁, X₁, hstep₁⟩ := X.invokevirtual hexec hown hlink hnamed hmethM hstM hkP hkPi hy (a := b) (cell := cellB) hcell
    (fun z h => by rw [h] at hobj; cases hobj) hselP hmethM habM hkP hkPi (g := g) hg (argsL := argsL) (rest := rest) (hlen _ hsigM) hstack hdg
  obtain ⟨v, B, X', hpost, hsteps⟩ := hK m meth c ⟨T.setVm vm₁, locs, cells, slots⟩ { g with stack := rest } (.invokevirtual index) mk (Value.ref b :: argsL).toArray X₁ hg hsize hdg hW (X₁.named hnamed) (hpre vm₁ X₁.warmed)
  exact ⟨v, vm₁, B, X₁.warmed, X', hpost, fun target h => hstep₁ _ fun acts => by rw [doInvoke_state]; exact hsteps.trans h⟩
abbrev vx_CVW (R : Room) (s : State) (args : Array Value) (own C : String) (index : Nat) (y : MethodName) (bytes : ByteArray) (maxL : Nat) (ret : Option FieldType) (hh : List (Nat × Nat × Nat × Nat)) (ws : List Cond) (rm : Room) (mc ms n : Nat) : Prop :=
  (rm.cells = mc ∧ rm.slots = ms ∧ rm.frames + 1 ≤ R.frames ∧ 8 + (maxL + 11) + rm.locals ≤ R.locals ∧ (∀ w ∈ ws, ∀ (a' : Array Value) (U : State), s.WarmedH U.vm → w.before a' U = true) ∧ Cond.codeWith y bytes maxL ret hh ∈ ws) ∧
  (Cond.codeWith y bytes maxL ret hh).before args s = true ∧ (Cond.initialized y.cls).before args s = true ∧ (y.cls ≠ "java/lang/invoke/MethodHandle" ∧ y.cls ≠ "java/lang/invoke/VarHandle") ∧
  (∀ sig, parseMethodDescriptor y.desc = some sig → n = sig.parameters.length) ∧ (Cond.methodLink own index y).before args s = true ∧ (Cond.instanceMethod y).before args s = true ∧ (Cond.selects C y y).before args s = true
theorem vx_cwVW {own C : String} {index maxL mc ms : Nat} {y : MethodName} {bytes : ByteArray} {ret : Option FieldType} {hh : List (Nat × Nat × Nat × Nat)} {Ts ws ws' : List Cond} {rm : Room} (n : Nat) (ht : ∀ w ∈ Ts, w.before args s = true) (hT : GoodIn Ts (wsV own index C y ws)) (hw : ws = Cond.codeWith y bytes maxL ret hh :: ws') (hrc : rm.cells = mc) (hrs : rm.slots = ms)
    (hd : y.cls = C ∧ y.cls ≠ "java/lang/invoke/MethodHandle" ∧ y.cls ≠ "java/lang/invoke/VarHandle" ∧ (parseMethodDescriptor y.desc).map (fun d => d.parameters.length) = some n) (hR : rm.frames + 1 ≤ R.frames ∧ 8 + (maxL + 11) + rm.locals ≤ R.locals) :
    vx_CVW R s args own C index y bytes maxL ret hh ws rm mc ms n := by
  obtain ⟨hC, hd⟩ := hd
  subst hC
  have ok : ∀ w ∈ wsV own index y.cls y ws, w.before args s = true := fun w h => ht w (hT w h).1
  have hG : GoodIn Ts ws := fun w h => hT w (by unfold wsV; exact List.mem_append_right _ h)
  have hc : Cond.codeWith y bytes maxL ret hh ∈ ws := by rw [hw]; exact List.mem_cons_self
  refine ⟨⟨hrc, hrs, hR.1, hR.2, pay_in ht hG, hc⟩, ht _ (hG _ hc).1, ok _ (by simp [wsV]), ⟨hd.1, hd.2.1⟩, fun sig h => ?_, ok _ (by simp [wsV]), ok _ (by simp [wsV]), ok _ (by simp [wsV])⟩
  have h2 := hd.2.2
  rw [h] at h2
  exact (Option.some.inj h2).symm
theorem vx_runVW {y : MethodName} {bytes cc : ByteArray} {maxL nL mc ms n index : Nat} {ret : Option FieldType} {hh : List (Nat × Nat × Nat × Nat)} {ws : List Cond} {rm : Room} {Pc : Array Value → State → Prop} {Qc : Array Value → State → Outcome → State → Prop} {free : Addr → Prop} {Ts : List Cond} {own C : String} {b : Addr} {As rest : List Value} {g : JFrame}
    (S : CallFix p m c cc nL s args Ts own) (hM : Met l y ws rm Pc Qc mc ms free) (cw : vx_CVW R s args own C index y bytes maxL ret hh ws rm mc ms n) (hp : PreV s H C b Pc As)
    (hg : g.method = m) (hn : As.length = n) (hsize : g.locals.size = nL) (hstack : g.stack = As.reverse ++ .ref b :: rest) (hW : 2 * g.monitorRoom + (rest.map fun v => v.category).sum ≤ 8) (hdg : decode cc g.pc = .ok (.invokevirtual index, 3)) (hf : cells + mc ≤ R.cells ∧ slots + ms ≤ R.slots) :
    va_Run p l e R s m args below meth c H locs cells slots mc ms g rest (Qc (Value.ref b :: As).toArray) free := by
  obtain ⟨⟨hrc, hrs, hfr, hlo, hws, hcw⟩, hcode, hini, hy, hlen, hl, hin, hse⟩ := cw
  have hK : Back l R p e below s args y 3 8 (PreOf R mc ms Pc) (PostOf Qc mc ms free) := va_backW (hh := hh) (bytes := bytes) (maxL := maxL) (ret := ret) hM hp.1 hrc hrs hfr hlo hws hcw (fun a' U hW => word_at hW (Or.inl (by first | rfl | simp [Cond.onTables, Cond.keeps, Cond.steady])) hini)
  obtain ⟨hx, hb, hml, ho, -⟩ := S
  obtain ⟨-, ⟨cellB, hcB, hoB, hclB⟩, hPc⟩ := hp
  intro T hT X
  obtain ⟨v, vm₁, ⟨U', l2, c2, s2⟩, hW₁, X', ⟨g', mk, t, L, e1, e2, hq, h1, hL, h2, h3⟩, st⟩ := vx_callVW X hx (C := C) (hh := hh) (bytes := bytes) (maxL := maxL) (ret := ret) ho hl hin hse hcode hy hK (by rw [hT]; exact hcB) hoB hclB hg (hsize.trans hml.symm) (argsL := As) (rest := rest) (fun sig h => hn.trans (hlen sig h)) hstack hW (by rw [hb]; exact hdg)
    (fun vm₁ hW₁ => ⟨hf.1, hf.2, hPc (T.setVm vm₁) hT hW₁⟩)
  dsimp only [Pt.U, Pt.locs, Pt.cells, Pt.slots] at X' e1 e2 h1 h2 h3 st
  subst h1; subst h2; subst h3
  exact ⟨v, (T.setVm vm₁).calling g' mk (Value.ref b :: As).toArray, t, U', L, hT, X', hL, e1, e2, hq, st⟩
section
variable {y : MethodName} {bytes cc : ByteArray} {maxL nL mc ms n index : Nat} {ret : Option FieldType} {ws : List Cond} {rm : Room} {Pc : Array Value → State → Prop} {Qc : Array Value → State → Outcome → State → Prop} {XC : String → State → State → Prop} {free : Addr → Prop} {Ts : List Cond} {own C : String} {b : Addr} {As rest : List Value} {g : JFrame}
theorem vx_runVX {hh : List (Nat × Nat × Nat × Nat)} (S : CallFix p m c cc nL s args Ts own) (hM : vx_Met l y ws rm Pc Qc XC mc ms free) (cw : vx_CVW R s args own C index y bytes maxL ret hh ws rm mc ms n) (hp : PreV s H C b Pc As)
    (hg : g.method = m) (hn : As.length = n) (hsize : g.locals.size = nL) (hstack : g.stack = As.reverse ++ .ref b :: rest) (hW : 2 * g.monitorRoom + (rest.map fun v => v.category).sum ≤ 8) (hdg : decode cc g.pc = .ok (.invokevirtual index, 3)) (hf : cells + mc ≤ R.cells ∧ slots + ms ≤ R.slots) :
    vx_Run p l e R s m args below meth c H locs cells slots mc ms g rest (Qc (Value.ref b :: As).toArray) XC free := by
  obtain ⟨⟨hrc, hrs, hfr, hlo, hws, hcw⟩, hcode, hini, hy, hlen, hl, hin, hse⟩ := cw
  have hK : vx_Back l R p e below s args y 3 8 (PreOf R mc ms Pc) (PostOf Qc mc ms free) (vx_Post XC mc ms free) := vx_backW (hh := hh) (bytes := bytes) (maxL := maxL) (ret := ret) hM hp.1 hrc hrs hfr hlo hws hcw (fun a' U hW => word_at hW (Or.inl (by first | rfl | simp [Cond.onTables, Cond.keeps, Cond.steady])) hini)
  obtain ⟨hx, hb, hml, ho, -⟩ := S
  obtain ⟨-, ⟨cellB, hcB, hoB, hclB⟩, hPc⟩ := hp
  intro T hT X
  rcases vx_callVX X hx (C := C) (hh := hh) (bytes := bytes) (maxL := maxL) (ret := ret) ho hl hin hse hcode hy hK (by rw [hT]; exact hcB) hoB hclB hg (hsize.trans hml.symm) (argsL := As) (rest := rest) (fun sig h => hn.trans (hlen sig h)) hstack hW (by rw [hb]; exact hdg)
    (fun vm₁ hW₁ => ⟨hf.1, hf.2, hPc (T.setVm vm₁) hT hW₁⟩) with ⟨v, vm₁, ⟨U', l2, c2, s2⟩, hW₁, X', ⟨g', mk, t, L, e1, e2, hq, h1, hL, h2, h3⟩, st⟩ | ⟨q, vm₁, ⟨U', l2, c2, s2⟩, hW₁, X', ⟨g', mk, t, L, E, ce, e1, e2, hq, hce, hcv, hcl, h1, hL, h2, h3⟩, st⟩
  · dsimp only [Pt.U, Pt.locs, Pt.cells, Pt.slots] at X' e1 e2 h1 h2 h3 st
    subst h1; subst h2; subst h3
    exact Or.inl ⟨v, (T.setVm vm₁).calling g' mk (Value.ref b :: As).toArray, t, U', L, hT, X', hL, e1, e2, hq, st⟩
  · dsimp only [Pt.U, Pt.locs, Pt.cells, Pt.slots] at X' e1 e2 h1 h2 h3 st hcl
    subst h1; subst h2; subst h3
    exact Or.inr ⟨q, (T.setVm vm₁).calling g' mk (Value.ref b :: As).toArray, t, U', L, E, ce, hT, X', hL, e1, e2, hq, hce, hcv, vx_cls hW₁ hcl, st⟩
theorem vx_runSX {hh : List (Nat × Nat × Nat × Nat)} (S : CallFix p m c cc nL s args Ts own) (hM : vx_Met l y ws rm Pc Qc XC mc ms free) (cw : vx_CSW R s args own index y bytes maxL ret hh ws rm mc ms n) (hp : PreS s H Pc As)
    (hg : g.method = m) (hn : As.length = n) (hsize : g.locals.size = nL) (hstack : g.stack = As.reverse ++ rest) (hW : 2 * g.monitorRoom + (rest.map fun v => v.category).sum ≤ 8) (hdg : decode cc g.pc = .ok (.invokestatic index, 3)) (hf : cells + mc ≤ R.cells ∧ slots + ms ≤ R.slots) :
    vx_Run p l e R s m args below meth c H locs cells slots mc ms g rest (Qc As.toArray) XC free := by
  obtain ⟨⟨hrc, hrs, hfr, hlo, hws, hcw⟩, hcode, hini, hy, hlen, hl, hstt⟩ := cw
  have hK : vx_Back l R p e below s args y 3 8 (PreOf R mc ms Pc) (PostOf Qc mc ms free) (vx_Post XC mc ms free) := vx_backW (hh := hh) (bytes := bytes) (maxL := maxL) (ret := ret) hM hp.1 hrc hrs hfr hlo hws hcw (fun a' U hW => word_at hW (Or.inl (by first | rfl | simp [Cond.onTables, Cond.keeps, Cond.steady])) hini)
  obtain ⟨hx, hb, hml, ho, -⟩ := S
  intro T hT X
  rcases vx_callSX X hx (hh := hh) (bytes := bytes) (maxL := maxL) (ret := ret) ho hl hstt hini hcode hy hK hg (hsize.trans hml.symm) (argsL := As) (rest := rest) (fun sig h => hn.trans (hlen sig h)) hstack hW (by rw [hb]; exact hdg)
    (fun vm₁ hW₁ => ⟨hf.1, hf.2, hp.2 (T.setVm vm₁) hT hW₁⟩) with ⟨v, vm₁, ⟨U', l2, c2, s2⟩, hW₁, X', ⟨g', mk, t, L, e1, e2, hq, h1, hL, h2, h3⟩, st⟩ | ⟨q, vm₁, ⟨U', l2, c2, s2⟩, hW₁, X', ⟨g', mk, t, L, E, ce, e1, e2, hq, hce, hcv, hcl, h1, hL, h2, h3⟩, st⟩
  · dsimp only [Pt.U, Pt.locs, Pt.cells, Pt.slots] at X' e1 e2 h1 h2 h3 st
    subst h1; subst h2; subst h3
    exact Or.inl ⟨v, (T.setVm vm₁).calling g' mk As.toArray, t, U', L, hT, X', hL, e1, e2, hq, st⟩
  · dsimp only [Pt.U, Pt.locs, Pt.cells, Pt.slots] at X' e1 e2 h1 h2 h3 st hcl
    subst h1; subst h2; subst h3
    exact Or.inr ⟨q, (T.setVm vm₁).calling g' mk As.toArray, t, U', L, E, ce, hT, X', hL, e1, e2, hq, hce, hcv, vx_cls hW₁ hcl, st⟩
end
end VXH
theorem vx_ofWH {l : Launch} {y : MethodName} {ws ws' : List Cond} {rm : Room} {Pc : Array Value → State → Prop} {Qc : Array Value → State → Outcome → State → Prop} {XC : String → State → State → Prop} {mc ms : Nat} {free : Addr → Prop} {cc : ByteArray} {maxL : Nat} {ret : Option FieldType} {hh : List (Nat × Nat × Nat × Nat)}
    (hy : plainName y.cls = true) (hw : ws = Cond.codeWith y cc maxL ret hh :: ws')
    (body : ∀ p e s m args below meth c s₁, BodyLoose p l y (headSpec ws rm) cc maxL ret e s m args below meth c s₁ → c.maxLocals = maxL → Pc args s →
      W p l e (headSpec ws rm).room s m args below meth c s.heap [] 0 0 (vx_MQ below Qc XC args s mc ms free) (entryFrame m args maxL)) : vx_Met l y ws rm Pc Qc XC mc ms free := by
  refine MetFree.of_bodyS (code := cc) (maxLocals := maxL) (ret := ret) hy ?_ ?_
  · intro args s m h hn
    obtain ⟨m9, meth, c, hn9, h1, h2, h3, h4, -, h5, h6, -⟩ := Cond.codeWith_spec (atoms_spec (ws := ws) h _ (by rw [hw]; exact List.mem_cons_self))
    cases hn.symm.trans hn9
    exact ⟨meth, c, h1, h2, h3, h4, h5, h6⟩
  · intro p e s m args below meth c s₁ B hml hP _
    have hh0 : s₁.heap = s.heap := by rw [B.state]; rfl
    obtain ⟨t, a1, o, b1, b2, b3⟩ := body p e s m args below meth c s₁ B hml hP s₁ hh0 (Stand.of_body B)
    exact ⟨t, o, a1, b1, b2, b3⟩
/-! ===== END ===== -/
/-! ===== BEGIN what the machine throws by itself, no traces kept ===== -/
section VXM
set_option maxHeartbeats 1000000 in
/-- the machine throws cls with the message text, no traces kept: from its note over the frame g to 'throwing' over the same frame (follows the proofs of Stand.vmThrowsMessage, Shelf/KitTracedVmS.lean, and Stand.throwsMessageColdBareV, StandMessageColdV.lean, without the step out of the frame) -/
theorem vx_vmAt {p : Program} {l : Launch} {e : Env} {R : Room} {s : State} {m₀ : MethodId} {args : Array Value} {below : List Frame} {meth : Method} {c : Code} {W : State} {locs : List Loc} {cells slots : Nat}
    (X : Stand p l e R s m₀ args below meth c W locs cells slots) (hexec : p.tables.exec = Jvm.exec) (htr : e.platform.stackTraces = false) {cls : String} {names : List String} {text : String}
    (hcls : Bundle.fit cls = true) (hnames : ∀ n ∈ names, Bundle.fit n = true) (hsoe : (cls == "java/lang/StackOverflowError") = false) (hoom : (cls == "java/lang/OutOfMemoryError") = false)
    (h : ∀ a ∈ Bundle.messageArmAtoms cls names, a.before args s = true)
    (hlocs : ∀ x ∈ locs, ∀ cell, s.heap[x.base]? = some cell → cell.vm.isStatics = false)
    (htext : (text == notModelled) = false) (hlimit : ¬ (stringBytes (stringToUtf16 text)).size > e.platform.arrayLengthLimit) (hheap : ¬ (stringBytes (stringToUtf16 text)).size * componentBytes .byte > e.platform.maxHeapBytes)
    {g : JFrame} (hg : g.method = m₀) (hsize : g.locals.size = c.maxLocals)
    (hRframes : names.length + 4 < R.frames) (hRlocals : 2 * g.monitorRoom + (g.stack.map fun v => v.category).sum + 10240 ≤ R.locals) (hshort : 13 * names.length + 55 ≤ 10240)
    (hRcells : cells + 3 ≤ R.cells) (hRslots : slots + ((stringBytes (stringToUtf16 text)).size + 4 + 6) ≤ R.slots) (hlocks : meth.locks = false) :
    ∃ (S : State) (q : Addr) (ce : Cell), (∀ target, Steps p.tables e below ((S.setTop g).pushFrame (.throwing q)) target → Steps p.tables e below ((W.setTop g).pushFrame (.throwNew cls (some text) none)) target) ∧
      Stand p l e R s m₀ args below meth c S locs (cells + 3) (slots + ((stringBytes (stringToUtf16 text)).size + 4 + 6)) ∧ S.heap[q]? = some ce ∧ s.vm.findClass cls = some ce.cls ∧ ce.vm = .none := by
  have howns : e.platform.frameOwnsMonitors = true := by rw [X.admits.platform]
  have hfin : e.platform.finalization = false := by rw [X.admits.platform]
  have hpl : e.platform.magicAccessors = ({} : Platform).magicAccessors := by rw [X.admits.platform]
  have a : ∀ x, x ∈ Bundle.messageArmAtoms cls names → x.holds args s none s [] = true := fun x hx => h x hx
  obtain ⟨T, Z0, L, -, Y⟩ := ThrowableC.of_atoms (args := args) howns hfin hpl (fun x hx => h x (by simp [Bundle.messageArmAtoms, hx]))
  obtain ⟨Z, M, LZ, LM, hnZ⟩ := Init0T.ofS_atoms (args := args) hpl L Y (fun x hx => h x (by simp [Bundle.messageArmAtoms, hx]))
  obtain ⟨P1, Ps, hlen, L1, hL, hP1m, hlink1, hlink⟩ := Bundle.chainS (args := args) hpl hnZ names cls hcls hnames (fun x hx => h x (by simp [Bundle.messageArmAtoms, hx]))
  obtain ⟨Zs, LZs, hn4, hfitv, hfitc⟩ := StringT.of_atoms (args := args) (fun x hx => h x (by simp [Bundle.messageArmAtoms, hx]))
  have hfound : s.vm.findClass cls = some P1.m.cls := findClass_of_methodNamed hP1m
  obtain ⟨c1, kX, hc1, hk, hord, -, -, hn6⟩ := Cond.instantiable_spec (a (.instantiable cls 6) (by simp [Bundle.messageArmAtoms]))
  cases Option.some.inj (hc1.symm.trans hfound)
  have hinit := Cond.initialized_spec hfound hk (a (.initialized cls) (by simp [Bundle.messageArmAtoms]))
  have hctor : kX.findMethod "<init>" "(Ljava/lang/String;)V" = some P1.m.idx := findMethod_of_methodNamed hP1m hk
  have hsel0 : selectMethod e.platform s.vm P1.m.cls T.fill0 = .method T.fill0 := by
    obtain ⟨c2, r2, m2, q1, q2, q3, q4, -⟩ := Cond.selects_spec (a (.selects cls Bundle.tFill0 Bundle.tFill0) (by simp [Bundle.messageArmAtoms]))
    cases Option.some.inj (q1.symm.trans hfound)
    cases Option.some.inj (q2.symm.trans (State.methodFound?_of_named Y.fill0 (by decide)))
    cases Option.some.inj (q3.symm.trans Y.fill0)
    rw [Launch.admits_selectMethod X.admits]; exact q4
  have hselF : selectMethod e.platform s.vm P1.m.cls T.fill = .method T.fill := by
    obtain ⟨c2, r2, m2, q1, q2, q3, q4, -⟩ := Cond.selects_spec (a (.selects cls Bundle.tFill Bundle.tFill) (by simp [Bundle.messageArmAtoms]))
    cases Option.some.inj (q1.symm.trans hfound)
    cases Option.some.inj (q2.symm.trans (State.methodFound?_of_named Y.fill (by decide)))
    cases Option.some.inj (q3.symm.trans Y.fill)
    rw [Launch.admits_selectMethod X.admits]; exact q4
  obtain ⟨cellS0, hcS0, hiss⟩ := Y.statics
  obtain ⟨u0, hu0⟩ := Cond.staticRefV Y.unassigned L.unassignedStatic L.statics hcS0 hiss (a (.isRef (.static Bundle.tN "UNASSIGNED_STACK" Bundle.steD)) (by simp [Bundle.messageArmAtoms]))
  obtain ⟨sen, hsen⟩ := Cond.staticRefV Y.sentinel L.sentinelStatic L.statics hcS0 hiss (a (.isRef (.static Bundle.tN "SUPPRESSED_SENTINEL" Bundle.listD)) (by simp [Bundle.messageArmAtoms]))
  obtain ⟨ci198, i198, fB, hk198, hg198, ha198, hsB, -, hnB, htB, hffB⟩ := Cond.ownField (t := .object "java/lang/Object") Y.found L.cls (by decide +kernel) (a (.fieldLink Bundle.tN 198 Bundle.tN "backtrace" "Ljava/lang/Object;") (by simp [Bundle.messageArmAtoms])) (a (.lays Bundle.tN Bundle.tN "backtrace" "Ljava/lang/Object;") (by simp [Bundle.messageArmAtoms])) e.platform hpl
  obtain ⟨cellS, hcS', heS, -, hkeep⟩ := X.same.2.2.2.2.2 T.aS cellS0 hcS0
  have hcellS : W.heap[T.aS]? = some cellS := hcS'
  have hout' : ∀ i, (⟨T.aS, i⟩ : Loc) ∉ locs := fun i hmem => by
    have := hlocs _ hmem cellS0 hcS0
    rw [hiss] at this; cases this
  have hknownS : cellS.vm ≠ .unknown := by
    rw [heS]; intro hu
    rw [show cellS0.vm = .unknown from hu] at hiss
    cases hiss
  have hvU : cellS.slots[T.fUnassigned.slot]? = some u0.v := by rw [hkeep _ (hout' _)]; exact hu0
  have hvSen : cellS.slots[T.fSentinel.slot]? = some sen.v := by rw [hkeep _ (hout' _)]; exact hsen
  obtain ⟨iM, hffM⟩ := Y.msg
  obtain ⟨tyC, dC, hdC, hdnC⟩ := Cond.laysAt hfound hk Y.cause (a (.lays cls Bundle.tN "cause" "Ljava/lang/Throwable;") (by simp [Bundle.messageArmAtoms]))
  obtain ⟨tyS, dS, hdS, hdnS⟩ := Cond.laysAt hfound hk Y.stack (a (.lays cls Bundle.tN "stackTrace" Bundle.steD) (by simp [Bundle.messageArmAtoms]))
  obtain ⟨tyP, dP, hdP, hdnP⟩ := Cond.laysAt hfound hk Y.supp (a (.lays cls Bundle.tN "suppressedExceptions" Bundle.listD) (by simp [Bundle.messageArmAtoms]))
  obtain ⟨tyM, dM, hdM, hdnM⟩ := Cond.laysAt hfound hk hffM (a (.lays cls Bundle.tN "detailMessage" "Ljava/lang/String;") (by simp [Bundle.messageArmAtoms]))
  obtain ⟨tyB, dB, hdB, hdnB⟩ := Cond.laysAt hfound hk hffB (a (.lays cls Bundle.tN "backtrace" "Ljava/lang/Object;") (by simp [Bundle.messageArmAtoms]))
  have bC := Cond.laysApart hdB hdC hdnB hdnC (by rw [hnB, Y.causeName]; decide)
  have bS := Cond.laysApart hdB hdS hdnB hdnS (by rw [hnB, Y.stackName]; decide)
  have bP := Cond.laysApart hdB hdP hdnB hdnP (by rw [hnB, Y.suppName]; decide)
  have hbk : ((preparedCellV T.toThrowableT (freshCell P1.m.cls kX) (W.heap.size + 2) u0 sen).withEntry W.cur).slots[fB.slot]? = some .null := by
    have := fresh_default (c := P1.m.cls) tyB
    rw [htB] at this
    simpa [preparedCellV, Cell.setSlot, Cell.withEntry, Array.getElem?_setIfInBounds, bC, bS, bP, bC.symm, bS.symm, bP.symm, defaultValue] using this
  have tkC := Takes.of_laid (v := .ref (W.heap.size + 2)) hk hord tyC (by rw [Y.causeType]; rfl)
  have tkS := Takes.of_laid (v := u0.v) hk hord tyS (by rw [Y.stackType]; exact fits_refV_array _ u0)
  have tkP := Takes.of_laid (v := sen.v) hk hord tyP (by rw [Y.suppType]; exact fits_refV_object _ sen)
  have tkM := Takes.of_laid (v := .ref (W.heap.size + 1)) hk hord tyM (by rw [Y.msgType]; rfl)
  have hskip : SkipFacts T e.platform s (fun u => u) u0 ((preparedCellV T.toThrowableT (freshCell P1.m.cls kX) (W.heap.size + 2) u0 sen).withEntry W.cur) := ⟨{ ci198 := ci198, i198 := i198, fBack := fB }, ⟨hk198, hg198, ha198, hsB⟩, hbk, fun _ _ => rfl⟩
  have h0 : At W g.method c below := by rw [hg]; exact X.here
  obtain ⟨hbeyond, hfreeW⟩ := X.vmMayThrow hsize (.throwNew cls (some text) none) (fun f hf => by cases hf) rfl hRlocals
  have hfr' : W.frames.length + Ps.length + 4 < (e.platform.stackLimits W.me).1 := by have := X.framesAbove hRframes; omega
  have hwd' : (stackUse (.java g :: W.frames.tail)).2 + 13 * Ps.length + 55 ≤ (e.platform.stackLimits W.me).2 := by have := X.stackAbove hsize (K := 13 * Ps.length + 55) (by omega); omega
  have hslots : W.slotsUsed + (stringBytes (stringToUtf16 text)).size + Zs.kS.instanceTypes.size + kX.instanceTypes.size ≤ e.platform.maxSlots := by
    have := X.slotsAbove hRslots
    rw [hn4, hn6]
    omega
  obtain ⟨vm', hW', st⟩ := Steps.vmThrowsMessageColdByV p (s₀ := s) (S := W) (g := g) h0 hexec T L Z LZ M LM X.warmed (t := W.cur) rfl Zs LZs P1 L1 Ps hL hlink1 hlink hsoe hoom hfound hk hinit hord hctor
    (Launch.admits_hotImplicitExceptions X.admits) hbeyond hfreeW htext hlimit hheap (X.cellsAbove hRcells) hslots (hfitv _) (hfitc _)
    (Nn := fun u => u) heapOnly_id (fun _ _ => rfl) (fun _ => rfl) (fun u x y => setCell_twice _ _ _ _) (fun _ => Nat.le_refl _) (cN := ((preparedCellV T.toThrowableT (freshCell P1.m.cls kX) (W.heap.size + 2) u0 sen).withEntry W.cur))
    hsel0 hcellS hknownS hvU tkS (fun _ hu => hu) (fun _ hu => hu) rfl rfl rfl (by simp [preparedCellV, Cell.setSlot, Cell.withEntry]) hskip (fun _ _ hA hW _ hroom _ hrest => L.nativeOff p htr hA hW hroom hrest) hselF hvSen tkC tkP tkM Y.objLocals rfl hfr' hwd'
  rw [plainBareV_eq T.toThrowableT (W.heap.size + 2) u0 sen (.ref (W.heap.size + 1)) W.cur rfl rfl] at st
  obtain ⟨-, -, w3, w4, -, -, -⟩ := withThrown_facts e.platform W Zs text P1.m.cls kX
  have X3 := ((X.pushed (bytesOf Zs.cB (stringToUtf16 text))).pushed (stringAt Zs.cS Zs.kS Zs.fv Zs.fc (stringToUtf16 text) W.heap.size)).pushed (freshCell P1.m.cls kX)
  rw [← withString_eq] at X3
  have X4 := X3.noted hW'
  have ha : (W.heap.size + 2) < ((withThrown W Zs text P1.m.cls kX).setVm vm').heap.size := by show _ < (withThrown W Zs text P1.m.cls kX).heap.size; rw [w3]; omega
  have hcell : ((withThrown W Zs text P1.m.cls kX).setVm vm').heap[(W.heap.size + 2)]? = some (freshCell P1.m.cls kX) := w4
  have X5 := ((((X4.stored hcell T.fCause.slot (.ref (W.heap.size + 2))).storedAgain ha T.fStack.slot u0.v).storedAgain ha T.fSupp.slot sen.v).storedAgain ha T.fStack.slot u0.v).storedAgain ha T.fMsg.slot (.ref (W.heap.size + 1))
  obtain ⟨g₁, hfrM⟩ := X5.frames_eq
  have hU : ((((withThrown W Zs text P1.m.cls kX).setVm vm').setCell (W.heap.size + 2) (plainBareV T.toThrowableT (freshCell P1.m.cls kX) (W.heap.size + 2) u0 sen (.ref (W.heap.size + 1)))).setTop g).pushFrame (.throwing (W.heap.size + 2)) = (((withThrown W Zs text P1.m.cls kX).setVm vm').setCell (W.heap.size + 2) (plainBareV T.toThrowableT (freshCell P1.m.cls kX) (W.heap.size + 2) u0 sen (.ref (W.heap.size + 1)))).setFrames (.throwing (W.heap.size + 2) :: .java g :: below) := by
    rw [State.pushFrame, State.frames_setTop _ hfrM, State.setTop_of_frames _ hfrM, State.setFrames_setFrames]
  have b1 : (bytesOf Zs.cB (stringToUtf16 text)).slots.size = (stringBytes (stringToUtf16 text)).size := by
    rw [(Cell.writeAll_facts _ _).2.2]; simp [bytes0]
  have b2 : (stringAt Zs.cS Zs.kS Zs.fv Zs.fc (stringToUtf16 text) W.heap.size).slots.size = 4 := by simp [string0, Cell.setSlot, hn4]
  have b3 : (freshCell P1.m.cls kX).slots.size = 6 := by simp [hn6]
  rw [b1, b2, b3] at X5
  have e9 : slots + (stringBytes (stringToUtf16 text)).size + 4 + 6 = slots + ((stringBytes (stringToUtf16 text)).size + 4 + 6) := by omega
  rw [e9] at X5
  simp only [List.append_assoc, List.cons_append, List.nil_append] at X5
  refine ⟨((withThrown W Zs text P1.m.cls kX).setVm vm').setCell (W.heap.size + 2) (plainBareV T.toThrowableT (freshCell P1.m.cls kX) (W.heap.size + 2) u0 sen (.ref (W.heap.size + 1))), W.heap.size + 2, _, fun target ht => st _ (by rw [X.tail, ← hU]; exact ht),
    X5.forget (fun y hy => ?_), heapAt_setCell_self _ ha, hfound, rfl⟩
  simp only [List.mem_cons, List.not_mem_nil, or_false] at hy
  have hge : s.heap.size ≤ W.heap.size := X.same.2.1
  rcases hy with rfl | rfl | rfl | rfl | rfl <;> exact Nat.le_trans hge (Nat.le_add_right _ 2)
set_option maxHeartbeats 1000000 in
/-- the machine throws NullPointerException, no traces kept: from its note over the frame g to 'throwing' over the same frame (follows the proof of Stand.vmThrowsNpe, Shelf42/KT2.lean; throwsNpeColdBareVAt, Shelf42/NT91.lean, called) -/
theorem vx_npeAt {p : Program} {l : Launch} {e : Env} {R : Room} {s : State} {m₀ : MethodId} {args : Array Value} {below : List Frame} {meth : Method} {c : Code} {W : State} {locs : List Loc} {cells slots : Nat}
    (X : Stand p l e R s m₀ args below meth c W locs cells slots) (hexec : p.tables.exec = Jvm.exec) (htr : e.platform.stackTraces = false) {n : Nat}
    (h : ∀ a ∈ Bundle.npeArmAtoms n, a.before args s = true)
    (hlocs : ∀ x ∈ locs, ∀ cell, s.heap[x.base]? = some cell → cell.vm.isStatics = false)
    {g : JFrame} (hg : g.method = m₀) (hsize : g.locals.size = c.maxLocals)
    (hRframes : 7 < R.frames) (hRlocals : 2 * g.monitorRoom + (g.stack.map fun v => v.category).sum + 10240 ≤ R.locals)
    (hRcells : cells + 1 ≤ R.cells) (hRslots : slots + n ≤ R.slots) (hlocks : meth.locks = false) :
    ∃ (S : State) (q : Addr) (ce : Cell), (∀ target, Steps p.tables e below ((S.setTop g).pushFrame (.throwing q)) target → Steps p.tables e below ((W.setTop g).pushFrame (.throwNew "java/lang/NullPointerException" none none)) target) ∧
      Stand p l e R s m₀ args below meth c S locs (cells + 1) (slots + n) ∧ S.heap[q]? = some ce ∧ s.vm.findClass "java/lang/NullPointerException" = some ce.cls ∧ ce.vm = .none := by
  have howns : e.platform.frameOwnsMonitors = true := by rw [X.admits.platform]
  have hfin : e.platform.finalization = false := by rw [X.admits.platform]
  have hpl : e.platform.magicAccessors = ({} : Platform).magicAccessors := by rw [X.admits.platform]
  have hpl2 : e.platform.arrayCloneIsPublic = true := by rw [X.admits.platform]
  have a' : ∀ x, x ∈ Bundle.npeArmAtoms n → x.holds args s none s [] = true := fun x hx => h x hx
  obtain ⟨T, Z, L, LZ, Y⟩ := ThrowableC.of_atoms (args := args) howns hfin hpl (fun x hx => h x (by simp [Bundle.npeArmAtoms, hx]))
  obtain ⟨N, LN, hcN, hnNF, hordN, hffS⟩ := NpeC.of_atoms (args := args) hpl hpl2 L Y (fun x hx => h x (by simp [Bundle.npeArmAtoms, hx]))
  obtain ⟨P1, L1, hP1m, hP1s⟩ := PassC.of_atoms (args := args) (s := s) hpl (X := Bundle.nN) (Y := Bundle.rN) (by decide) (by decide) LibCode.NullPointerException.Init0.at_0 LibCode.NullPointerException.Init0.at_1 LibCode.NullPointerException.Init0.at_4 (fun x hx => h x (by simp [Bundle.npeArmAtoms, hx]))
  obtain ⟨PR, LR, hPRm, hPRs⟩ := PassC.of_atoms (args := args) (s := s) hpl (X := Bundle.rN) (Y := Bundle.eN) (by decide) (by decide) LibCode.RuntimeException.Init0.at_0 LibCode.RuntimeException.Init0.at_1 LibCode.RuntimeException.Init0.at_4 (fun x hx => h x (by simp [Bundle.npeArmAtoms, hx]))
  obtain ⟨PE, LEx, hPEm, hPEs⟩ := PassC.of_atoms (args := args) (s := s) hpl (X := Bundle.eN) (Y := Bundle.tN) (by decide) (by decide) LibCode.Exception.Init0.at_0 LibCode.Exception.Init0.at_1 LibCode.Exception.Init0.at_4 (fun x hx => h x (by simp [Bundle.npeArmAtoms, hx]))
  have hfound : s.vm.findClass Bundle.nN = some P1.m.cls := findClass_of_methodNamed hP1m
  have ecls : N.cN = P1.m.cls := Option.some.inj (hcN.symm.trans hfound)
  have hk : s.vm.classes[P1.m.cls]? = some N.kN := by rw [← ecls]; exact LN.cls
  have hinit := Cond.initialized_spec hfound hk (a' (.initialized Bundle.nN) (by simp [Bundle.npeArmAtoms]))
  have hctor : N.kN.findMethod "<init>" "()V" = some P1.m.idx := findMethod_of_methodNamed hP1m hk
  obtain ⟨c1, k1, hc1, hk1, -, -, -, hn⟩ := Cond.instantiable_spec (a' (.instantiable Bundle.nN n) (by simp [Bundle.npeArmAtoms]))
  cases Option.some.inj (hc1.symm.trans hfound)
  cases Option.some.inj (hk1.symm.trans hk)
  have hfsz : (freshCell P1.m.cls N.kN).slots.size = n := by simp [hn]
  have hlink1 : P1.sup = PR.m := Option.some.inj (hP1s.symm.trans hPRm)
  have hlinkR : PR.sup = PE.m := Option.some.inj (hPRs.symm.trans hPEm)
  have hlinkE : PE.sup = Z.m T.toThrowableT := Option.some.inj (hPEs.symm.trans Y.init0)
  have hLs : ∀ P, P ∈ [PR, PE] → P.Links0 e.platform s := fun P hP => by
    simp only [List.mem_cons, List.not_mem_nil, or_false] at hP
    rcases hP with rfl | rfl
    · exact LR
    · exact LEx
  have hsel0 : selectMethod e.platform s.vm P1.m.cls T.fill0 = .method T.fill0 := by
    obtain ⟨c2, r2, m2, q1, q2, q3, q4, -⟩ := Cond.selects_spec (a' (.selects Bundle.nN Bundle.tFill0 Bundle.tFill0) (by simp [Bundle.npeArmAtoms]))
    cases Option.some.inj (q1.symm.trans hfound)
    cases Option.some.inj (q2.symm.trans (State.methodFound?_of_named Y.fill0 (by decide)))
    cases Option.some.inj (q3.symm.trans Y.fill0)
    rw [Launch.admits_selectMethod X.admits]; exact q4
  have hselF : selectMethod e.platform s.vm P1.m.cls T.fill = .method N.fill := by
    obtain ⟨c2, r2, m2, q1, q2, q3, q4, -⟩ := Cond.selects_spec (a' (.selects Bundle.nN Bundle.tFill Bundle.nFill) (by simp [Bundle.npeArmAtoms]))
    cases Option.some.inj (q1.symm.trans hfound)
    cases Option.some.inj (q2.symm.trans (State.methodFound?_of_named Y.fill (by decide)))
    cases Option.some.inj (q3.symm.trans hnNF)
    rw [Launch.admits_selectMethod X.admits]; exact q4
  obtain ⟨cellS0, hcS0, hiss⟩ := Y.statics
  obtain ⟨u0, hu0⟩ := Cond.staticRefV Y.unassigned L.unassignedStatic L.statics hcS0 hiss (a' (.isRef (.static Bundle.tN "UNASSIGNED_STACK" Bundle.steD)) (by simp [Bundle.npeArmAtoms]))
  obtain ⟨sen, hsen⟩ := Cond.staticRefV Y.sentinel L.sentinelStatic L.statics hcS0 hiss (a' (.isRef (.static Bundle.tN "SUPPRESSED_SENTINEL" Bundle.listD)) (by simp [Bundle.npeArmAtoms]))
  obtain ⟨ci198, i198, fB, hk198, hg198, ha198, hsB, -, hnB, htB, hffB⟩ := Cond.ownField (t := .object "java/lang/Object") Y.found L.cls (by decide +kernel) (a' (.fieldLink Bundle.tN 198 Bundle.tN "backtrace" Bundle.objD) (by simp [Bundle.npeArmAtoms])) (a' (.lays Bundle.tN Bundle.tN "backtrace" Bundle.objD) (by simp [Bundle.npeArmAtoms])) e.platform hpl
  obtain ⟨cellS, hcS', heS, -, hkeep⟩ := X.same.2.2.2.2.2 T.aS cellS0 hcS0
  have hcellS : W.heap[T.aS]? = some cellS := hcS'
  have hout' : ∀ i, (⟨T.aS, i⟩ : Loc) ∉ locs := fun i hmem => by
    have := hlocs _ hmem cellS0 hcS0
    rw [hiss] at this; cases this
  have hknownS : cellS.vm ≠ .unknown := by
    rw [heS]; intro hu
    rw [show cellS0.vm = .unknown from hu] at hiss
    cases hiss
  have hvU : cellS.slots[T.fUnassigned.slot]? = some u0.v := by rw [hkeep _ (hout' _)]; exact hu0
  have hvSen : cellS.slots[T.fSentinel.slot]? = some sen.v := by rw [hkeep _ (hout' _)]; exact hsen
  obtain ⟨tyC, dC, hdC, hdnC⟩ := Cond.laysAt hfound hk Y.cause (a' (.lays Bundle.nN Bundle.tN "cause" "Ljava/lang/Throwable;") (by simp [Bundle.npeArmAtoms]))
  obtain ⟨tyS, dS, hdS, hdnS⟩ := Cond.laysAt hfound hk Y.stack (a' (.lays Bundle.nN Bundle.tN "stackTrace" Bundle.steD) (by simp [Bundle.npeArmAtoms]))
  obtain ⟨tyP, dP, hdP, hdnP⟩ := Cond.laysAt hfound hk Y.supp (a' (.lays Bundle.nN Bundle.tN "suppressedExceptions" Bundle.listD) (by simp [Bundle.npeArmAtoms]))
  obtain ⟨tyX, dX, hdX, hdnX⟩ := Cond.laysAt hfound hk hffS (a' (.lays Bundle.nN Bundle.nN "extendedMessageState" "I") (by simp [Bundle.npeArmAtoms, Bundle.npeAtoms]))
  obtain ⟨hnX, htX⟩ := State.fieldFound?_type hffS (t := .int) (by decide +kernel)
  have xC := Cond.laysApart hdC hdX hdnC hdnX (by rw [hnX, Y.causeName]; decide)
  have xS := Cond.laysApart hdS hdX hdnS hdnX (by rw [hnX, Y.stackName]; decide)
  have xP := Cond.laysApart hdP hdX hdnP hdnX (by rw [hnX, Y.suppName]; decide)
  have hv0 : (freshCell P1.m.cls N.kN).slots[N.fState.slot]? = some (.int 0) := by
    have := fresh_default (c := P1.m.cls) tyX
    rw [htX] at this; exact this
  obtain ⟨tyB, dB, hdB, hdnB⟩ := Cond.laysAt hfound hk hffB (a' (.lays Bundle.nN Bundle.tN "backtrace" Bundle.objD) (by simp [Bundle.npeArmAtoms]))
  have bC := Cond.laysApart hdB hdC hdnB hdnC (by rw [hnB, Y.causeName]; decide)
  have bS := Cond.laysApart hdB hdS hdnB hdnS (by rw [hnB, Y.stackName]; decide)
  have bP := Cond.laysApart hdB hdP hdnB hdnP (by rw [hnB, Y.suppName]; decide)
  have bX := Cond.laysApart hdB hdX hdnB hdnX (by rw [hnB, hnX]; decide)
  have hbk : ((npeCell N.toNpeT (preparedCellV T.toThrowableT (freshCell P1.m.cls N.kN) W.heap.size u0 sen) W.cur).withEntry W.cur).slots[fB.slot]? = some .null := by
    have := fresh_default (c := P1.m.cls) tyB
    rw [htB] at this
    simpa [npeCell, preparedCellV, Cell.setSlot, Cell.withEntry, Array.getElem?_setIfInBounds, bC, bS, bP, bX, bC.symm, bS.symm, bP.symm, bX.symm, defaultValue] using this
  have tkC := Takes.of_laid (v := .ref W.heap.size) hk hordN tyC (by rw [Y.causeType]; rfl)
  have tkS := Takes.of_laid (v := u0.v) hk hordN tyS (by rw [Y.stackType]; exact fits_refV_array _ u0)
  have tkP := Takes.of_laid (v := sen.v) hk hordN tyP (by rw [Y.suppType]; exact fits_refV_object _ sen)
  have tkX := Takes.of_laid (v := .int 1) hk hordN tyX (by rw [htX]; rfl)
  have hskip : SkipFacts T e.platform s (fun u => u) u0 ((npeCell N.toNpeT (preparedCellV T.toThrowableT (freshCell P1.m.cls N.kN) W.heap.size u0 sen) W.cur).withEntry W.cur) := ⟨{ ci198 := ci198, i198 := i198, fBack := fB }, ⟨hk198, hg198, ha198, hsB⟩, hbk, fun _ _ => rfl⟩
  obtain ⟨vm', X3, st, -⟩ := X.throwsNpeColdBareVAt hexec hg hsize T L Z LZ N LN P1 L1 [PR, PE] hLs hlink1 ⟨hlinkR, hlinkE, trivial⟩ hfound hk hinit hordN hctor hsel0 hselF hcellS hknownS hvU hvSen
    hv0 xC xS xP tkC tkS tkP tkX Y.objLocals hskip (fun _ _ hA hW _ hroom _ hrest => L.nativeOff p htr hA hW hroom hrest) (by simpa using hRframes) hRlocals (by simp) hRcells (by rw [hn]; exact hRslots)
  have hlt : W.heap.size < ((W.pushCell (freshCell P1.m.cls N.kN)).setVm vm').heap.size := by
    show W.heap.size < (W.pushCell (freshCell P1.m.cls N.kN)).heap.size
    rw [State.heap_size_pushCell]; omega
  rw [hfsz] at X3
  obtain ⟨g₁, hfrM⟩ := X3.frames_eq
  have hU : ((((W.pushCell (freshCell P1.m.cls N.kN)).setVm vm').setCell W.heap.size (npeBareV T.toThrowableT N.toNpeT (freshCell P1.m.cls N.kN) W.heap.size u0 sen)).setTop g).pushFrame (.throwing W.heap.size) = (((W.pushCell (freshCell P1.m.cls N.kN)).setVm vm').setCell W.heap.size (npeBareV T.toThrowableT N.toNpeT (freshCell P1.m.cls N.kN) W.heap.size u0 sen)).setFrames (.throwing W.heap.size :: .java g :: below) := by
    rw [State.pushFrame, State.frames_setTop _ hfrM, State.setTop_of_frames _ hfrM, State.setFrames_setFrames]
  refine ⟨_, W.heap.size, _, fun target ht => st.trans (by rw [← hU]; exact ht), X3.forget (fun y hy => ?_), heapAt_setCell_self _ hlt, hfound, rfl⟩
  simp only [List.mem_cons, List.not_mem_nil, or_false] at hy
  have hge : s.heap.size ≤ W.heap.size := X.same.2.1
  rcases hy with rfl | rfl | rfl | rfl | rfl <;> exact hge
/-- the words of a machine's NullPointerException, but the four that speak of the heap -/
def vx_atN (n : Nat) : List Cond := (Bundle.npeArmAtoms n).filter vx_no
/-- the words of a machine's throw with a message, but the four that speak of the heap -/
def vx_atM (X : String) (names : List String) : List Cond := (Bundle.messageArmAtoms X names).filter vx_no
section
variable {p : Program} {l : Launch} {e : Env} {R : Room} {s : State} {m : MethodId} {args : Array Value} {below : List Frame} {meth : Method} {c : Code} {H : Heap} {locs : List Loc} {cells slots : Nat}
/-- a frame seen from a rebased start, seen from the first start again -/
theorem vx_back9 {T S : State} {R' : Room} {k n : Nat} (X : Stand p l e R s m args below meth c T locs cells slots) (Y : Stand p l e R' ((T.setVm s.vm).setFrames (.invoking m args :: below)) m args below meth c T [] 0 0) (Z : Stand p l e R' ((T.setVm s.vm).setFrames (.invoking m args :: below)) m args below meth c S [] k n) :
    Stand p l e R s m args below meth c S locs (cells + k) (slots + n) := by
  have hW0 : s.WarmedH ((T.setVm s.vm).setFrames (.invoking m args :: below)).vm := State.WarmedH.refl s
  refine { admits := X.admits, cas := X.cas, clock := X.clock, frames := X.frames, room := X.room, hears := X.hears, method := X.method, code := X.code, here := Z.here, tail := Z.tail, warmed := State.WarmedH.trans hW0 Z.warmed, limits := Z.limits.trans (Y.limits.symm.trans X.limits), bytes := Z.bytes.trans (Y.bytes.symm.trans X.bytes), same := ?_ }
  obtain ⟨e1, e2⟩ := Z.same
  rw [State.setFrames_setFrames] at e1
  have h2 : (T.setVm s.vm).sameButNew (S.setVm s.vm) [] k n := ⟨e1, e2⟩
  have h3 := X.same.trans h2
  rw [List.append_nil] at h3
  exact h3
/-- from the machine's note that E is thrown here with this text -/
def vx_Note (p : Program) (l : Launch) (e : Env) (R : Room) (s : State) (m : MethodId) (args : Array Value) (below : List Frame) (meth : Method) (c : Code) (H : Heap) (locs : List Loc) (cells slots : Nat) (Q : State → Prop) (g : JFrame) (E text : String) : Prop :=
  ∀ T : State, T.heap = H → Stand p l e R s m args below meth c T locs cells slots → ∃ t, Steps p.tables e below ((T.setTop g).pushFrame (.throwNew E (some text) none)) t ∧ Q t
theorem vx_vm {pc : Nat} {ls : Array Slot} {rest : List Value} {Q : State → Prop} (hexec : p.tables.exec = Jvm.exec) (hl : l.stackTraces = false) {cls text : String} {names : List String} {nb : Nat} {A : Nat → Prop}
    (hcls : Bundle.fit cls = true) (hnames : ∀ n ∈ names, Bundle.fit n = true) (hsoe : (cls == "java/lang/StackOverflowError") = false) (hoom : (cls == "java/lang/OutOfMemoryError") = false)
    (hat : ∀ w ∈ vx_atM cls names, w.before args s = true) (hgood : ∀ w ∈ vx_atM cls names, vx_ot w = true)
    (hU : vx_Zq Bundle.tN "UNASSIGNED_STACK" Bundle.steD A s s.heap) (hN : vx_Zq Bundle.tN "SUPPRESSED_SENTINEL" Bundle.listD A s s.heap) (hS : va_S A s.heap H locs) (hsize : ls.size = c.maxLocals)
    (htext : (text == notModelled) = false) (hnb : (stringBytes (stringToUtf16 text)).size ≤ nb) (hnb1 : nb ≤ 1000)
    (hRframes : names.length + 4 < R.frames) (hRlocals : (rest.map fun v => v.category).sum + 10240 ≤ R.locals) (hshort : 13 * names.length + 55 ≤ 10240) (hRcells : cells + 3 ≤ R.cells) (hRslots : slots + (nb + 10) ≤ R.slots) (hlocks : meth.locks = false)
    (k : ∀ (H1 : Heap) (q9 : Addr) (ce : Cell), H.size ≤ H1.size → (∀ q : Nat, q < H.size → H1[q]? = H[q]?) → va_S A s.heap H1 locs → H1[q9]? = some ce → ce.vm = .none → s.vm.findClass cls = some ce.cls → vx_W p l e R s m args below meth c H1 locs (cells + 3) (slots + (nb + 10)) Q (F0 m pc ls rest) q9) :
    vx_Note p l e R s m args below meth c H locs cells slots Q (F0 m pc ls rest) cls text := by
  intro T hT X
  have htr : e.platform.stackTraces = false := (show e.platform.stackTraces = l.stackTraces by rw [X.admits.platform]).trans hl
  have Y := vx_rebase X (R' := { frames := R.frames, locals := R.locals, cells := 3, slots := nb + 10 }) (Nat.le_refl _) (Nat.le_refl _) hRcells hRslots
  have hhp : ((T.setVm s.vm).setFrames (.invoking m args :: below)).heap = H := hT
  have hW0 : s.WarmedH ((T.setVm s.vm).setFrames (.invoking m args :: below)).vm := State.WarmedH.refl s
  have hat' : ∀ w ∈ vx_atM cls names, w.before args ((T.setVm s.vm).setFrames (.invoking m args :: below)) = true := fun w hw => vx_ot_at hW0 rfl (hgood w hw) (hat w hw)
  have hU' : vx_Zq Bundle.tN "UNASSIGNED_STACK" Bundle.steD A ((T.setVm s.vm).setFrames (.invoking m args :: below)) ((T.setVm s.vm).setFrames (.invoking m args :: below)).heap := by rw [hhp]; exact vx_Zq.moved hW0.alike (hU.kept hS.2.1)
  have hN' : vx_Zq Bundle.tN "SUPPRESSED_SENTINEL" Bundle.listD A ((T.setVm s.vm).setFrames (.invoking m args :: below)) ((T.setVm s.vm).setFrames (.invoking m args :: below)).heap := by rw [hhp]; exact vx_Zq.moved hW0.alike (hN.kept hS.2.1)
  obtain ⟨S, q, ce, st, Z, hce, hcl', hv⟩ := vx_vmAt Y hexec htr (cls := cls) (names := names) (text := text) hcls hnames hsoe hoom (vx_own hat' (vx_isRefq hU'.1) (vx_isRefq hN'.1) hU'.2.word hN'.2.word) (fun x hx => nomatch hx) htext
    (by rw [Launch.admits_arrayLengthLimit X.admits]; omega) (by rw [Launch.admits_maxHeapBytes X.admits]; simp only [componentBytes]; omega)
    (g := F0 m pc ls rest) rfl hsize hRframes (by show 2 * 0 + (rest.map fun v => v.category).sum + 10240 ≤ R.locals; omega) hshort (by show 0 + 3 ≤ 3; omega) (by show 0 + (_ + 4 + 6) ≤ nb + 10; omega) hlocks
  obtain ⟨f1, f2⟩ := vx_frame Z.same
  have f1' : H.size ≤ S.heap.size := by rw [← hT]; exact f1
  have f2' : ∀ q : Nat, q < H.size → S.heap[q]? = H[q]? := fun q hq => by
    rw [← hT]
    exact f2 q (by rw [← hT] at hq; exact hq) (fun z hz => nomatch hz)
  have X5 := vx_back9 X Y Z
  have X6 : Stand p l e R s m args below meth c S locs (cells + 3) (slots + (nb + 10)) := { X5 with same := X5.same.mono (by omega) (by omega) }
  obtain ⟨t, a1, b1⟩ := k S.heap q ce f1' f2' ⟨Nat.le_trans hS.1 f1', fun q h1 h2 => (f2' q (Nat.lt_of_lt_of_le h1 hS.1)).trans (hS.2.1 q h1 h2), hS.2.2⟩ hce hv hcl' S rfl X6
  exact ⟨t, st t a1, b1⟩
/-- from the machine's note that NullPointerException is thrown here -/
def vx_NoteN (p : Program) (l : Launch) (e : Env) (R : Room) (s : State) (m : MethodId) (args : Array Value) (below : List Frame) (meth : Method) (c : Code) (H : Heap) (locs : List Loc) (cells slots : Nat) (Q : State → Prop) (g : JFrame) : Prop :=
  ∀ T : State, T.heap = H → Stand p l e R s m args below meth c T locs cells slots → ∃ t, Steps p.tables e below ((T.setTop g).pushFrame (.throwNew "java/lang/NullPointerException" none none)) t ∧ Q t
theorem vx_npe {pc : Nat} {ls : Array Slot} {rest : List Value} {Q : State → Prop} (hexec : p.tables.exec = Jvm.exec) (hl : l.stackTraces = false) {nb : Nat} {A : Nat → Prop}
    (hat : ∀ w ∈ vx_atN nb, w.before args s = true) (hgood : ∀ w ∈ vx_atN nb, vx_ot w = true)
    (hU : vx_Zq Bundle.tN "UNASSIGNED_STACK" Bundle.steD A s s.heap) (hN : vx_Zq Bundle.tN "SUPPRESSED_SENTINEL" Bundle.listD A s s.heap) (hS : va_S A s.heap H locs) (hsize : ls.size = c.maxLocals)
    (hRframes : 7 < R.frames) (hRlocals : (rest.map fun v => v.category).sum + 10240 ≤ R.locals) (hRcells : cells + 1 ≤ R.cells) (hRslots : slots + nb ≤ R.slots) (hlocks : meth.locks = false)
    (k : ∀ (H1 : Heap) (q9 : Addr) (ce : Cell), H.size ≤ H1.size → (∀ q : Nat, q < H.size → H1[q]? = H[q]?) → va_S A s.heap H1 locs → H1[q9]? = some ce → ce.vm = .none → s.vm.findClass "java/lang/NullPointerException" = some ce.cls → vx_W p l e R s m args below meth c H1 locs (cells + 1) (slots + nb) Q (F0 m pc ls rest) q9) :
    vx_NoteN p l e R s m args below meth c H locs cells slots Q (F0 m pc ls rest) := by
  intro T hT X
  have htr : e.platform.stackTraces = false := (show e.platform.stackTraces = l.stackTraces by rw [X.admits.platform]).trans hl
  have Y := vx_rebase X (R' := { frames := R.frames, locals := R.locals, cells := 1, slots := nb }) (Nat.le_refl _) (Nat.le_refl _) hRcells hRslots
  have hhp : ((T.setVm s.vm).setFrames (.invoking m args :: below)).heap = H := hT
  have hW0 : s.WarmedH ((T.setVm s.vm).setFrames (.invoking m args :: below)).vm := State.WarmedH.refl s
  have hat' : ∀ w ∈ vx_atN nb, w.before args ((T.setVm s.vm).setFrames (.invoking m args :: below)) = true := fun w hw => vx_ot_at hW0 rfl (hgood w hw) (hat w hw)
  have hU' : vx_Zq Bundle.tN "UNASSIGNED_STACK" Bundle.steD A ((T.setVm s.vm).setFrames (.invoking m args :: below)) ((T.setVm s.vm).setFrames (.invoking m args :: below)).heap := by rw [hhp]; exact vx_Zq.moved hW0.alike (hU.kept hS.2.1)
  have hN' : vx_Zq Bundle.tN "SUPPRESSED_SENTINEL" Bundle.listD A ((T.setVm s.vm).setFrames (.invoking m args :: below)) ((T.setVm s.vm).setFrames (.invoking m args :: below)).heap := by rw [hhp]; exact vx_Zq.moved hW0.alike (hN.kept hS.2.1)
  obtain ⟨S, q, ce, st, Z, hce, hcl', hv⟩ := vx_npeAt Y hexec htr (n := nb) (vx_own hat' (vx_isRefq hU'.1) (vx_isRefq hN'.1) hU'.2.word hN'.2.word) (fun x hx => nomatch hx)
    (g := F0 m pc ls rest) rfl hsize hRframes (by show 2 * 0 + (rest.map fun v => v.category).sum + 10240 ≤ R.locals; omega) (by show 0 + 1 ≤ 1; omega) (by show 0 + nb ≤ nb; omega) hlocks
  obtain ⟨f1, f2⟩ := vx_frame Z.same
  have f1' : H.size ≤ S.heap.size := by rw [← hT]; exact f1
  have f2' : ∀ q : Nat, q < H.size → S.heap[q]? = H[q]? := fun q hq => by
    rw [← hT]
    exact f2 q (by rw [← hT] at hq; exact hq) (fun z hz => nomatch hz)
  have X5 := vx_back9 X Y Z
  have X6 : Stand p l e R s m args below meth c S locs (cells + 1) (slots + nb) := { X5 with same := X5.same.mono (by omega) (by omega) }
  obtain ⟨t, a1, b1⟩ := k S.heap q ce f1' f2' ⟨Nat.le_trans hS.1 f1', fun q h1 h2 => (f2' q (Nat.lt_of_lt_of_le h1 hS.1)).trans (hS.2.1 q h1 h2), hS.2.2⟩ hce hv hcl' S rfl X6
  exact ⟨t, st t a1, b1⟩
variable {Q : State → Prop} {cc : ByteArray} {pc : Nat} {ls : Array Slot} {rest : List Value}
theorem vx_idivZ (hexec : p.tables.exec = Jvm.exec) (hb : c.code = cc) {a b : Int32} (h0 : b = 0) (d : decode cc pc = .ok (.idiv, 1)) (k : vx_Note p l e R s m args below meth c H locs cells slots Q (F0 m pc ls rest) "java/lang/ArithmeticException" "/ by zero") :
    W p l e R s m args below meth c H locs cells slots Q (F0 m pc ls (.int b :: .int a :: rest)) := by
  intro T hT X
  obtain ⟨t, st, q⟩ := k T hT X
  exact ⟨t, X.idivZero hexec (g := F0 m pc ls (.int b :: .int a :: rest)) rfl (a := a) (rest := rest) (by rw [h0]) (by rw [hb]; exact d) t st, q⟩
theorem vx_iremZ (hexec : p.tables.exec = Jvm.exec) (hb : c.code = cc) {a b : Int32} (h0 : b = 0) (d : decode cc pc = .ok (.irem, 1)) (k : vx_Note p l e R s m args below meth c H locs cells slots Q (F0 m pc ls rest) "java/lang/ArithmeticException" "/ by zero") :
    W p l e R s m args below meth c H locs cells slots Q (F0 m pc ls (.int b :: .int a :: rest)) := by
  intro T hT X
  obtain ⟨t, st, q⟩ := k T hT X
  exact ⟨t, X.iremZero hexec (g := F0 m pc ls (.int b :: .int a :: rest)) rfl (a := a) (rest := rest) (by rw [h0]) (by rw [hb]; exact d) t st, q⟩
theorem vx_ldivZ (hexec : p.tables.exec = Jvm.exec) (hb : c.code = cc) {a b : Int64} (h0 : b = 0) (d : decode cc pc = .ok (.ldiv, 1)) (k : vx_Note p l e R s m args below meth c H locs cells slots Q (F0 m pc ls rest) "java/lang/ArithmeticException" "/ by zero") :
    W p l e R s m args below meth c H locs cells slots Q (F0 m pc ls (.long b :: .long a :: rest)) := by
  intro T hT X
  obtain ⟨t, st, q⟩ := k T hT X
  exact ⟨t, X.ldivZero hexec (g := F0 m pc ls (.long b :: .long a :: rest)) rfl (a := a) (rest := rest) (by rw [h0]) (by rw [hb]; exact d) t st, q⟩
theorem vx_lremZ (hexec : p.tables.exec = Jvm.exec) (hb : c.code = cc) {a b : Int64} (h0 : b = 0) (d : decode cc pc = .ok (.lrem, 1)) (k : vx_Note p l e R s m args below meth c H locs cells slots Q (F0 m pc ls rest) "java/lang/ArithmeticException" "/ by zero") :
    W p l e R s m args below meth c H locs cells slots Q (F0 m pc ls (.long b :: .long a :: rest)) := by
  intro T hT X
  obtain ⟨t, st, q⟩ := k T hT X
  exact ⟨t, X.lremZero hexec (g := F0 m pc ls (.long b :: .long a :: rest)) rfl (a := a) (rest := rest) (by rw [h0]) (by rw [hb]; exact d) t st, q⟩
theorem vx_ialdZ {D : va_G} {cl : List vw_C} {ws : va_W} {tys : List (ClassId × FieldType)} {a : Nat} (hexec : p.tables.exec = Jvm.exec) (hb : c.code = cc) (hK : va_K D cl tys s) (hP : va_P D cl ws H) (q0 t0 : Nat) {cA : ClassId} {n : Nat} {f : Nat → Int32} (ha : ws[q0]? = some (a, .inl (cA, n, .inl f))) (ht : tys[t0]? = some (cA, .int)) {i : Int32} (hout : ¬ vp_in i n) (hdg : decode cc pc = .ok (.iaload, 1))
    (k : ∀ tx : String, tx = (toString "Index " ++ toString i ++ toString " out of bounds for length " ++ toString n : String) → vx_Note p l e R s m args below meth c H locs cells slots Q (F0 m pc ls rest) "java/lang/ArrayIndexOutOfBoundsException" tx) : W p l e R s m args below meth c H locs cells slots Q (F0 m pc ls (.int i :: .ref a :: rest)) := by
  intro T hT X
  obtain ⟨t, st, q⟩ := k _ rfl T hT X
  refine ⟨t, ?_, q⟩
  have h1 := X.ialoadOut hexec (by rw [hT]; exact hP q0 _ ha) ((hK.2 t0 _ ht).1 n (fun j => .int (f j))) (j := i) (by show (i < 0 ∨ (arrV _ _ _).slots.size ≤ _); rw [arrV_size]; exact Classical.byContradiction hout) (g := F0 m pc ls (.int i :: .ref a :: rest)) rfl (rest := rest) rfl (by rw [hb]; exact hdg) t
  simp only [arrV_size] at h1
  exact h1 st
theorem vx_iastZ {D : va_G} {cl : List vw_C} {ws : va_W} {tys : List (ClassId × FieldType)} {a : Nat} (hexec : p.tables.exec = Jvm.exec) (hb : c.code = cc) (hK : va_K D cl tys s) (hP : va_P D cl ws H) (q0 t0 : Nat) {cA : ClassId} {n : Nat} {f : Nat → Int32} (ha : ws[q0]? = some (a, .inl (cA, n, .inl f))) (ht : tys[t0]? = some (cA, .int)) {i : Int32} {x : Int32} (hout : ¬ vp_in i n) (hdg : decode cc pc = .ok (.iastore, 1))
    (k : ∀ tx : String, tx = (toString "Index " ++ toString i ++ toString " out of bounds for length " ++ toString n : String) → vx_Note p l e R s m args below meth c H locs cells slots Q (F0 m pc ls rest) "java/lang/ArrayIndexOutOfBoundsException" tx) : W p l e R s m args below meth c H locs cells slots Q (F0 m pc ls (.int x :: .int i :: .ref a :: rest)) := by
  intro T hT X
  obtain ⟨t, st, q⟩ := k _ rfl T hT X
  refine ⟨t, ?_, q⟩
  have h1 := X.iastoreOut hexec (by rw [hT]; exact hP q0 _ ha) ((hK.2 t0 _ ht).1 n (fun j => .int (f j))) (j := i) (by show (i < 0 ∨ (arrV _ _ _).slots.size ≤ _); rw [arrV_size]; exact Classical.byContradiction hout) (g := F0 m pc ls (.int x :: .int i :: .ref a :: rest)) rfl (rest := rest) rfl (by rw [hb]; exact hdg) t
  simp only [arrV_size] at h1
  exact h1 st
theorem vx_baldZ {D : va_G} {cl : List vw_C} {ws : va_W} {tys : List (ClassId × FieldType)} {a : Nat} (hexec : p.tables.exec = Jvm.exec) (hb : c.code = cc) (hK : va_K D cl tys s) (hP : va_P D cl ws H) (q0 t0 : Nat) {cA : ClassId} {n : Nat} {f : Nat → Int32} (ha : ws[q0]? = some (a, .inl (cA, n, .inl f))) (ht : tys[t0]? = some (cA, .byte)) {i : Int32} (hout : ¬ vp_in i n) (hdg : decode cc pc = .ok (.baload, 1))
    (k : ∀ tx : String, tx = (toString "Index " ++ toString i ++ toString " out of bounds for length " ++ toString n : String) → vx_Note p l e R s m args below meth c H locs cells slots Q (F0 m pc ls rest) "java/lang/ArrayIndexOutOfBoundsException" tx) : W p l e R s m args below meth c H locs cells slots Q (F0 m pc ls (.int i :: .ref a :: rest)) := by
  intro T hT X
  obtain ⟨t, st, q⟩ := k _ rfl T hT X
  refine ⟨t, ?_, q⟩
  have h1 := X.baloadOut hexec (by rw [hT]; exact hP q0 _ ha) ((hK.2 t0 _ ht).1 n (fun j => .int (f j))) (j := i) (by show (i < 0 ∨ (arrV _ _ _).slots.size ≤ _); rw [arrV_size]; exact Classical.byContradiction hout) (g := F0 m pc ls (.int i :: .ref a :: rest)) rfl (rest := rest) rfl (by rw [hb]; exact hdg) t
  simp only [arrV_size] at h1
  exact h1 st
theorem vx_bastZ {D : va_G} {cl : List vw_C} {ws : va_W} {tys : List (ClassId × FieldType)} {a : Nat} (hexec : p.tables.exec = Jvm.exec) (hb : c.code = cc) (hK : va_K D cl tys s) (hP : va_P D cl ws H) (q0 t0 : Nat) {cA : ClassId} {n : Nat} {f : Nat → Int32} (ha : ws[q0]? = some (a, .inl (cA, n, .inl f))) (ht : tys[t0]? = some (cA, .byte)) {i : Int32} {x : Int32} (hout : ¬ vp_in i n) (hdg : decode cc pc = .ok (.bastore, 1))
    (k : ∀ tx : String, tx = (toString "Index " ++ toString i ++ toString " out of bounds for length " ++ toString n : String) → vx_Note p l e R s m args below meth c H locs cells slots Q (F0 m pc ls rest) "java/lang/ArrayIndexOutOfBoundsException" tx) : W p l e R s m args below meth c H locs cells slots Q (F0 m pc ls (.int x :: .int i :: .ref a :: rest)) := by
  intro T hT X
  obtain ⟨t, st, q⟩ := k _ rfl T hT X
  refine ⟨t, ?_, q⟩
  have h1 := X.bastoreOut hexec (by rw [hT]; exact hP q0 _ ha) ((hK.2 t0 _ ht).1 n (fun j => .int (f j))) (j := i) (by show (i < 0 ∨ (arrV _ _ _).slots.size ≤ _); rw [arrV_size]; exact Classical.byContradiction hout) (g := F0 m pc ls (.int x :: .int i :: .ref a :: rest)) rfl (rest := rest) rfl (by rw [hb]; exact hdg) t
  simp only [arrV_size] at h1
  exact h1 st
theorem vx_zaldZ {D : va_G} {cl : List vw_C} {ws : va_W} {tys : List (ClassId × FieldType)} {a : Nat} (hexec : p.tables.exec = Jvm.exec) (hb : c.code = cc) (hK : va_K D cl tys s) (hP : va_P D cl ws H) (q0 t0 : Nat) {cA : ClassId} {n : Nat} {f : Nat → Int32} (ha : ws[q0]? = some (a, .inl (cA, n, .inl f))) (ht : tys[t0]? = some (cA, .boolean)) {i : Int32} (hout : ¬ vp_in i n) (hdg : decode cc pc = .ok (.baload, 1))
    (k : ∀ tx : String, tx = (toString "Index " ++ toString i ++ toString " out of bounds for length " ++ toString n : String) → vx_Note p l e R s m args below meth c H locs cells slots Q (F0 m pc ls rest) "java/lang/ArrayIndexOutOfBoundsException" tx) : W p l e R s m args below meth c H locs cells slots Q (F0 m pc ls (.int i :: .ref a :: rest)) := by
  intro T hT X
  obtain ⟨t, st, q⟩ := k _ rfl T hT X
  refine ⟨t, ?_, q⟩
  have h1 := X.baloadOut hexec (by rw [hT]; exact hP q0 _ ha) ((hK.2 t0 _ ht).1 n (fun j => .int (f j))) (j := i) (by show (i < 0 ∨ (arrV _ _ _).slots.size ≤ _); rw [arrV_size]; exact Classical.byContradiction hout) (g := F0 m pc ls (.int i :: .ref a :: rest)) rfl (rest := rest) rfl (by rw [hb]; exact hdg) t
  simp only [arrV_size] at h1
  exact h1 st
theorem vx_zastZ {D : va_G} {cl : List vw_C} {ws : va_W} {tys : List (ClassId × FieldType)} {a : Nat} (hexec : p.tables.exec = Jvm.exec) (hb : c.code = cc) (hK : va_K D cl tys s) (hP : va_P D cl ws H) (q0 t0 : Nat) {cA : ClassId} {n : Nat} {f : Nat → Int32} (ha : ws[q0]? = some (a, .inl (cA, n, .inl f))) (ht : tys[t0]? = some (cA, .boolean)) {i : Int32} {x : Int32} (hout : ¬ vp_in i n) (hdg : decode cc pc = .ok (.bastore, 1))
    (k : ∀ tx : String, tx = (toString "Index " ++ toString i ++ toString " out of bounds for length " ++ toString n : String) → vx_Note p l e R s m args below meth c H locs cells slots Q (F0 m pc ls rest) "java/lang/ArrayIndexOutOfBoundsException" tx) : W p l e R s m args below meth c H locs cells slots Q (F0 m pc ls (.int x :: .int i :: .ref a :: rest)) := by
  intro T hT X
  obtain ⟨t, st, q⟩ := k _ rfl T hT X
  refine ⟨t, ?_, q⟩
  have h1 := X.bastoreOut hexec (by rw [hT]; exact hP q0 _ ha) ((hK.2 t0 _ ht).1 n (fun j => .int (f j))) (j := i) (by show (i < 0 ∨ (arrV _ _ _).slots.size ≤ _); rw [arrV_size]; exact Classical.byContradiction hout) (g := F0 m pc ls (.int x :: .int i :: .ref a :: rest)) rfl (rest := rest) rfl (by rw [hb]; exact hdg) t
  simp only [arrV_size] at h1
  exact h1 st
theorem vx_caldZ {D : va_G} {cl : List vw_C} {ws : va_W} {tys : List (ClassId × FieldType)} {a : Nat} (hexec : p.tables.exec = Jvm.exec) (hb : c.code = cc) (hK : va_K D cl tys s) (hP : va_P D cl ws H) (q0 t0 : Nat) {cA : ClassId} {n : Nat} {f : Nat → Int32} (ha : ws[q0]? = some (a, .inl (cA, n, .inl f))) (ht : tys[t0]? = some (cA, .char)) {i : Int32} (hout : ¬ vp_in i n) (hdg : decode cc pc = .ok (.caload, 1))
    (k : ∀ tx : String, tx = (toString "Index " ++ toString i ++ toString " out of bounds for length " ++ toString n : String) → vx_Note p l e R s m args below meth c H locs cells slots Q (F0 m pc ls rest) "java/lang/ArrayIndexOutOfBoundsException" tx) : W p l e R s m args below meth c H locs cells slots Q (F0 m pc ls (.int i :: .ref a :: rest)) := by
  intro T hT X
  obtain ⟨t, st, q⟩ := k _ rfl T hT X
  refine ⟨t, ?_, q⟩
  have h1 := X.caloadOut hexec (by rw [hT]; exact hP q0 _ ha) ((hK.2 t0 _ ht).1 n (fun j => .int (f j))) (j := i) (by show (i < 0 ∨ (arrV _ _ _).slots.size ≤ _); rw [arrV_size]; exact Classical.byContradiction hout) (g := F0 m pc ls (.int i :: .ref a :: rest)) rfl (rest := rest) rfl (by rw [hb]; exact hdg) t
  simp only [arrV_size] at h1
  exact h1 st
theorem vx_castZ {D : va_G} {cl : List vw_C} {ws : va_W} {tys : List (ClassId × FieldType)} {a : Nat} (hexec : p.tables.exec = Jvm.exec) (hb : c.code = cc) (hK : va_K D cl tys s) (hP : va_P D cl ws H) (q0 t0 : Nat) {cA : ClassId} {n : Nat} {f : Nat → Int32} (ha : ws[q0]? = some (a, .inl (cA, n, .inl f))) (ht : tys[t0]? = some (cA, .char)) {i : Int32} {x : Int32} (hout : ¬ vp_in i n) (hdg : decode cc pc = .ok (.castore, 1))
    (k : ∀ tx : String, tx = (toString "Index " ++ toString i ++ toString " out of bounds for length " ++ toString n : String) → vx_Note p l e R s m args below meth c H locs cells slots Q (F0 m pc ls rest) "java/lang/ArrayIndexOutOfBoundsException" tx) : W p l e R s m args below meth c H locs cells slots Q (F0 m pc ls (.int x :: .int i :: .ref a :: rest)) := by
  intro T hT X
  obtain ⟨t, st, q⟩ := k _ rfl T hT X
  refine ⟨t, ?_, q⟩
  have h1 := X.castoreOut hexec (by rw [hT]; exact hP q0 _ ha) ((hK.2 t0 _ ht).1 n (fun j => .int (f j))) (j := i) (by show (i < 0 ∨ (arrV _ _ _).slots.size ≤ _); rw [arrV_size]; exact Classical.byContradiction hout) (g := F0 m pc ls (.int x :: .int i :: .ref a :: rest)) rfl (rest := rest) rfl (by rw [hb]; exact hdg) t
  simp only [arrV_size] at h1
  exact h1 st
theorem vx_saldZ {D : va_G} {cl : List vw_C} {ws : va_W} {tys : List (ClassId × FieldType)} {a : Nat} (hexec : p.tables.exec = Jvm.exec) (hb : c.code = cc) (hK : va_K D cl tys s) (hP : va_P D cl ws H) (q0 t0 : Nat) {cA : ClassId} {n : Nat} {f : Nat → Int32} (ha : ws[q0]? = some (a, .inl (cA, n, .inl f))) (ht : tys[t0]? = some (cA, .short)) {i : Int32} (hout : ¬ vp_in i n) (hdg : decode cc pc = .ok (.saload, 1))
    (k : ∀ tx : String, tx = (toString "Index " ++ toString i ++ toString " out of bounds for length " ++ toString n : String) → vx_Note p l e R s m args below meth c H locs cells slots Q (F0 m pc ls rest) "java/lang/ArrayIndexOutOfBoundsException" tx) : W p l e R s m args below meth c H locs cells slots Q (F0 m pc ls (.int i :: .ref a :: rest)) := by
  intro T hT X
  obtain ⟨t, st, q⟩ := k _ rfl T hT X
  refine ⟨t, ?_, q⟩
  have h1 := X.saloadOut hexec (by rw [hT]; exact hP q0 _ ha) ((hK.2 t0 _ ht).1 n (fun j => .int (f j))) (j := i) (by show (i < 0 ∨ (arrV _ _ _).slots.size ≤ _); rw [arrV_size]; exact Classical.byContradiction hout) (g := F0 m pc ls (.int i :: .ref a :: rest)) rfl (rest := rest) rfl (by rw [hb]; exact hdg) t
  simp only [arrV_size] at h1
  exact h1 st
theorem vx_sastZ {D : va_G} {cl : List vw_C} {ws : va_W} {tys : List (ClassId × FieldType)} {a : Nat} (hexec : p.tables.exec = Jvm.exec) (hb : c.code = cc) (hK : va_K D cl tys s) (hP : va_P D cl ws H) (q0 t0 : Nat) {cA : ClassId} {n : Nat} {f : Nat → Int32} (ha : ws[q0]? = some (a, .inl (cA, n, .inl f))) (ht : tys[t0]? = some (cA, .short)) {i : Int32} {x : Int32} (hout : ¬ vp_in i n) (hdg : decode cc pc = .ok (.sastore, 1))
    (k : ∀ tx : String, tx = (toString "Index " ++ toString i ++ toString " out of bounds for length " ++ toString n : String) → vx_Note p l e R s m args below meth c H locs cells slots Q (F0 m pc ls rest) "java/lang/ArrayIndexOutOfBoundsException" tx) : W p l e R s m args below meth c H locs cells slots Q (F0 m pc ls (.int x :: .int i :: .ref a :: rest)) := by
  intro T hT X
  obtain ⟨t, st, q⟩ := k _ rfl T hT X
  refine ⟨t, ?_, q⟩
  have h1 := X.sastoreOut hexec (by rw [hT]; exact hP q0 _ ha) ((hK.2 t0 _ ht).1 n (fun j => .int (f j))) (j := i) (by show (i < 0 ∨ (arrV _ _ _).slots.size ≤ _); rw [arrV_size]; exact Classical.byContradiction hout) (g := F0 m pc ls (.int x :: .int i :: .ref a :: rest)) rfl (rest := rest) rfl (by rw [hb]; exact hdg) t
  simp only [arrV_size] at h1
  exact h1 st
theorem vx_laldZ {D : va_G} {cl : List vw_C} {ws : va_W} {tys : List (ClassId × FieldType)} {a : Nat} (hexec : p.tables.exec = Jvm.exec) (hb : c.code = cc) (hK : va_K D cl tys s) (hP : va_P D cl ws H) (q0 t0 : Nat) {cA : ClassId} {n : Nat} {f : Nat → Int64} (ha : ws[q0]? = some (a, .inl (cA, n, .inr (.inl f)))) (ht : tys[t0]? = some (cA, .long)) {i : Int32} (hout : ¬ vp_in i n) (hdg : decode cc pc = .ok (.laload, 1))
    (k : ∀ tx : String, tx = (toString "Index " ++ toString i ++ toString " out of bounds for length " ++ toString n : String) → vx_Note p l e R s m args below meth c H locs cells slots Q (F0 m pc ls rest) "java/lang/ArrayIndexOutOfBoundsException" tx) : W p l e R s m args below meth c H locs cells slots Q (F0 m pc ls (.int i :: .ref a :: rest)) := by
  intro T hT X
  obtain ⟨t, st, q⟩ := k _ rfl T hT X
  refine ⟨t, ?_, q⟩
  have h1 := X.laloadOut hexec (by rw [hT]; exact hP q0 _ ha) ((hK.2 t0 _ ht).1 n (fun j => .long (f j))) (j := i) (by show (i < 0 ∨ (arrV _ _ _).slots.size ≤ _); rw [arrV_size]; exact Classical.byContradiction hout) (g := F0 m pc ls (.int i :: .ref a :: rest)) rfl (rest := rest) rfl (by rw [hb]; exact hdg) t
  simp only [arrV_size] at h1
  exact h1 st
theorem vx_lastZ {D : va_G} {cl : List vw_C} {ws : va_W} {tys : List (ClassId × FieldType)} {a : Nat} (hexec : p.tables.exec = Jvm.exec) (hb : c.code = cc) (hK : va_K D cl tys s) (hP : va_P D cl ws H) (q0 t0 : Nat) {cA : ClassId} {n : Nat} {f : Nat → Int64} (ha : ws[q0]? = some (a, .inl (cA, n, .inr (.inl f)))) (ht : tys[t0]? = some (cA, .long)) {i : Int32} {x : Int64} (hout : ¬ vp_in i n) (hdg : decode cc pc = .ok (.lastore, 1))
    (k : ∀ tx : String, tx = (toString "Index " ++ toString i ++ toString " out of bounds for length " ++ toString n : String) → vx_Note p l e R s m args below meth c H locs cells slots Q (F0 m pc ls rest) "java/lang/ArrayIndexOutOfBoundsException" tx) : W p l e R s m args below meth c H locs cells slots Q (F0 m pc ls (.long x :: .int i :: .ref a :: rest)) := by
  intro T hT X
  obtain ⟨t, st, q⟩ := k _ rfl T hT X
  refine ⟨t, ?_, q⟩
  have h1 := X.lastoreOut hexec (by rw [hT]; exact hP q0 _ ha) ((hK.2 t0 _ ht).1 n (fun j => .long (f j))) (j := i) (by show (i < 0 ∨ (arrV _ _ _).slots.size ≤ _); rw [arrV_size]; exact Classical.byContradiction hout) (g := F0 m pc ls (.long x :: .int i :: .ref a :: rest)) rfl (rest := rest) rfl (by rw [hb]; exact hdg) t
  simp only [arrV_size] at h1
  exact h1 st
theorem vx_faldZ {D : va_G} {cl : List vw_C} {ws : va_W} {tys : List (ClassId × FieldType)} {a : Nat} (hexec : p.tables.exec = Jvm.exec) (hb : c.code = cc) (hK : va_K D cl tys s) (hP : va_P D cl ws H) (q0 t0 : Nat) {cA : ClassId} {n : Nat} {f : Nat → UInt32} (ha : ws[q0]? = some (a, .inl (cA, n, .inr (.inr (.inl f))))) (ht : tys[t0]? = some (cA, .float)) {i : Int32} (hout : ¬ vp_in i n) (hdg : decode cc pc = .ok (.faload, 1))
    (k : ∀ tx : String, tx = (toString "Index " ++ toString i ++ toString " out of bounds for length " ++ toString n : String) → vx_Note p l e R s m args below meth c H locs cells slots Q (F0 m pc ls rest) "java/lang/ArrayIndexOutOfBoundsException" tx) : W p l e R s m args below meth c H locs cells slots Q (F0 m pc ls (.int i :: .ref a :: rest)) := by
  intro T hT X
  obtain ⟨t, st, q⟩ := k _ rfl T hT X
  refine ⟨t, ?_, q⟩
  have h1 := X.faloadOut hexec (by rw [hT]; exact hP q0 _ ha) ((hK.2 t0 _ ht).1 n (fun j => .float (f j))) (j := i) (by show (i < 0 ∨ (arrV _ _ _).slots.size ≤ _); rw [arrV_size]; exact Classical.byContradiction hout) (g := F0 m pc ls (.int i :: .ref a :: rest)) rfl (rest := rest) rfl (by rw [hb]; exact hdg) t
  simp only [arrV_size] at h1
  exact h1 st
theorem vx_fastZ {D : va_G} {cl : List vw_C} {ws : va_W} {tys : List (ClassId × FieldType)} {a : Nat} (hexec : p.tables.exec = Jvm.exec) (hb : c.code = cc) (hK : va_K D cl tys s) (hP : va_P D cl ws H) (q0 t0 : Nat) {cA : ClassId} {n : Nat} {f : Nat → UInt32} (ha : ws[q0]? = some (a, .inl (cA, n, .inr (.inr (.inl f))))) (ht : tys[t0]? = some (cA, .float)) {i : Int32} {x : UInt32} (hout : ¬ vp_in i n) (hdg : decode cc pc = .ok (.fastore, 1))
    (k : ∀ tx : String, tx = (toString "Index " ++ toString i ++ toString " out of bounds for length " ++ toString n : String) → vx_Note p l e R s m args below meth c H locs cells slots Q (F0 m pc ls rest) "java/lang/ArrayIndexOutOfBoundsException" tx) : W p l e R s m args below meth c H locs cells slots Q (F0 m pc ls (.float x :: .int i :: .ref a :: rest)) := by
  intro T hT X
  obtain ⟨t, st, q⟩ := k _ rfl T hT X
  refine ⟨t, ?_, q⟩
  have h1 := X.fastoreOut hexec (by rw [hT]; exact hP q0 _ ha) ((hK.2 t0 _ ht).1 n (fun j => .float (f j))) (j := i) (by show (i < 0 ∨ (arrV _ _ _).slots.size ≤ _); rw [arrV_size]; exact Classical.byContradiction hout) (g := F0 m pc ls (.float x :: .int i :: .ref a :: rest)) rfl (rest := rest) rfl (by rw [hb]; exact hdg) t
  simp only [arrV_size] at h1
  exact h1 st
theorem vx_daldZ {D : va_G} {cl : List vw_C} {ws : va_W} {tys : List (ClassId × FieldType)} {a : Nat} (hexec : p.tables.exec = Jvm.exec) (hb : c.code = cc) (hK : va_K D cl tys s) (hP : va_P D cl ws H) (q0 t0 : Nat) {cA : ClassId} {n : Nat} {f : Nat → UInt64} (ha : ws[q0]? = some (a, .inl (cA, n, .inr (.inr (.inr (.inl f)))))) (ht : tys[t0]? = some (cA, .double)) {i : Int32} (hout : ¬ vp_in i n) (hdg : decode cc pc = .ok (.daload, 1))
    (k : ∀ tx : String, tx = (toString "Index " ++ toString i ++ toString " out of bounds for length " ++ toString n : String) → vx_Note p l e R s m args below meth c H locs cells slots Q (F0 m pc ls rest) "java/lang/ArrayIndexOutOfBoundsException" tx) : W p l e R s m args below meth c H locs cells slots Q (F0 m pc ls (.int i :: .ref a :: rest)) := by
  intro T hT X
  obtain ⟨t, st, q⟩ := k _ rfl T hT X
  refine ⟨t, ?_, q⟩
  have h1 := X.daloadOut hexec (by rw [hT]; exact hP q0 _ ha) ((hK.2 t0 _ ht).1 n (fun j => .double (f j))) (j := i) (by show (i < 0 ∨ (arrV _ _ _).slots.size ≤ _); rw [arrV_size]; exact Classical.byContradiction hout) (g := F0 m pc ls (.int i :: .ref a :: rest)) rfl (rest := rest) rfl (by rw [hb]; exact hdg) t
  simp only [arrV_size] at h1
  exact h1 st
theorem vx_dastZ {D : va_G} {cl : List vw_C} {ws : va_W} {tys : List (ClassId × FieldType)} {a : Nat} (hexec : p.tables.exec = Jvm.exec) (hb : c.code = cc) (hK : va_K D cl tys s) (hP : va_P D cl ws H) (q0 t0 : Nat) {cA : ClassId} {n : Nat} {f : Nat → UInt64} (ha : ws[q0]? = some (a, .inl (cA, n, .inr (.inr (.inr (.inl f)))))) (ht : tys[t0]? = some (cA, .double)) {i : Int32} {x : UInt64} (hout : ¬ vp_in i n) (hdg : decode cc pc = .ok (.dastore, 1))
    (k : ∀ tx : String, tx = (toString "Index " ++ toString i ++ toString " out of bounds for length " ++ toString n : String) → vx_Note p l e R s m args below meth c H locs cells slots Q (F0 m pc ls rest) "java/lang/ArrayIndexOutOfBoundsException" tx) : W p l e R s m args below meth c H locs cells slots Q (F0 m pc ls (.double x :: .int i :: .ref a :: rest)) := by
  intro T hT X
  obtain ⟨t, st, q⟩ := k _ rfl T hT X
  refine ⟨t, ?_, q⟩
  have h1 := X.dastoreOut hexec (by rw [hT]; exact hP q0 _ ha) ((hK.2 t0 _ ht).1 n (fun j => .double (f j))) (j := i) (by show (i < 0 ∨ (arrV _ _ _).slots.size ≤ _); rw [arrV_size]; exact Classical.byContradiction hout) (g := F0 m pc ls (.double x :: .int i :: .ref a :: rest)) rfl (rest := rest) rfl (by rw [hb]; exact hdg) t
  simp only [arrV_size] at h1
  exact h1 st
theorem vx_arraylengthN (hexec : p.tables.exec = Jvm.exec) (hb : c.code = cc) (hdg : decode cc pc = .ok (.arraylength, 1)) (k : vx_NoteN p l e R s m args below meth c H locs cells slots Q (F0 m pc ls rest)) : W p l e R s m args below meth c H locs cells slots Q (F0 m pc ls (.null :: rest)) := by
  intro T hT X
  obtain ⟨t, st, q⟩ := k T hT X
  exact ⟨t, X.arraylengthNull hexec (g := F0 m pc ls (.null :: rest)) rfl (rest := rest) rfl (by rw [hb]; exact hdg) t st, q⟩
theorem vx_ialoadN (hexec : p.tables.exec = Jvm.exec) (hb : c.code = cc) {i : Int32} (hdg : decode cc pc = .ok (.iaload, 1)) (k : vx_NoteN p l e R s m args below meth c H locs cells slots Q (F0 m pc ls rest)) : W p l e R s m args below meth c H locs cells slots Q (F0 m pc ls (.int i :: .null :: rest)) := by
  intro T hT X
  obtain ⟨t, st, q⟩ := k T hT X
  exact ⟨t, X.ialoadNull hexec (g := F0 m pc ls (.int i :: .null :: rest)) rfl (rest := rest) rfl (by rw [hb]; exact hdg) t st, q⟩
theorem vx_laloadN (hexec : p.tables.exec = Jvm.exec) (hb : c.code = cc) {i : Int32} (hdg : decode cc pc = .ok (.laload, 1)) (k : vx_NoteN p l e R s m args below meth c H locs cells slots Q (F0 m pc ls rest)) : W p l e R s m args below meth c H locs cells slots Q (F0 m pc ls (.int i :: .null :: rest)) := by
  intro T hT X
  obtain ⟨t, st, q⟩ := k T hT X
  exact ⟨t, X.laloadNull hexec (g := F0 m pc ls (.int i :: .null :: rest)) rfl (rest := rest) rfl (by rw [hb]; exact hdg) t st, q⟩
theorem vx_faloadN (hexec : p.tables.exec = Jvm.exec) (hb : c.code = cc) {i : Int32} (hdg : decode cc pc = .ok (.faload, 1)) (k : vx_NoteN p l e R s m args below meth c H locs cells slots Q (F0 m pc ls rest)) : W p l e R s m args below meth c H locs cells slots Q (F0 m pc ls (.int i :: .null :: rest)) := by
  intro T hT X
  obtain ⟨t, st, q⟩ := k T hT X
  exact ⟨t, X.faloadNull hexec (g := F0 m pc ls (.int i :: .null :: rest)) rfl (rest := rest) rfl (by rw [hb]; exact hdg) t st, q⟩
theorem vx_daloadN (hexec : p.tables.exec = Jvm.exec) (hb : c.code = cc) {i : Int32} (hdg : decode cc pc = .ok (.daload, 1)) (k : vx_NoteN p l e R s m args below meth c H locs cells slots Q (F0 m pc ls rest)) : W p l e R s m args below meth c H locs cells slots Q (F0 m pc ls (.int i :: .null :: rest)) := by
  intro T hT X
  obtain ⟨t, st, q⟩ := k T hT X
  exact ⟨t, X.daloadNull hexec (g := F0 m pc ls (.int i :: .null :: rest)) rfl (rest := rest) rfl (by rw [hb]; exact hdg) t st, q⟩
theorem vx_aaloadN (hexec : p.tables.exec = Jvm.exec) (hb : c.code = cc) {i : Int32} (hdg : decode cc pc = .ok (.aaload, 1)) (k : vx_NoteN p l e R s m args below meth c H locs cells slots Q (F0 m pc ls rest)) : W p l e R s m args below meth c H locs cells slots Q (F0 m pc ls (.int i :: .null :: rest)) := by
  intro T hT X
  obtain ⟨t, st, q⟩ := k T hT X
  exact ⟨t, X.aaloadNull hexec (g := F0 m pc ls (.int i :: .null :: rest)) rfl (rest := rest) rfl (by rw [hb]; exact hdg) t st, q⟩
theorem vx_baloadN (hexec : p.tables.exec = Jvm.exec) (hb : c.code = cc) {i : Int32} (hdg : decode cc pc = .ok (.baload, 1)) (k : vx_NoteN p l e R s m args below meth c H locs cells slots Q (F0 m pc ls rest)) : W p l e R s m args below meth c H locs cells slots Q (F0 m pc ls (.int i :: .null :: rest)) := by
  intro T hT X
  obtain ⟨t, st, q⟩ := k T hT X
  exact ⟨t, X.baloadNull hexec (g := F0 m pc ls (.int i :: .null :: rest)) rfl (rest := rest) rfl (by rw [hb]; exact hdg) t st, q⟩
theorem vx_caloadN (hexec : p.tables.exec = Jvm.exec) (hb : c.code = cc) {i : Int32} (hdg : decode cc pc = .ok (.caload, 1)) (k : vx_NoteN p l e R s m args below meth c H locs cells slots Q (F0 m pc ls rest)) : W p l e R s m args below meth c H locs cells slots Q (F0 m pc ls (.int i :: .null :: rest)) := by
  intro T hT X
  obtain ⟨t, st, q⟩ := k T hT X
  exact ⟨t, X.caloadNull hexec (g := F0 m pc ls (.int i :: .null :: rest)) rfl (rest := rest) rfl (by rw [hb]; exact hdg) t st, q⟩
theorem vx_saloadN (hexec : p.tables.exec = Jvm.exec) (hb : c.code = cc) {i : Int32} (hdg : decode cc pc = .ok (.saload, 1)) (k : vx_NoteN p l e R s m args below meth c H locs cells slots Q (F0 m pc ls rest)) : W p l e R s m args below meth c H locs cells slots Q (F0 m pc ls (.int i :: .null :: rest)) := by
  intro T hT X
  obtain ⟨t, st, q⟩ := k T hT X
  exact ⟨t, X.saloadNull hexec (g := F0 m pc ls (.int i :: .null :: rest)) rfl (rest := rest) rfl (by rw [hb]; exact hdg) t st, q⟩
theorem vx_iastoreN (hexec : p.tables.exec = Jvm.exec) (hb : c.code = cc) {x : Int32} {i : Int32} (hdg : decode cc pc = .ok (.iastore, 1)) (k : vx_NoteN p l e R s m args below meth c H locs cells slots Q (F0 m pc ls rest)) : W p l e R s m args below meth c H locs cells slots Q (F0 m pc ls (.int x :: .int i :: .null :: rest)) := by
  intro T hT X
  obtain ⟨t, st, q⟩ := k T hT X
  exact ⟨t, X.iastoreNull hexec (g := F0 m pc ls (.int x :: .int i :: .null :: rest)) rfl (rest := rest) rfl (by rw [hb]; exact hdg) t st, q⟩
theorem vx_lastoreN (hexec : p.tables.exec = Jvm.exec) (hb : c.code = cc) {x : Int64} {i : Int32} (hdg : decode cc pc = .ok (.lastore, 1)) (k : vx_NoteN p l e R s m args below meth c H locs cells slots Q (F0 m pc ls rest)) : W p l e R s m args below meth c H locs cells slots Q (F0 m pc ls (.long x :: .int i :: .null :: rest)) := by
  intro T hT X
  obtain ⟨t, st, q⟩ := k T hT X
  exact ⟨t, X.lastoreNull hexec (g := F0 m pc ls (.long x :: .int i :: .null :: rest)) rfl (rest := rest) rfl (by rw [hb]; exact hdg) t st, q⟩
theorem vx_fastoreN (hexec : p.tables.exec = Jvm.exec) (hb : c.code = cc) {x : UInt32} {i : Int32} (hdg : decode cc pc = .ok (.fastore, 1)) (k : vx_NoteN p l e R s m args below meth c H locs cells slots Q (F0 m pc ls rest)) : W p l e R s m args below meth c H locs cells slots Q (F0 m pc ls (.float x :: .int i :: .null :: rest)) := by
  intro T hT X
  obtain ⟨t, st, q⟩ := k T hT X
  exact ⟨t, X.fastoreNull hexec (g := F0 m pc ls (.float x :: .int i :: .null :: rest)) rfl (rest := rest) rfl (by rw [hb]; exact hdg) t st, q⟩
theorem vx_dastoreN (hexec : p.tables.exec = Jvm.exec) (hb : c.code = cc) {x : UInt64} {i : Int32} (hdg : decode cc pc = .ok (.dastore, 1)) (k : vx_NoteN p l e R s m args below meth c H locs cells slots Q (F0 m pc ls rest)) : W p l e R s m args below meth c H locs cells slots Q (F0 m pc ls (.double x :: .int i :: .null :: rest)) := by
  intro T hT X
  obtain ⟨t, st, q⟩ := k T hT X
  exact ⟨t, X.dastoreNull hexec (g := F0 m pc ls (.double x :: .int i :: .null :: rest)) rfl (rest := rest) rfl (by rw [hb]; exact hdg) t st, q⟩
theorem vx_bastoreN (hexec : p.tables.exec = Jvm.exec) (hb : c.code = cc) {x : Int32} {i : Int32} (hdg : decode cc pc = .ok (.bastore, 1)) (k : vx_NoteN p l e R s m args below meth c H locs cells slots Q (F0 m pc ls rest)) : W p l e R s m args below meth c H locs cells slots Q (F0 m pc ls (.int x :: .int i :: .null :: rest)) := by
  intro T hT X
  obtain ⟨t, st, q⟩ := k T hT X
  exact ⟨t, X.bastoreNull hexec (g := F0 m pc ls (.int x :: .int i :: .null :: rest)) rfl (rest := rest) rfl (by rw [hb]; exact hdg) t st, q⟩
theorem vx_castoreN (hexec : p.tables.exec = Jvm.exec) (hb : c.code = cc) {x : Int32} {i : Int32} (hdg : decode cc pc = .ok (.castore, 1)) (k : vx_NoteN p l e R s m args below meth c H locs cells slots Q (F0 m pc ls rest)) : W p l e R s m args below meth c H locs cells slots Q (F0 m pc ls (.int x :: .int i :: .null :: rest)) := by
  intro T hT X
  obtain ⟨t, st, q⟩ := k T hT X
  exact ⟨t, X.castoreNull hexec (g := F0 m pc ls (.int x :: .int i :: .null :: rest)) rfl (rest := rest) rfl (by rw [hb]; exact hdg) t st, q⟩
theorem vx_sastoreN (hexec : p.tables.exec = Jvm.exec) (hb : c.code = cc) {x : Int32} {i : Int32} (hdg : decode cc pc = .ok (.sastore, 1)) (k : vx_NoteN p l e R s m args below meth c H locs cells slots Q (F0 m pc ls rest)) : W p l e R s m args below meth c H locs cells slots Q (F0 m pc ls (.int x :: .int i :: .null :: rest)) := by
  intro T hT X
  obtain ⟨t, st, q⟩ := k T hT X
  exact ⟨t, X.sastoreNull hexec (g := F0 m pc ls (.int x :: .int i :: .null :: rest)) rfl (rest := rest) rfl (by rw [hb]; exact hdg) t st, q⟩
theorem vx_invokeN {own C : String} {index maxL : Nat} {y : MethodName} {bytes : ByteArray} {ret : Option FieldType} (hexec : p.tables.exec = Jvm.exec) (hb : c.code = cc) (hown : s.vm.findClass own = some m.cls) (hlink : (Cond.methodLink own index y).before args s = true) (hinst : (Cond.instanceMethod y).before args s = true) (hcode : (Cond.code y bytes maxL ret).before args s = true) (hsel : (Cond.selects C y y).before args s = true)
    (hx : y.cls ≠ "java/lang/invoke/MethodHandle" ∧ y.cls ≠ "java/lang/invoke/VarHandle") {As : List Value} (hlen : (parseMethodDescriptor y.desc).map (fun d => d.parameters.length) = some As.length) (hdg : decode cc pc = .ok (.invokevirtual index, 3))
    (k : vx_NoteN p l e R s m args below meth c H locs cells slots Q (F0 m pc ls rest)) {st0 : List Value} (hst : st0 = As.reverse ++ .null :: rest) : W p l e R s m args below meth c H locs cells slots Q (F0 m pc ls st0) := by
  intro T hT X
  obtain ⟨r0, r, hn, hrm, hstR, hsigR⟩ := va_Decl.of hinst hcode
  obtain ⟨c2, r2, m2, q1, q2, q3, q4, kP, hkP, hkPi⟩ := Cond.selects_spec hsel
  cases hn.symm.trans q3
  have hl9 : As.length = r.sig.parameters.length := by
    rw [hsigR] at hlen
    exact (Option.some.inj hlen).symm
  obtain ⟨vm', X1, st1⟩ := X.invokevirtualNull hexec hown hlink hn hrm hstR hkP hkPi hx (g := F0 m pc ls st0) rfl (argsL := As) (rest := rest) hl9 hst (by rw [hb]; exact hdg)
  obtain ⟨t, st, q⟩ := k (T.setVm vm') hT X1
  exact ⟨t, st1 t st, q⟩
theorem vx_newarrayZ {atype : ArrayType} (hexec : p.tables.exec = Jvm.exec) (hb : c.code = cc) {n : Int32} (h0 : n < 0) (hdg : decode cc pc = .ok (.newarray atype, 2)) (k : ∀ tx : String, tx = toString n → vx_Note p l e R s m args below meth c H locs cells slots Q (F0 m pc ls rest) "java/lang/NegativeArraySizeException" tx) : W p l e R s m args below meth c H locs cells slots Q (F0 m pc ls (.int n :: rest)) := by
  intro T hT X
  obtain ⟨t, st, q⟩ := k _ rfl T hT X
  exact ⟨t, X.newarrayNegative hexec (g := F0 m pc ls (.int n :: rest)) rfl h0 (rest := rest) rfl (by rw [hb]; exact hdg) t st, q⟩
end
end VXM
/-! ===== END ===== -/
/-! ===== BEGIN an exception as an object: made, kept, thrown later (no traces kept) ===== -/
section VXK
variable {p : Program} {l : Launch} {e : Env} {R : Room} {s : State} {m₀ : MethodId} {args : Array Value} {below : List Frame} {meth : Method} {c : Code} {W : State} {locs : List Loc} {cells slots : Nat}
set_option maxHeartbeats 1000000 in
theorem vx_ctorMadeS (X : Stand p l e R s m₀ args below meth c W locs cells slots) (hexec : p.tables.exec = Jvm.exec) (htr : e.platform.stackTraces = false) {own cls : String} {names : List String} {ic : Nat}
    (hown : s.vm.findClass own = some m₀.cls) (hcls : Bundle.fit cls = true) (hnames : ∀ n ∈ names, Bundle.fit n = true)
    (h : ∀ a ∈ Bundle.ownAtoms own ic cls names, a.before args s = true)
    (hlocs : ∀ x ∈ locs, ∀ cell, s.heap[x.base]? = some cell → cell.vm.isStatics = false)
    {a : Addr} {cX : ClassId} {kX : Class} (hfoundX : s.vm.findClass cls = some cX) (hkX : s.vm.classes[cX]? = some kX) (hcell : W.heap[a]? = some (freshCell cX kX)) (hnew : s.heap.size ≤ a)
    {msg : Value} (hmsg : msg.isRef = true)
    {g : JFrame} (hg : g.method = m₀) (hsize : g.locals.size = c.maxLocals) {rest : List Value} (hstack : g.stack = msg :: .ref a :: .ref a :: rest)
    (hd6 : decode c.code g.pc = .ok (.invokespecial ic, 3))
    (hRframes : names.length + 3 < R.frames) (hRlocals : 2 * g.monitorRoom + ((Value.ref a :: rest).map fun v => v.category).sum + (13 * (names.length + 1) + 42) ≤ R.locals) :
    ∃ (V : State) (ce : Cell) (L : List Loc), Stand p l e R s m₀ args below meth c (V.setCell a ce) (locs ++ L) cells slots ∧ (∀ y ∈ L, y.base = a) ∧ a < V.heap.size ∧ ce.cls = cX ∧ ce.vm = .none ∧
      ∀ target, Steps p.tables e below ((V.setCell a ce).setTop { g with stack := .ref a :: rest, pc := g.pc + 3 }) target → Steps p.tables e below (W.setTop g) target := by
  have howns : e.platform.frameOwnsMonitors = true := by rw [X.admits.platform]
  have hfin : e.platform.finalization = false := by rw [X.admits.platform]
  have hpl : e.platform.magicAccessors = ({} : Platform).magicAccessors := by rw [X.admits.platform]
  have a' : ∀ x, x ∈ Bundle.ownAtoms own ic cls names → x.holds args s none s [] = true := fun x hx => h x hx
  obtain ⟨T, Z0, L, -, Y⟩ := ThrowableC.of_atoms (args := args) howns hfin hpl (fun x hx => h x (by simp [Bundle.ownAtoms, hx]))
  obtain ⟨Z, M, LZ, LM, hnZ⟩ := Init0T.ofS_atoms (args := args) hpl L Y (fun x hx => h x (by simp [Bundle.ownAtoms, hx]))
  obtain ⟨P1, Ps, hlen, L1, hL, hP1m, hlink1, hlink⟩ := Bundle.chainS (args := args) hpl hnZ names cls hcls hnames (fun x hx => h x (by simp [Bundle.ownAtoms, hx]))
  have hfound : s.vm.findClass cls = some P1.m.cls := findClass_of_methodNamed hP1m
  cases Option.some.inj (hfoundX.symm.trans hfound)
  obtain ⟨c1, kX', hc1, hk, hord, -, -, hn6⟩ := Cond.instantiable_spec (a' (.instantiable cls 6) (by simp [Bundle.ownAtoms]))
  cases Option.some.inj (hc1.symm.trans hfound)
  cases Option.some.inj (hkX.symm.trans hk)
  have hsel0 : selectMethod e.platform s.vm P1.m.cls T.fill0 = .method T.fill0 := by
    obtain ⟨c2, r2, m2, q1, q2, q3, q4, -⟩ := Cond.selects_spec (a' (.selects cls Bundle.tFill0 Bundle.tFill0) (by simp [Bundle.ownAtoms]))
    cases Option.some.inj (q1.symm.trans hfound)
    cases Option.some.inj (q2.symm.trans (State.methodFound?_of_named Y.fill0 (by decide)))
    cases Option.some.inj (q3.symm.trans Y.fill0)
    rw [Launch.admits_selectMethod X.admits]; exact q4
  have hselF : selectMethod e.platform s.vm P1.m.cls T.fill = .method T.fill := by
    obtain ⟨c2, r2, m2, q1, q2, q3, q4, -⟩ := Cond.selects_spec (a' (.selects cls Bundle.tFill Bundle.tFill) (by simp [Bundle.ownAtoms]))
    cases Option.some.inj (q1.symm.trans hfound)
    cases Option.some.inj (q2.symm.trans (State.methodFound?_of_named Y.fill (by decide)))
    cases Option.some.inj (q3.symm.trans Y.fill)
    rw [Launch.admits_selectMethod X.admits]; exact q4
  obtain ⟨cellS0, hcS0, hiss⟩ := Y.statics
  obtain ⟨u0, hu0⟩ := Cond.staticRefV Y.unassigned L.unassignedStatic L.statics hcS0 hiss (a' (.isRef (.static Bundle.tN "UNASSIGNED_STACK" Bundle.steD)) (by simp [Bundle.ownAtoms]))
  obtain ⟨sen, hsen⟩ := Cond.staticRefV Y.sentinel L.sentinelStatic L.statics hcS0 hiss (a' (.isRef (.static Bundle.tN "SUPPRESSED_SENTINEL" Bundle.listD)) (by simp [Bundle.ownAtoms]))
  obtain ⟨ci198, i198, fB, hk198, hg198, ha198, hsB, -, hnB, htB, hffB⟩ := Cond.ownField (t := .object "java/lang/Object") Y.found L.cls (by decide +kernel) (a' (.fieldLink Bundle.tN 198 Bundle.tN "backtrace" "Ljava/lang/Object;") (by simp [Bundle.ownAtoms])) (a' (.lays Bundle.tN Bundle.tN "backtrace" "Ljava/lang/Object;") (by simp [Bundle.ownAtoms])) e.platform hpl
  obtain ⟨cellS, hcS', heS, -, hkeep⟩ := X.same.2.2.2.2.2 T.aS cellS0 hcS0
  have hcellS : W.heap[T.aS]? = some cellS := hcS'
  have hout' : ∀ i, (⟨T.aS, i⟩ : Loc) ∉ locs := fun i hmem => by
    have := hlocs _ hmem cellS0 hcS0
    rw [hiss] at this; cases this
  have hknownS : cellS.vm ≠ .unknown := by
    rw [heS]; intro hu
    rw [show cellS0.vm = .unknown from hu] at hiss
    cases hiss
  have hneS : T.aS ≠ a := Nat.ne_of_lt (Nat.lt_of_lt_of_le (Array.getElem?_eq_some_iff.mp hcS0).1 hnew)
  obtain ⟨iM, hffM⟩ := Y.msg
  obtain ⟨tyC, dC, hdC, hdnC⟩ := Cond.laysAt hfound hk Y.cause (a' (.lays cls Bundle.tN "cause" "Ljava/lang/Throwable;") (by simp [Bundle.ownAtoms]))
  obtain ⟨tyS, dS, hdS, hdnS⟩ := Cond.laysAt hfound hk Y.stack (a' (.lays cls Bundle.tN "stackTrace" Bundle.steD) (by simp [Bundle.ownAtoms]))
  obtain ⟨tyP, dP, hdP, hdnP⟩ := Cond.laysAt hfound hk Y.supp (a' (.lays cls Bundle.tN "suppressedExceptions" Bundle.listD) (by simp [Bundle.ownAtoms]))
  obtain ⟨tyM, dM, hdM, hdnM⟩ := Cond.laysAt hfound hk hffM (a' (.lays cls Bundle.tN "detailMessage" "Ljava/lang/String;") (by simp [Bundle.ownAtoms]))
  obtain ⟨tyB, dB, hdB, hdnB⟩ := Cond.laysAt hfound hk hffB (a' (.lays cls Bundle.tN "backtrace" "Ljava/lang/Object;") (by simp [Bundle.ownAtoms]))
  have bC := Cond.laysApart hdB hdC hdnB hdnC (by rw [hnB, Y.causeName]; decide)
  have bS := Cond.laysApart hdB hdS hdnB hdnS (by rw [hnB, Y.stackName]; decide)
  have bP := Cond.laysApart hdB hdP hdnB hdnP (by rw [hnB, Y.suppName]; decide)
  have hskip : SkipFacts T e.platform s (fun u => u) u0 ((preparedCellV T.toThrowableT (freshCell P1.m.cls kX) a u0 sen).withEntry W.cur) :=
    ⟨{ ci198 := ci198, i198 := i198, fBack := fB }, ⟨hk198, hg198, ha198, hsB⟩, by
      have := fresh_default (c := P1.m.cls) tyB
      rw [htB] at this
      simpa [preparedCellV, Cell.setSlot, Cell.withEntry, Array.getElem?_setIfInBounds, bC, bS, bP, bC.symm, bS.symm, bP.symm, defaultValue] using this, fun _ _ => rfl⟩
  obtain ⟨tm, methC, cdC, kC, vm₁, hnC, -, -, -, -, -, -, -, hW₁, st1⟩ := Steps.initColdS (tb := p.tables) (e := e) (below := below) (s := s) (U := W) X.here hexec X.warmed hpl hown (t := Bundle.initS cls) rfl rfl (Bundle.fit_spec hcls).2
    (a' (.methodLink own ic (Bundle.initS cls)) (by simp [Bundle.ownAtoms])) (h (.instanceMethod (Bundle.initS cls)) (by cases names <;> simp [Bundle.ownAtoms, Bundle.chainSAtoms, Bundle.passSAtoms])) (bytes := Bundle.six) (maxL := 2) (h (.code (Bundle.initS cls) Bundle.six 2 none) (by cases names <;> simp [Bundle.ownAtoms, Bundle.chainSAtoms, Bundle.passSAtoms]))
    (f := g) hg (a := a) (msg := msg) (rest := .ref a :: rest) hstack hd6
  cases Option.some.inj (hnC.symm.trans hP1m)
  have X₁ := X.noted hW₁
  obtain ⟨vm₂, X₂, st2⟩ := X₁.ctorMessageOffV hexec (g := { g with stack := .ref a :: rest }) hg hsize T L Z LZ M LM (P1 :: Ps)
    (fun P hP => by rcases List.mem_cons.mp hP with rfl | hP; exact L1; exact hL P hP) ⟨hlink1, hlink⟩ (u0 := u0) (sen := sen) (self := a) hmsg (cell := freshCell P1.m.cls kX) (cellS := cellS)
    hcell (fun _ => by simp) (by simp) rfl rfl hsel0 hselF hcellS hneS hknownS (by rw [hkeep _ (hout' _)]; exact hu0) (by rw [hkeep _ (hout' _)]; exact hsen)
    (Takes.of_laid hk hord tyC (by rw [Y.causeType]; rfl)) (Takes.of_laid hk hord tyS (by rw [Y.stackType]; exact fits_refV_array _ u0)) (Takes.of_laid hk hord tyP (by rw [Y.suppType]; exact fits_refV_object _ sen))
    (Takes.of_laid hk hord tyM (by rw [Y.msgType]; exact fits_refV_object _ ⟨msg, hmsg⟩)) Y.objLocals hskip htr [] hd6
    (by simp only [List.length_cons, hlen]; omega) (by simp only [List.length_cons, hlen]; exact hRlocals)
  have hlt : a < ((W.setVm vm₁).setVm vm₂).heap.size := (Array.getElem?_eq_some_iff.mp hcell).1
  refine ⟨(W.setVm vm₁).setVm vm₂, _, _, X₂, fun y hy => ?_, hlt, rfl, rfl, fun target hwalk => st1 _ (fun acts => ?_)⟩
  · simp only [List.mem_cons, List.not_mem_nil, or_false] at hy
    rcases hy with rfl | rfl | rfl | rfl | rfl <;> rfl
  · rw [doInvoke_state]
    exact st2 _ hwalk
set_option maxHeartbeats 1000000 in
theorem vx_ctorMade0 (X : Stand p l e R s m₀ args below meth c W locs cells slots) (hexec : p.tables.exec = Jvm.exec) (htr : e.platform.stackTraces = false) {own cls : String} {names : List String} {ic : Nat}
    (hown : s.vm.findClass own = some m₀.cls) (hcls : Bundle.fit cls = true) (hnames : ∀ n ∈ names, Bundle.fit n = true)
    (h : ∀ a ∈ Bundle.ownAtoms0 own ic cls names, a.before args s = true)
    (hlocs : ∀ x ∈ locs, ∀ cell, s.heap[x.base]? = some cell → cell.vm.isStatics = false)
    {a : Addr} {cX : ClassId} {kX : Class} (hfoundX : s.vm.findClass cls = some cX) (hkX : s.vm.classes[cX]? = some kX) (hcell : W.heap[a]? = some (freshCell cX kX)) (hnew : s.heap.size ≤ a)
    {g : JFrame} (hg : g.method = m₀) (hsize : g.locals.size = c.maxLocals) {rest : List Value} (hstack : g.stack = .ref a :: .ref a :: rest)
    (hd6 : decode c.code g.pc = .ok (.invokespecial ic, 3))
    (hRframes : names.length + 3 < R.frames) (hRlocals : 2 * g.monitorRoom + ((Value.ref a :: rest).map fun v => v.category).sum + (13 * (names.length + 1) + 41) ≤ R.locals) :
    ∃ (V : State) (ce : Cell) (L : List Loc), Stand p l e R s m₀ args below meth c (V.setCell a ce) (locs ++ L) cells slots ∧ (∀ y ∈ L, y.base = a) ∧ a < V.heap.size ∧ ce.cls = cX ∧ ce.vm = .none ∧
      ∀ target, Steps p.tables e below ((V.setCell a ce).setTop { g with stack := .ref a :: rest, pc := g.pc + 3 }) target → Steps p.tables e below (W.setTop g) target := by
  have howns : e.platform.frameOwnsMonitors = true := by rw [X.admits.platform]
  have hfin : e.platform.finalization = false := by rw [X.admits.platform]
  have hpl : e.platform.magicAccessors = ({} : Platform).magicAccessors := by rw [X.admits.platform]
  have a' : ∀ x, x ∈ Bundle.ownAtoms0 own ic cls names → x.holds args s none s [] = true := fun x hx => h x hx
  obtain ⟨T, Z, L, LZ, Y⟩ := ThrowableC.of_atoms (args := args) howns hfin hpl (fun x hx => h x (by simp [Bundle.ownAtoms0, hx]))
  obtain ⟨P1, Ps, hlen, L1, hL, hP1m, hlink1, hlink⟩ := Bundle.chain0 (args := args) hpl Y.init0 names cls hcls hnames (fun x hx => h x (by simp [Bundle.ownAtoms0, hx]))
  have hfound : s.vm.findClass cls = some P1.m.cls := findClass_of_methodNamed hP1m
  cases Option.some.inj (hfoundX.symm.trans hfound)
  obtain ⟨c1, kX', hc1, hk, hord, -, -, hn6⟩ := Cond.instantiable_spec (a' (.instantiable cls 6) (by simp [Bundle.ownAtoms0]))
  cases Option.some.inj (hc1.symm.trans hfound)
  cases Option.some.inj (hkX.symm.trans hk)
  have hsel0 : selectMethod e.platform s.vm P1.m.cls T.fill0 = .method T.fill0 := by
    obtain ⟨c2, r2, m2, q1, q2, q3, q4, -⟩ := Cond.selects_spec (a' (.selects cls Bundle.tFill0 Bundle.tFill0) (by simp [Bundle.ownAtoms0]))
    cases Option.some.inj (q1.symm.trans hfound)
    cases Option.some.inj (q2.symm.trans (State.methodFound?_of_named Y.fill0 (by decide)))
    cases Option.some.inj (q3.symm.trans Y.fill0)
    rw [Launch.admits_selectMethod X.admits]; exact q4
  have hselF : selectMethod e.platform s.vm P1.m.cls T.fill = .method T.fill := by
    obtain ⟨c2, r2, m2, q1, q2, q3, q4, -⟩ := Cond.selects_spec (a' (.selects cls Bundle.tFill Bundle.tFill) (by simp [Bundle.ownAtoms0]))
    cases Option.some.inj (q1.symm.trans hfound)
    cases Option.some.inj (q2.symm.trans (State.methodFound?_of_named Y.fill (by decide)))
    cases Option.some.inj (q3.symm.trans Y.fill)
    rw [Launch.admits_selectMethod X.admits]; exact q4
  obtain ⟨cellS0, hcS0, hiss⟩ := Y.statics
  obtain ⟨u0, hu0⟩ := Cond.staticRefV Y.unassigned L.unassignedStatic L.statics hcS0 hiss (a' (.isRef (.static Bundle.tN "UNASSIGNED_STACK" Bundle.steD)) (by simp [Bundle.ownAtoms0]))
  obtain ⟨sen, hsen⟩ := Cond.staticRefV Y.sentinel L.sentinelStatic L.statics hcS0 hiss (a' (.isRef (.static Bundle.tN "SUPPRESSED_SENTINEL" Bundle.listD)) (by simp [Bundle.ownAtoms0]))
  obtain ⟨ci198, i198, fB, hk198, hg198, ha198, hsB, -, hnB, htB, hffB⟩ := Cond.ownField (t := .object "java/lang/Object") Y.found L.cls (by decide +kernel) (a' (.fieldLink Bundle.tN 198 Bundle.tN "backtrace" "Ljava/lang/Object;") (by simp [Bundle.ownAtoms0])) (a' (.lays Bundle.tN Bundle.tN "backtrace" "Ljava/lang/Object;") (by simp [Bundle.ownAtoms0])) e.platform hpl
  obtain ⟨cellS, hcS', heS, -, hkeep⟩ := X.same.2.2.2.2.2 T.aS cellS0 hcS0
  have hcellS : W.heap[T.aS]? = some cellS := hcS'
  have hout' : ∀ i, (⟨T.aS, i⟩ : Loc) ∉ locs := fun i hmem => by
    have := hlocs _ hmem cellS0 hcS0
    rw [hiss] at this; cases this
  have hknownS : cellS.vm ≠ .unknown := by
    rw [heS]; intro hu
    rw [show cellS0.vm = .unknown from hu] at hiss
    cases hiss
  have hneS : T.aS ≠ a := Nat.ne_of_lt (Nat.lt_of_lt_of_le (Array.getElem?_eq_some_iff.mp hcS0).1 hnew)
  obtain ⟨iM, hffM⟩ := Y.msg
  obtain ⟨tyC, dC, hdC, hdnC⟩ := Cond.laysAt hfound hk Y.cause (a' (.lays cls Bundle.tN "cause" "Ljava/lang/Throwable;") (by simp [Bundle.ownAtoms0]))
  obtain ⟨tyS, dS, hdS, hdnS⟩ := Cond.laysAt hfound hk Y.stack (a' (.lays cls Bundle.tN "stackTrace" Bundle.steD) (by simp [Bundle.ownAtoms0]))
  obtain ⟨tyP, dP, hdP, hdnP⟩ := Cond.laysAt hfound hk Y.supp (a' (.lays cls Bundle.tN "suppressedExceptions" Bundle.listD) (by simp [Bundle.ownAtoms0]))
  obtain ⟨tyM, dM, hdM, hdnM⟩ := Cond.laysAt hfound hk hffM (a' (.lays cls Bundle.tN "detailMessage" "Ljava/lang/String;") (by simp [Bundle.ownAtoms0]))
  obtain ⟨tyB, dB, hdB, hdnB⟩ := Cond.laysAt hfound hk hffB (a' (.lays cls Bundle.tN "backtrace" "Ljava/lang/Object;") (by simp [Bundle.ownAtoms0]))
  have bC := Cond.laysApart hdB hdC hdnB hdnC (by rw [hnB, Y.causeName]; decide)
  have bS := Cond.laysApart hdB hdS hdnB hdnS (by rw [hnB, Y.stackName]; decide)
  have bP := Cond.laysApart hdB hdP hdnB hdnP (by rw [hnB, Y.suppName]; decide)
  have hskip : SkipFacts T e.platform s (fun u => u) u0 ((preparedCellV T.toThrowableT (freshCell P1.m.cls kX) a u0 sen).withEntry W.cur) :=
    ⟨{ ci198 := ci198, i198 := i198, fBack := fB }, ⟨hk198, hg198, ha198, hsB⟩, by
      have := fresh_default (c := P1.m.cls) tyB
      rw [htB] at this
      simpa [preparedCellV, Cell.setSlot, Cell.withEntry, Array.getElem?_setIfInBounds, bC, bS, bP, bC.symm, bS.symm, bP.symm, defaultValue] using this, fun _ _ => rfl⟩
  obtain ⟨tm, methC, cdC, kC, vm₁, hnC, -, -, -, -, -, -, -, hW₁, st1⟩ := Steps.initCold (tb := p.tables) (e := e) (below := below) (s := s) (U := W) X.here hexec X.warmed hpl hown (t := Bundle.init0 cls) rfl rfl (Bundle.fit_spec hcls).2
    (a' (.methodLink own ic (Bundle.init0 cls)) (by simp [Bundle.ownAtoms0])) (h (.instanceMethod (Bundle.init0 cls)) (by cases names <;> simp [Bundle.ownAtoms0, Bundle.chain0Atoms, Bundle.passAtoms])) (bytes := Bundle.five) (maxL := 1) (h (.code (Bundle.init0 cls) Bundle.five 1 none) (by cases names <;> simp [Bundle.ownAtoms0, Bundle.chain0Atoms, Bundle.passAtoms]))
    (f := g) hg (a := a) (rest := .ref a :: rest) hstack hd6
  cases Option.some.inj (hnC.symm.trans hP1m)
  have X₁ := X.noted hW₁
  obtain ⟨vm₂, X₂, st2⟩ := X₁.ctorPlainOffV hexec (g := { g with stack := .ref a :: rest }) hg hsize T L Z LZ (P1 :: Ps)
    (fun P hP => by rcases List.mem_cons.mp hP with rfl | hP; exact L1; exact hL P hP) ⟨hlink1, hlink⟩ (u0 := u0) (sen := sen) (self := a) (cell := freshCell P1.m.cls kX) (cellS := cellS)
    hcell (fun _ => by simp) (by simp) rfl rfl hsel0 hselF hcellS hneS hknownS (by rw [hkeep _ (hout' _)]; exact hu0) (by rw [hkeep _ (hout' _)]; exact hsen)
    (Takes.of_laid hk hord tyC (by rw [Y.causeType]; rfl)) (Takes.of_laid hk hord tyS (by rw [Y.stackType]; exact fits_refV_array _ u0)) (Takes.of_laid hk hord tyP (by rw [Y.suppType]; exact fits_refV_object _ sen)) Y.objLocals hskip htr [] hd6
    (by simp only [List.length_cons, hlen]; omega) (by simp only [List.length_cons, hlen]; exact hRlocals)
  have hlt : a < ((W.setVm vm₁).setVm vm₂).heap.size := (Array.getElem?_eq_some_iff.mp hcell).1
  refine ⟨(W.setVm vm₁).setVm vm₂, _, _, X₂, fun y hy => ?_, hlt, rfl, rfl, fun target hwalk => st1 _ (fun acts => ?_)⟩
  · simp only [List.mem_cons, List.not_mem_nil, or_false] at hy
    rcases hy with rfl | rfl | rfl | rfl <;> rfl
  · rw [doInvoke_state]
    exact st2 _ hwalk
end VXK
section VXK2
variable {p : Program} {l : Launch} {e : Env} {R : Room} {s : State} {m : MethodId} {args : Array Value} {below : List Frame} {meth : Method} {c : Code} {H : Heap} {locs : List Loc} {cells slots : Nat} {Q : State → Prop}
variable {ls : Array Slot} {rest : List Value} {D : va_G} {cl : List vw_C} {tys : List (ClassId × FieldType)} {ws : va_W}
/-- 'new E("text")' that isn't thrown at once: the object goes on the stack -/
theorem vx_makeS {cc : ByteArray} {pc : Nat} (hexec : p.tables.exec = Jvm.exec) (hb : c.code = cc) (hl : l.stackTraces = false) {own cls text : String} {names : List String} {ik is ic sa ci : Nat} {A : Nat → Prop} {T0 : u_T}
    (hown : s.vm.findClass own = some m.cls) (hcls : Bundle.fit cls = true) (hnames : ∀ n ∈ names, Bundle.fit n = true)
    (hk : (Cond.classLink own ik cls).before args s = true) (hini : (Cond.initialized cls).before args s = true) (hstr : vk_R own is text sa s) (hat : ∀ w ∈ vx_atS own ic cls names, w.before args s = true)
    (hgood : ∀ w ∈ Cond.classLink own ik cls :: Cond.initialized cls :: vx_atS own ic cls names, vx_ot w = true)
    (hU : vx_Zq Bundle.tN "UNASSIGNED_STACK" Bundle.steD A s s.heap) (hN : vx_Zq Bundle.tN "SUPPRESSED_SENTINEL" Bundle.listD A s s.heap) (hS : va_S A s.heap H locs) (hsize : ls.size = c.maxLocals)
    (d0 : decode cc pc = .ok (.new ik, 3)) (d3 : decode cc (pc + 3) = .ok (.dup, 1)) (d4 : decode cc (pc + 4) = .ok (.ldc is, 2)) (d6 : decode cc (pc + 6) = .ok (.invokespecial ic, 3))
    (hK : va_K D cl tys s) (hP : va_P D cl ws H) (hD : va_D A ws) (hA : ∀ q, s.heap.size ≤ q → A q) (hc : cl[ci]? = some (cls, T0, 0))
    (hRframes : names.length + 3 < R.frames) (hRlocals : (rest.map fun v => v.category).sum + (13 * (names.length + 1) + 43) ≤ R.locals) (hRcells : cells + 1 ≤ R.cells) (hRslots : slots + 6 ≤ R.slots)
    (kk : ∀ (q : Nat) (H1 : Heap), va_P D cl (ws ++ [(q, .inr (ci, []))]) H1 → va_D A (ws ++ [(q, .inr (ci, []))]) → va_S A s.heap H1 locs → W p l e R s m args below meth c H1 locs (cells + 1) (slots + 6) Q (F0 m (pc + 9) ls (.ref q :: rest))) :
    W p l e R s m args below meth c H locs cells slots Q (F0 m pc ls rest) := by
  intro T hT X
  subst hT
  have htr : e.platform.stackTraces = false := (show e.platform.stackTraces = l.stackTraces by rw [X.admits.platform]).trans hl
  have Y := vx_rebase X (R' := { frames := R.frames, locals := R.locals, cells := 1, slots := 6 }) (Nat.le_refl _) (Nat.le_refl _) hRcells hRslots
  obtain ⟨s', hA'⟩ : ∃ z, z = (T.setVm s.vm).setFrames (.invoking m args :: below) := ⟨_, rfl⟩
  rw [← hA'] at Y
  have hvm : s'.vm = s.vm := by rw [hA']; rfl
  have hhp : s'.heap = T.heap := by rw [hA']; rfl
  have hW0 : s.WarmedH s'.vm := by rw [hvm]; exact State.WarmedH.refl s
  have hat' : ∀ w ∈ vx_atS own ic cls names, w.before args s' = true := fun w hw => vx_ot_at hW0 hvm.symm (hgood w (List.mem_cons_of_mem _ (List.mem_cons_of_mem _ hw))) (hat w hw)
  have hk' : (Cond.classLink own ik cls).before args s' = true := vx_ot_at hW0 hvm.symm (hgood _ List.mem_cons_self) hk
  have hini' : (Cond.initialized cls).before args s' = true := vx_ot_at hW0 hvm.symm (hgood _ (List.mem_cons_of_mem _ List.mem_cons_self)) hini
  have hU' : vx_Zq Bundle.tN "UNASSIGNED_STACK" Bundle.steD A s' s'.heap := by rw [hhp]; exact vx_Zq.moved hW0.alike (hU.kept hS.2.1)
  have hN' : vx_Zq Bundle.tN "SUPPRESSED_SENTINEL" Bundle.listD A s' s'.heap := by rw [hhp]; exact vx_Zq.moved hW0.alike (hN.kept hS.2.1)
  have h : ∀ w ∈ Bundle.ownAtoms own ic cls names, w.before args s' = true := vx_own hat' (vx_isRefq hU'.1) (vx_isRefq hN'.1) hU'.2.word hN'.2.word
  have hown' : s'.vm.findClass own = some m.cls := by rw [hvm]; exact hown
  have hins : (Cond.instantiable cls 6).before args s' = true := h _ (by simp [Bundle.ownAtoms])
  obtain ⟨vm₁, cX, kX, hfX, hkX, -, -, X₁, st1⟩ := Y.newCold hexec (own := own) (C := cls) (index := ik) (n := 6) hown' hk' hins hini'
    (g := F0 m pc ls rest) rfl (by rw [hb]; exact d0) (Nat.le_refl _) (Nat.le_refl _)
  generalize hT1 : (T.setVm vm₁).pushCell { cls := cX, slots := kX.instanceTypes.map defaultValue, vm := .none } = T1 at X₁ st1
  have hcat : (Value.ref T.heap.size).category = 1 := rfl
  have hcellA : T1.heap[T.heap.size]? = some (freshCell cX kX) := by rw [← hT1]; exact State.heap_pushCell_size _ _
  have d3' : decode c.code (pc + 3) = .ok (.dup, 1) := by rw [hb]; exact d3
  have d4' : decode c.code (pc + 4) = .ok (.ldc is, 2) := by rw [hb]; exact d4
  have hstr' : vk_R own is text sa s' := vk_R.warm hW0 hstr
  obtain ⟨V, ce, L, Z, hL, hlt, hcl9, hvm9, st⟩ := vx_ctorMadeS X₁ hexec htr (own := own) (cls := cls) (names := names) (ic := ic) hown' hcls hnames h (fun x hx => nomatch hx) hfX hkX hcellA (by rw [hhp]; exact Nat.le_refl _) (msg := .ref sa) rfl
    (g := { method := m, pc := pc + 6, locals := ls, stack := .ref sa :: .ref T.heap.size :: .ref T.heap.size :: rest, locked := none }) rfl hsize (rest := rest) rfl
    (by rw [hb]; exact d6) hRframes (by simp only [List.map_cons, List.sum_cons, hcat]; omega)
  have Z0 := Stand.forget (locs := []) Z (fun y hy => by rw [hL y hy, hhp]; exact Nat.le_refl _)
  obtain ⟨f1, f2⟩ := vx_frame Z0.same
  rw [hhp] at f1 f2
  have hcid : ce.cls = D.1 ci := by
    rw [hcl9]
    have h1 := (hK.1 ci _ hc).2.1
    rw [hvm] at hfX
    exact Option.some.inj (hfX.symm.trans h1)
  have hh : (V.setCell T.heap.size ce).heap[T.heap.size]? = some ce := heapAt_setCell_self (s := V) ce hlt
  subst hA'
  have X5 := vx_back9 X Y Z0
  have X6 : Stand p l e R s m args below meth c (V.setCell T.heap.size ce) locs (cells + 1) (slots + 6) := { X5 with same := X5.same.mono (by omega) (by omega) }
  have hk9 : ∀ (k : Nat) (x : Nat × va_E), ws[k]? = some x → (V.setCell T.heap.size ce).heap[x.1]? = T.heap[x.1]? := fun k x hx => f2 x.1 ((hP k x hx).lt) (fun z hz => nomatch hz)
  obtain ⟨t, a1, b1⟩ := kk T.heap.size (V.setCell T.heap.size ce).heap ((hP.kept hk9).app (fun k x hx => by
      have hz : k < 1 := (List.getElem?_eq_some_iff.mp hx).1
      rw [show k = 0 by omega] at hx
      cases hx
      exact ⟨_, hc, ce, hh, hcid, hvm9, fun k hk => absurd hk (Nat.not_lt_zero k)⟩)) (hD.push hP rfl (hA _ hS.1)) ⟨Nat.le_trans hS.1 f1, fun q h1 h2 => (f2 q (Nat.lt_of_lt_of_le h1 hS.1) (fun z hz => nomatch hz)).trans (hS.2.1 q h1 h2), hS.2.2⟩ _ rfl X6
  refine ⟨t, st1 _ ?_, b1⟩
  show Steps p.tables e below (T1.setTop { method := m, pc := pc + 3, locals := ls, stack := .ref T.heap.size :: rest, locked := none }) _
  jvm_step X₁.here [X₁.here.top, hexec, d3', Value.category]
  exact X₁.ldcString hexec (own := own) (text := text) (index := is) (a := sa) hown' hstr'.1 hstr'.2
    (g := { method := m, pc := pc + 4, locals := ls, stack := .ref T.heap.size :: .ref T.heap.size :: rest, locked := none }) rfl d4' _ (st _ a1)
/-- 'new E()' that isn't thrown at once: the object goes on the stack -/
theorem vx_make0 {cc : ByteArray} {pc : Nat} (hexec : p.tables.exec = Jvm.exec) (hb : c.code = cc) (hl : l.stackTraces = false) {own cls : String} {names : List String} {ik ic ci : Nat} {A : Nat → Prop} {T0 : u_T}
    (hown : s.vm.findClass own = some m.cls) (hcls : Bundle.fit cls = true) (hnames : ∀ n ∈ names, Bundle.fit n = true)
    (hk : (Cond.classLink own ik cls).before args s = true) (hini : (Cond.initialized cls).before args s = true) (hat : ∀ w ∈ vx_at0 own ic cls names, w.before args s = true)
    (hgood : ∀ w ∈ Cond.classLink own ik cls :: Cond.initialized cls :: vx_at0 own ic cls names, vx_ot w = true)
    (hU : vx_Zq Bundle.tN "UNASSIGNED_STACK" Bundle.steD A s s.heap) (hN : vx_Zq Bundle.tN "SUPPRESSED_SENTINEL" Bundle.listD A s s.heap) (hS : va_S A s.heap H locs) (hsize : ls.size = c.maxLocals)
    (d0 : decode cc pc = .ok (.new ik, 3)) (d3 : decode cc (pc + 3) = .ok (.dup, 1)) (d4 : decode cc (pc + 4) = .ok (.invokespecial ic, 3))
    (hK : va_K D cl tys s) (hP : va_P D cl ws H) (hD : va_D A ws) (hA : ∀ q, s.heap.size ≤ q → A q) (hc : cl[ci]? = some (cls, T0, 0))
    (hRframes : names.length + 3 < R.frames) (hRlocals : (rest.map fun v => v.category).sum + (13 * (names.length + 1) + 42) ≤ R.locals) (hRcells : cells + 1 ≤ R.cells) (hRslots : slots + 6 ≤ R.slots)
    (kk : ∀ (q : Nat) (H1 : Heap), va_P D cl (ws ++ [(q, .inr (ci, []))]) H1 → va_D A (ws ++ [(q, .inr (ci, []))]) → va_S A s.heap H1 locs → W p l e R s m args below meth c H1 locs (cells + 1) (slots + 6) Q (F0 m (pc + 7) ls (.ref q :: rest))) :
    W p l e R s m args below meth c H locs cells slots Q (F0 m pc ls rest) := by
  intro T hT X
  subst hT
  have htr : e.platform.stackTraces = false := (show e.platform.stackTraces = l.stackTraces by rw [X.admits.platform]).trans hl
  have Y := vx_rebase X (R' := { frames := R.frames, locals := R.locals, cells := 1, slots := 6 }) (Nat.le_refl _) (Nat.le_refl _) hRcells hRslots
  obtain ⟨s', hA'⟩ : ∃ z, z = (T.setVm s.vm).setFrames (.invoking m args :: below) := ⟨_, rfl⟩
  rw [← hA'] at Y
  have hvm : s'.vm = s.vm := by rw [hA']; rfl
  have hhp : s'.heap = T.heap := by rw [hA']; rfl
  have hW0 : s.WarmedH s'.vm := by rw [hvm]; exact State.WarmedH.refl s
  have hat' : ∀ w ∈ vx_at0 own ic cls names, w.before args s' = true := fun w hw => vx_ot_at hW0 hvm.symm (hgood w (List.mem_cons_of_mem _ (List.mem_cons_of_mem _ hw))) (hat w hw)
  have hk' : (Cond.classLink own ik cls).before args s' = true := vx_ot_at hW0 hvm.symm (hgood _ List.mem_cons_self) hk
  have hini' : (Cond.initialized cls).before args s' = true := vx_ot_at hW0 hvm.symm (hgood _ (List.mem_cons_of_mem _ List.mem_cons_self)) hini
  have hU' : vx_Zq Bundle.tN "UNASSIGNED_STACK" Bundle.steD A s' s'.heap := by rw [hhp]; exact vx_Zq.moved hW0.alike (hU.kept hS.2.1)
  have hN' : vx_Zq Bundle.tN "SUPPRESSED_SENTINEL" Bundle.listD A s' s'.heap := by rw [hhp]; exact vx_Zq.moved hW0.alike (hN.kept hS.2.1)
  have h : ∀ w ∈ Bundle.ownAtoms0 own ic cls names, w.before args s' = true := vx_own hat' (vx_isRefq hU'.1) (vx_isRefq hN'.1) hU'.2.word hN'.2.word
  have hown' : s'.vm.findClass own = some m.cls := by rw [hvm]; exact hown
  have hins : (Cond.instantiable cls 6).before args s' = true := h _ (by simp [Bundle.ownAtoms0])
  obtain ⟨vm₁, cX, kX, hfX, hkX, -, -, X₁, st1⟩ := Y.newCold hexec (own := own) (C := cls) (index := ik) (n := 6) hown' hk' hins hini'
    (g := F0 m pc ls rest) rfl (by rw [hb]; exact d0) (Nat.le_refl _) (Nat.le_refl _)
  generalize hT1 : (T.setVm vm₁).pushCell { cls := cX, slots := kX.instanceTypes.map defaultValue, vm := .none } = T1 at X₁ st1
  have hcat : (Value.ref T.heap.size).category = 1 := rfl
  have hcellA : T1.heap[T.heap.size]? = some (freshCell cX kX) := by rw [← hT1]; exact State.heap_pushCell_size _ _
  have d3' : decode c.code (pc + 3) = .ok (.dup, 1) := by rw [hb]; exact d3
  obtain ⟨V, ce, L, Z, hL, hlt, hcl9, hvm9, st⟩ := vx_ctorMade0 X₁ hexec htr (own := own) (cls := cls) (names := names) (ic := ic) hown' hcls hnames h (fun x hx => nomatch hx) hfX hkX hcellA (by rw [hhp]; exact Nat.le_refl _)
    (g := { method := m, pc := pc + 4, locals := ls, stack := .ref T.heap.size :: .ref T.heap.size :: rest, locked := none }) rfl hsize (rest := rest) rfl
    (by rw [hb]; exact d4) hRframes (by simp only [List.map_cons, List.sum_cons, hcat]; omega)
  have Z0 := Stand.forget (locs := []) Z (fun y hy => by rw [hL y hy, hhp]; exact Nat.le_refl _)
  obtain ⟨f1, f2⟩ := vx_frame Z0.same
  rw [hhp] at f1 f2
  have hcid : ce.cls = D.1 ci := by
    rw [hcl9]
    have h1 := (hK.1 ci _ hc).2.1
    rw [hvm] at hfX
    exact Option.some.inj (hfX.symm.trans h1)
  have hh : (V.setCell T.heap.size ce).heap[T.heap.size]? = some ce := heapAt_setCell_self (s := V) ce hlt
  subst hA'
  have X5 := vx_back9 X Y Z0
  have X6 : Stand p l e R s m args below meth c (V.setCell T.heap.size ce) locs (cells + 1) (slots + 6) := { X5 with same := X5.same.mono (by omega) (by omega) }
  have hk9 : ∀ (k : Nat) (x : Nat × va_E), ws[k]? = some x → (V.setCell T.heap.size ce).heap[x.1]? = T.heap[x.1]? := fun k x hx => f2 x.1 ((hP k x hx).lt) (fun z hz => nomatch hz)
  obtain ⟨t, a1, b1⟩ := kk T.heap.size (V.setCell T.heap.size ce).heap ((hP.kept hk9).app (fun k x hx => by
      have hz : k < 1 := (List.getElem?_eq_some_iff.mp hx).1
      rw [show k = 0 by omega] at hx
      cases hx
      exact ⟨_, hc, ce, hh, hcid, hvm9, fun k hk => absurd hk (Nat.not_lt_zero k)⟩)) (hD.push hP rfl (hA _ hS.1)) ⟨Nat.le_trans hS.1 f1, fun q h1 h2 => (f2 q (Nat.lt_of_lt_of_le h1 hS.1) (fun z hz => nomatch hz)).trans (hS.2.1 q h1 h2), hS.2.2⟩ _ rfl X6
  refine ⟨t, st1 _ ?_, b1⟩
  show Steps p.tables e below (T1.setTop { method := m, pc := pc + 3, locals := ls, stack := .ref T.heap.size :: rest, locked := none }) _
  jvm_step X₁.here [X₁.here.top, hexec, d3', Value.category]
  exact st _ a1
/-- 'throw x' of an object that was made before -/
theorem vx_athrow {cc : ByteArray} {pc : Nat} (hexec : p.tables.exec = Jvm.exec) (hb : c.code = cc) {q : Addr} (hdg : decode cc pc = .ok (.athrow, 1)) (k : vx_W p l e R s m args below meth c H locs cells slots Q (F0 m pc ls rest) q) : W p l e R s m args below meth c H locs cells slots Q (F0 m pc ls (.ref q :: rest)) := by
  intro T hT X
  obtain ⟨t, st, hq⟩ := k T hT X
  refine ⟨t, ?_, hq⟩
  have hdg' : decode c.code pc = .ok (.athrow, 1) := by rw [hb]; exact hdg
  jvm_step X.here [X.here.top, hexec, hdg', athrow.wp_sem]
  exact st
end VXK2
/-! ===== END ===== -/
/-! ===== BEGIN a constructor that throws (launches without stack traces) ===== -/
section VXIA
variable {p : Program} {l : Launch} {e : Env} {R : Room} {s : State} {m : MethodId} {args : Array Value} {below : List Frame} {meth : Method} {c : Code} {T : State} {locs : List Loc} {cells slots : Nat}
theorem vx_callI (X : Stand p l e R s m args below meth c T locs cells slots) (hexec : p.tables.exec = Jvm.exec) {own : String} {index : Nat} {y : MethodName} {bytes : ByteArray} {maxL : Nat}
    (hown : s.vm.findClass own = some m.cls) (hy1 : y.name = "<init>") (hlink : (Cond.methodLink own index y).before args s = true) (hinst : (Cond.instanceMethod y).before args s = true)
    (hcode : (Cond.code y bytes maxL none).before args s = true) (hy : y.cls ≠ "java/lang/invoke/MethodHandle" ∧ y.cls ≠ "java/lang/invoke/VarHandle")
    {W9 : Nat} {Pre : Pt → Array Value → Prop} {Post : Pt → Array Value → Option Value → Pt → Prop} {PostX : Pt → Array Value → Addr → Pt → Prop} (hK : vx_Back l R p e below s args y 3 W9 Pre Post PostX)
    {g : JFrame} (hg : g.method = m) (hsize : g.locals.size = c.maxLocals) {a : Addr} {argsL rest : List Value} (hlen : ∀ sig, parseMethodDescriptor y.desc = some sig → argsL.length = sig.parameters.length)
    (hstack : g.stack = argsL.reverse ++ .ref a :: rest) (hW : 2 * g.monitorRoom + (rest.map fun v => v.category).sum ≤ W9) (hdg : decode c.code g.pc = .ok (.invokespecial index, 3))
    (hpre : ∀ vm₁, s.WarmedH vm₁ → Pre ⟨T.setVm vm₁, locs, cells, slots⟩ (Value.ref a :: argsL).toArray) :
    (∃ (v : Option Value) (vm₁ : Vm) (B : Pt), s.WarmedH vm₁ ∧ Stand p l e R s m args below meth c B.U B.locs B.cells B.slots ∧ Post ⟨T.setVm vm₁, locs, cells, slots⟩ (Value.ref a :: argsL).toArray v B ∧
      ∀ target, Steps p.tables e below (B.U.setTop { g with pc := g.pc + 3, stack := v.toList ++ rest }) target → Steps p.tables e below (T.setTop g) target) ∨
    (∃ (q : Addr) (vm₁ : Vm) (B : Pt), s.WarmedH vm₁ ∧ Stand p l e R s m args below meth c B.U B.locs B.cells B.slots ∧ PostX ⟨T.setVm vm₁, locs, cells, slots⟩ (Value.ref a :: argsL).toArray q B ∧
      Steps p.tables e below (T.setTop g) ((B.U.setTop { g with stack := rest }).pushFrame (.throwing q))) := by
  subst hg
  have hpl : e.platform.magicAccessors = ({} : Platform).magicAccessors := by rw [X.admits.platform]
  obtain ⟨mk, methM, cM, kP, vm₁, hnamed, hmethM, hcodeM, -, hlocalsM, -, hkP, -, hW₁, hstep₁⟩ := Steps.initColdArgs (e := e) X.here hexec X.warmed hpl hown hy1 hy hlink hinst hcode (f := g) rfl hlen hstack hdg
  have X₁ := X.noted hW₁
  rcases hK g.method meth c ⟨T.setVm vm₁, locs, cells, slots⟩ { g with stack := rest } (.invokespecial index) mk (Value.ref a :: argsL).toArray X₁ rfl hsize hdg hW (X₁.named hnamed) (hpre vm₁ X₁.warmed) with ⟨v, B, X', hpost, hsteps⟩ | ⟨q, B, X', hpost, hsteps⟩
  · exact Or.inl ⟨v, vm₁, B, X₁.warmed, X', hpost, fun target h => hstep₁ _ fun acts => by rw [doInvoke_state]; exact hsteps.trans h⟩
  · exact Or.inr ⟨q, vm₁, B, X₁.warmed, X', hpost, hstep₁ _ fun acts => by rw [doInvoke_state]; exact hsteps⟩
end VXIA
section VXIB
variable {p : Program} {l : Launch} {e : Env} {R : Room} {s : State} {m : MethodId} {args : Array Value} {below : List Frame} {meth : Method} {c : Code} {H : Heap} {locs : List Loc} {cells slots : Nat}
variable {y : MethodName} {bytes cc : ByteArray} {maxL nL mc ms n index : Nat} {ret : Option FieldType} {ws : List Cond} {rm : Room} {Pc : Array Value → State → Prop} {Qc : Array Value → State → Outcome → State → Prop} {XC : String → State → State → Prop} {free : Addr → Prop} {Ts : List Cond} {own C : String} {b : Addr} {As rest : List Value} {g : JFrame}
theorem vx_runI (S : CallFix p m c cc nL s args Ts own) (hM : vx_Met l y ws rm Pc Qc XC mc ms free) (cw : CallB R s args own index y bytes maxL none ws rm mc ms n ∧ y.name = "<init>" ∧ (Cond.instanceMethod y).before args s = true) (hp : PreS s H Pc (.ref b :: As))
    (hg : g.method = m) (hn : As.length = n) (hsize : g.locals.size = nL) (hstack : g.stack = As.reverse ++ .ref b :: rest) (hW : 2 * g.monitorRoom + (rest.map fun v => v.category).sum ≤ 8) (hdg : decode cc g.pc = .ok (.invokespecial index, 3)) (hf : cells + mc ≤ R.cells ∧ slots + ms ≤ R.slots) :
    vx_Run p l e R s m args below meth c H locs cells slots mc ms g rest (Qc (Value.ref b :: As).toArray) XC free := by
  have hK : vx_Back l R p e below s args y 3 8 (PreOf R mc ms Pc) (PostOf Qc mc ms free) (vx_Post XC mc ms free) := vx_callBack cw.1 hM hp.1
  obtain ⟨⟨-, -, -, -, -, -, hcode, -, hy, hlen, hl⟩, hy1, hin⟩ := cw
  obtain ⟨hx, hb, hml, ho, -⟩ := S
  have hPc := hp.2
  intro T hT X
  rcases vx_callI X hx (bytes := bytes) (maxL := maxL) ho hy1 hl hin hcode hy hK hg (hsize.trans hml.symm) (a := b) (argsL := As) (rest := rest) (fun sig h => hn.trans (hlen sig h)) hstack hW (by rw [hb]; exact hdg)
    (fun vm₁ hW₁ => ⟨hf.1, hf.2, hPc (T.setVm vm₁) hT hW₁⟩) with ⟨v, vm₁, ⟨U', l2, c2, s2⟩, hW₁, X', ⟨g', mk, t, L, e1, e2, hq, h1, hL, h2, h3⟩, st⟩ | ⟨q, vm₁, ⟨U', l2, c2, s2⟩, hW₁, X', ⟨g', mk, t, L, E, ce, e1, e2, hq, hce, hcv, hcl, h1, hL, h2, h3⟩, st⟩
  · dsimp only [Pt.U, Pt.locs, Pt.cells, Pt.slots] at X' e1 e2 h1 h2 h3 st
    subst h1; subst h2; subst h3
    exact Or.inl ⟨v, (T.setVm vm₁).calling g' mk (Value.ref b :: As).toArray, t, U', L, hT, X', hL, e1, e2, hq, st⟩
  · dsimp only [Pt.U, Pt.locs, Pt.cells, Pt.slots] at X' e1 e2 h1 h2 h3 st hcl
    subst h1; subst h2; subst h3
    exact Or.inr ⟨q, (T.setVm vm₁).calling g' mk (Value.ref b :: As).toArray, t, U', L, E, ce, hT, X', hL, e1, e2, hq, hce, hcv, vx_cls hW₁ hcl, st⟩
end VXIB
/-! ===== END ===== -/
/-! ===== BEGIN a private constructor of a nest mate that throws ===== -/
section VXIC
variable {p : Program} {l : Launch} {e : Env} {R : Room} {s : State} {m : MethodId} {args : Array Value} {below : List Frame} {meth : Method} {c : Code} {T : State} {locs : List Loc} {cells slots : Nat}
theorem vx_callIN (X : Stand p l e R s m args below meth c T locs cells slots) (hexec : p.tables.exec = Jvm.exec) {own : String} {index : Nat} {host : String} {y : MethodName} {bytes : ByteArray} {maxL : Nat}
    (hown : s.vm.findClass own = some m.cls) (hy1 : y.name = "<init>") (hlink : (Cond.methodLinkNest own index y host).before args s = true) (hinst : (Cond.instanceMethod y).before args s = true)
    (hcode : (Cond.code y bytes maxL none).before args s = true) (hy : y.cls ≠ "java/lang/invoke/MethodHandle" ∧ y.cls ≠ "java/lang/invoke/VarHandle")
    {W9 : Nat} {Pre : Pt → Array Value → Prop} {Post : Pt → Array Value → Option Value → Pt → Prop} {PostX : Pt → Array Value → Addr → Pt → Prop} (hK : vx_Back l R p e below s args y 3 W9 Pre Post PostX)
    {g : JFrame} (hg : g.method = m) (hsize : g.locals.size = c.maxLocals) {a : Addr} {argsL rest : List Value} (hlen : ∀ sig, parseMethodDescriptor y.desc = some sig → argsL.length = sig.parameters.length)
    (hstack : g.stack = argsL.reverse ++ .ref a :: rest) (hW : 2 * g.monitorRoom + (rest.map fun v => v.category).sum ≤ W9) (hdg : decode c.code g.pc = .ok (.invokespecial index, 3))
    (hpre : ∀ vm₁, s.WarmedH vm₁ → Pre ⟨T.setVm vm₁, locs, cells, slots⟩ (Value.ref a :: argsL).toArray) :
    (∃ (v : Option Value) (vm₁ : Vm) (B : Pt), s.WarmedH vm₁ ∧ Stand p l e R s m args below meth c B.U B.locs B.cells B.slots ∧ Post ⟨T.setVm vm₁, locs, cells, slots⟩ (Value.ref a :: argsL).toArray v B ∧
      ∀ target, Steps p.tables e below (B.U.setTop { g with pc := g.pc + 3, stack := v.toList ++ rest }) target → Steps p.tables e below (T.setTop g) target) ∨
    (∃ (q : Addr) (vm₁ : Vm) (B : Pt), s.WarmedH vm₁ ∧ Stand p l e R s m args below meth c B.U B.locs B.cells B.slots ∧ PostX ⟨T.setVm vm₁, locs, cells, slots⟩ (Value.ref a :: argsL).toArray q B ∧
      Steps p.tables e below (T.setTop g) ((B.U.setTop { g with stack := rest }).pushFrame (.throwing q))) := by
  subst hg
  have hpl : e.platform.magicAccessors = ({} : Platform).magicAccessors := by rw [X.admits.platform]
  obtain ⟨mk, methM, cM, kP, vm₁, hnamed, hmethM, hcodeM, -, hlocalsM, -, hkP, -, hW₁, hstep₁⟩ := Steps.initColdArgsNest (e := e) X.here hexec X.warmed hpl hown hy1 hy hlink hinst hcode (f := g) rfl hlen hstack hdg
  have X₁ := X.noted hW₁
  rcases hK g.method meth c ⟨T.setVm vm₁, locs, cells, slots⟩ { g with stack := rest } (.invokespecial index) mk (Value.ref a :: argsL).toArray X₁ rfl hsize hdg hW (X₁.named hnamed) (hpre vm₁ X₁.warmed) with ⟨v, B, X', hpost, hsteps⟩ | ⟨q, B, X', hpost, hsteps⟩
  · exact Or.inl ⟨v, vm₁, B, X₁.warmed, X', hpost, fun target h => hstep₁ _ fun acts => by rw [doInvoke_state]; exact hsteps.trans h⟩
  · exact Or.inr ⟨q, vm₁, B, X₁.warmed, X', hpost, hstep₁ _ fun acts => by rw [doInvoke_state]; exact hsteps⟩
end VXIC
section VXID
variable {p : Program} {l : Launch} {e : Env} {R : Room} {s : State} {m : MethodId} {args : Array Value} {below : List Frame} {meth : Method} {c : Code} {H : Heap} {locs : List Loc} {cells slots : Nat}
theorem vx_runIN {y : MethodName} {bytes cc : ByteArray} {maxL nL mc ms n index : Nat} {ws : List Cond} {rm : Room} {Pc : Array Value → State → Prop} {Qc : Array Value → State → Outcome → State → Prop} {XC : String → State → State → Prop} {free : Addr → Prop} {Ts : List Cond} {own host : String} {b : Addr} {As rest : List Value} {g : JFrame}
    (S : CallFix p m c cc nL s args Ts own) (hM : vx_Met l y ws rm Pc Qc XC mc ms free) (cw : va_CN R s args own index y host bytes maxL none ws rm mc ms n ∧ y.name = "<init>" ∧ (Cond.instanceMethod y).before args s = true) (hp : PreS s H Pc (.ref b :: As))
    (hg : g.method = m) (hn : As.length = n) (hsize : g.locals.size = nL) (hstack : g.stack = As.reverse ++ .ref b :: rest) (hW : 2 * g.monitorRoom + (rest.map fun v => v.category).sum ≤ 8) (hdg : decode cc g.pc = .ok (.invokespecial index, 3)) (hf : cells + mc ≤ R.cells ∧ slots + ms ≤ R.slots) :
    vx_Run p l e R s m args below meth c H locs cells slots mc ms g rest (Qc (Value.ref b :: As).toArray) XC free := by
  obtain ⟨⟨⟨hrc, hrs, hfr, hlo, hws, hcw⟩, hcode, hini, hy, hlen, hl⟩, hx1, hx2⟩ := cw
  have hK : vx_Back l R p e below s args y 3 8 (PreOf R mc ms Pc) (PostOf Qc mc ms free) (vx_Post XC mc ms free) := vx_back (bytes := bytes) (maxL := maxL) (ret := none) hM hp.1 hrc hrs hfr hlo hws hcw (fun a' U hW => word_at hW (Or.inl (by first | rfl | simp [Cond.onTables, Cond.keeps, Cond.steady])) hini)
  obtain ⟨hx, hb, hml, ho, -⟩ := S
  have hPc := hp.2
  intro T hT X
  rcases vx_callIN X hx (bytes := bytes) (maxL := maxL) ho hx1 hl hx2 hcode hy hK hg (hsize.trans hml.symm) (a := b) (argsL := As) (rest := rest) (fun sig h => hn.trans (hlen sig h)) hstack hW (by rw [hb]; exact hdg)
    (fun vm₁ hW₁ => ⟨hf.1, hf.2, hPc (T.setVm vm₁) hT hW₁⟩) with ⟨v, vm₁, ⟨U', l2, c2, s2⟩, hW₁, X', ⟨g', mk, t, L, e1, e2, hq, h1, hL, h2, h3⟩, st⟩ | ⟨q, vm₁, ⟨U', l2, c2, s2⟩, hW₁, X', ⟨g', mk, t, L, E, ce, e1, e2, hq, hce, hcv, hcl, h1, hL, h2, h3⟩, st⟩
  · dsimp only [Pt.U, Pt.locs, Pt.cells, Pt.slots] at X' e1 e2 h1 h2 h3 st
    subst h1; subst h2; subst h3
    exact Or.inl ⟨v, (T.setVm vm₁).calling g' mk (Value.ref b :: As).toArray, t, U', L, hT, X', hL, e1, e2, hq, st⟩
  · dsimp only [Pt.U, Pt.locs, Pt.cells, Pt.slots] at X' e1 e2 h1 h2 h3 st hcl
    subst h1; subst h2; subst h3
    exact Or.inr ⟨q, (T.setVm vm₁).calling g' mk (Value.ref b :: As).toArray, t, U', L, E, ce, hT, X', hL, e1, e2, hq, hce, hcv, vx_cls hW₁ hcl, st⟩
end VXID
/-! ===== END ===== -/
/-! ===== BEGIN a method of a class above, found by the receiver, that may throw (follows va_callVU, va_runU of this kit) ===== -/
section
variable {p : Program} {l : Launch} {e : Env} {R : Room} {s : State} {m : MethodId} {args : Array Value} {below : List Frame} {meth : Method} {c : Code} {H : Heap} {locs : List Loc} {cells slots : Nat}
theorem vx_callVU {T : State} {locs : List Loc} {cells slots : Nat} (X : Stand p l e R s m args below meth c T locs cells slots) (hexec : p.tables.exec = Jvm.exec) {own C owner : String} {index : Nat} {x y : MethodName} {bytes : ByteArray} {maxL : Nat} {ret : Option FieldType}
    (hown : s.vm.findClass own = some m.cls) (hlink : (Cond.methodLink own index x).before args s = true) (hsame : (Cond.sameMethod x.cls owner x.name x.desc).before args s = true)
    (hd0 : va_Decl s ⟨owner, x.name, x.desc⟩) (howner : owner ≠ "java/lang/invoke/MethodHandle" ∧ owner ≠ "java/lang/invoke/VarHandle")
    (hsel : (Cond.selects C x y).before args s = true) (hinst : (Cond.instanceMethod y).before args s = true) (hcode : (Cond.code y bytes maxL ret).before args s = true)
    {W : Nat} {Pre : Pt → Array Value → Prop} {Post : Pt → Array Value → Option Value → Pt → Prop} {PostX : Pt → Array Value → Addr → Pt → Prop} (hK : vx_Back l R p e below s args y 3 W Pre Post PostX)
    {b : Addr} {cellB : Cell} (hcell : T.heap[b]? = some cellB) (hobj : cellB.vm.isStatics = false) (hcls : s.vm.findClass C = some cellB.cls)
    {g : JFrame} (hg : g.method = m) (hsize : g.locals.size = c.maxLocals) {argsL rest : List Value} (hlen : ∀ sig, parseMethodDescriptor x.desc = some sig → argsL.length = sig.parameters.length)
    (hstack : g.stack = argsL.reverse ++ .ref b :: rest) (hW : 2 * g.monitorRoom + (rest.map fun v => v.category).sum ≤ W) (hdg : decode c.code g.pc = .ok (.invokevirtual index, 3))
    (hpre : ∀ vm₁, s.WarmedH vm₁ → Pre ⟨T.setVm vm₁, locs, cells, slots⟩ (Value.ref b :: argsL).toArray) :
    (∃ (v : Option Value) (vm₁ : Vm) (B : Pt), s.WarmedH vm₁ ∧ Stand p l e R s m args below meth c B.U B.locs B.cells B.slots ∧ Post ⟨T.setVm vm₁, locs, cells, slots⟩ (Value.ref b :: argsL).toArray v B ∧
      ∀ target, Steps p.tables e below (B.U.setTop { g with pc := g.pc + 3, stack := v.toList ++ rest }) target → Steps p.tables e below (T.setTop g) target) ∨
    (∃ (q : Addr) (vm₁ : Vm) (B : Pt), s.WarmedH vm₁ ∧ Stand p l e R s m args below meth c B.U B.locs B.cells B.slots ∧ PostX ⟨T.setVm vm₁, locs, cells, slots⟩ (Value.ref b :: argsL).toArray q B ∧
      Steps p.tables e below (T.setTop g) ((B.U.setTop { g with stack := rest }).pushFrame (.throwing q))) := by
  obtain ⟨r0, r, hn, hrm, hstR, hsigR⟩ := hd0
  obtain ⟨cn, ck, r1, hcn, hck, hni, hf, hn1⟩ := Cond.sameMethod_found hsame
  cases hn.symm.trans hn1
  obtain ⟨mk, methM, hnamed, hmethM, -, habM⟩ := Cond.instanceMethod_spec hinst
  obtain ⟨c2, r2, m2, q1, q2, q3, q4, kP, hkP, hkPi⟩ := Cond.selects_spec hsel
  cases hcls.symm.trans q1
  cases hf.symm.trans q2
  cases hnamed.symm.trans q3
  have hselP : selectMethod e.platform s.vm cellB.cls r0 = .method mk := by rw [Launch.admits_selectMethod X.admits]; exact q4
  obtain ⟨vm₁, X₁, hstep₁⟩ := X.invokevirtualUp hexec hown hlink hsame howner hn hrm hstR (a := b) (cell := cellB) hcell
    (fun z h => by rw [h] at hobj; cases hobj) hselP hmethM habM hkP hkPi (g := g) hg (argsL := argsL) (rest := rest) (hlen _ hsigR) hstack hdg
  rcases hK m meth c ⟨T.setVm vm₁, locs, cells, slots⟩ { g with stack := rest } (.invokevirtual index) mk (Value.ref b :: argsL).toArray X₁ hg hsize hdg hW (X₁.named hnamed) (hpre vm₁ X₁.warmed) with ⟨v, B, X', hpost, hsteps⟩ | ⟨q, B, X', hpost, hsteps⟩
  · exact Or.inl ⟨v, vm₁, B, X₁.warmed, X', hpost, fun target h => hstep₁ _ fun acts => by rw [doInvoke_state]; exact hsteps.trans h⟩
  · exact Or.inr ⟨q, vm₁, B, X₁.warmed, X', hpost, hstep₁ _ fun acts => by rw [doInvoke_state]; exact hsteps⟩
theorem vx_runU {x y : MethodName} {bytes cc : ByteArray} {maxL nL mc ms n index : Nat} {ret : Option FieldType} {ws : List Cond} {rm : Room} {Pc : Array Value → State → Prop} {Qc : Array Value → State → Outcome → State → Prop} {XC : String → State → State → Prop} {free : Addr → Prop} {Ts : List Cond} {own C owner : String} {b : Addr} {As rest : List Value} {g : JFrame}
    (S : CallFix p m c cc nL s args Ts own) (hM : vx_Met l y ws rm Pc Qc XC mc ms free) (cw : va_CU R s args own C owner index x y bytes maxL ret ws rm mc ms n) (hp : PreV s H C b Pc As)
    (hg : g.method = m) (hn : As.length = n) (hsize : g.locals.size = nL) (hstack : g.stack = As.reverse ++ .ref b :: rest) (hW : 2 * g.monitorRoom + (rest.map fun v => v.category).sum ≤ 8) (hdg : decode cc g.pc = .ok (.invokevirtual index, 3)) (hf : cells + mc ≤ R.cells ∧ slots + ms ≤ R.slots) :
    vx_Run p l e R s m args below meth c H locs cells slots mc ms g rest (Qc (Value.ref b :: As).toArray) XC free := by
  obtain ⟨hrc, hrs, hfr, hlo, hws, hcw⟩ := cw.back
  have hini := cw.init
  have hK : vx_Back l R p e below s args y 3 8 (PreOf R mc ms Pc) (PostOf Qc mc ms free) (vx_Post XC mc ms free) := vx_back (bytes := bytes) (maxL := maxL) (ret := ret) hM hp.1 hrc hrs hfr hlo hws hcw (fun a' U hW => word_at hW (Or.inl (by first | rfl | simp [Cond.onTables, Cond.keeps, Cond.steady])) hini)
  obtain ⟨hx, hb, hml, ho, -⟩ := S
  obtain ⟨-, ⟨cellB, hcB, hoB, hclB⟩, hPc⟩ := hp
  intro T hT X
  rcases vx_callVU X hx (C := C) (owner := owner) (bytes := bytes) (maxL := maxL) (ret := ret) ho cw.link cw.same cw.decl cw.notMH cw.sel cw.inst cw.code hK (by rw [hT]; exact hcB) hoB hclB hg (hsize.trans hml.symm) (argsL := As) (rest := rest) (fun sig h => hn.trans (cw.len sig h)) hstack hW (by rw [hb]; exact hdg)
    (fun vm₁ hW₁ => ⟨hf.1, hf.2, hPc (T.setVm vm₁) hT hW₁⟩) with ⟨v, vm₁, ⟨U', l2, c2, s2⟩, hW₁, X', ⟨g', mk, t, L, e1, e2, hq, h1, hL, h2, h3⟩, st⟩ | ⟨q, vm₁, ⟨U', l2, c2, s2⟩, hW₁, X', ⟨g', mk, t, L, E, ce, e1, e2, hq, hce, hcv, hcl, h1, hL, h2, h3⟩, st⟩
  · dsimp only [Pt.U, Pt.locs, Pt.cells, Pt.slots] at X' e1 e2 h1 h2 h3 st
    subst h1; subst h2; subst h3
    exact Or.inl ⟨v, (T.setVm vm₁).calling g' mk (Value.ref b :: As).toArray, t, U', L, hT, X', hL, e1, e2, hq, st⟩
  · dsimp only [Pt.U, Pt.locs, Pt.cells, Pt.slots] at X' e1 e2 h1 h2 h3 st hcl
    subst h1; subst h2; subst h3
    exact Or.inr ⟨q, (T.setVm vm₁).calling g' mk (Value.ref b :: As).toArray, t, U', L, E, ce, hT, X', hL, e1, e2, hq, hce, hcv, vx_cls hW₁ hcl, st⟩
end
/-! ===== END ===== -/
/-! ===== BEGIN super.m(..) that may throw (follows va_callSU, va_runSU) ===== -/
section
variable {p : Program} {l : Launch} {e : Env} {R : Room} {s : State} {m : MethodId} {args : Array Value} {below : List Frame} {meth : Method} {c : Code} {H : Heap} {locs : List Loc} {cells slots : Nat}
theorem vx_callSU {T : State} {locs : List Loc} {cells slots : Nat} (X : Stand p l e R s m args below meth c T locs cells slots) (hexec : p.tables.exec = Jvm.exec) {own : String} {index : Nat} {y : MethodName} {bytes : ByteArray} {maxL : Nat} {ret : Option FieldType}
    (hown : s.vm.findClass own = some m.cls) (hlink : (Cond.methodLink own index y).before args s = true) (hsame : (Cond.sameMethod y.cls y.cls y.name y.desc).before args s = true) (hsup : (Cond.superclass own y.cls).before args s = true)
    (hinst : (Cond.instanceMethod y).before args s = true) (hcode : (Cond.code y bytes maxL ret).before args s = true) (hno : y.name ≠ "<init>")
    {W : Nat} {Pre : Pt → Array Value → Prop} {Post : Pt → Array Value → Option Value → Pt → Prop} {PostX : Pt → Array Value → Addr → Pt → Prop} (hK : vx_Back l R p e below s args y 3 W Pre Post PostX)
    {b : Addr} {cellB : Cell} {kB : Class} (hcell : T.heap[b]? = some cellB) (hobj : cellB.vm.isStatics = false) (hkB : s.vm.classes[cellB.cls]? = some kB)
    {g : JFrame} (hg : g.method = m) (hsize : g.locals.size = c.maxLocals) {argsL rest : List Value} (hlen : ∀ sig, parseMethodDescriptor y.desc = some sig → argsL.length = sig.parameters.length)
    (hstack : g.stack = argsL.reverse ++ .ref b :: rest) (hW : 2 * g.monitorRoom + (rest.map fun v => v.category).sum ≤ W) (hdg : decode c.code g.pc = .ok (.invokespecial index, 3))
    (hpre : ∀ vm₁, s.WarmedH vm₁ → Pre ⟨T.setVm vm₁, locs, cells, slots⟩ (Value.ref b :: argsL).toArray) :
    (∃ (v : Option Value) (vm₁ : Vm) (B : Pt), s.WarmedH vm₁ ∧ Stand p l e R s m args below meth c B.U B.locs B.cells B.slots ∧ Post ⟨T.setVm vm₁, locs, cells, slots⟩ (Value.ref b :: argsL).toArray v B ∧
      ∀ target, Steps p.tables e below (B.U.setTop { g with pc := g.pc + 3, stack := v.toList ++ rest }) target → Steps p.tables e below (T.setTop g) target) ∨
    (∃ (q : Addr) (vm₁ : Vm) (B : Pt), s.WarmedH vm₁ ∧ Stand p l e R s m args below meth c B.U B.locs B.cells B.slots ∧ PostX ⟨T.setVm vm₁, locs, cells, slots⟩ (Value.ref b :: argsL).toArray q B ∧
      Steps p.tables e below (T.setTop g) ((B.U.setTop { g with stack := rest }).pushFrame (.throwing q))) := by
  obtain ⟨mk, methM, hnamed, hmethM, hstM, habM⟩ := Cond.instanceMethod_spec hinst
  obtain ⟨methM', cM, hmethM', -, -, -, -, -, -, hsigM⟩ := Cond.code_spec hnamed hcode
  cases hmethM.symm.trans hmethM'
  obtain ⟨ps, dk, kp, hps, hdk, hkp, hsuper, -, -, hnid⟩ := Cond.superclass_spec hown hsup
  have hn : s.methodNamed? ⟨y.cls, y.name, y.desc⟩ = some mk := hnamed
  have hpm : ps = mk.cls := Option.some.inj (hps.symm.trans (findClass_of_methodNamed hnamed))
  have hsub : s.vm.isSubclass ps mk.cls = true := by rw [hpm]; simp [Vm.isSubclass, Vm.isSubclassAux]
  obtain ⟨vm₁, X₁, hstep₁⟩ := X.invokespecialUp hexec hown hlink hsame hn hmethM hstM habM hno hdk hnid hps hsuper hsub (a := b) (cell := cellB) hcell
    (fun z h => by rw [h] at hobj; cases hobj) hkB (g := g) hg (argsL := argsL) (rest := rest) (hlen _ hsigM) hstack hdg
  rcases hK m meth c ⟨T.setVm vm₁, locs, cells, slots⟩ { g with stack := rest } (.invokespecial index) mk (Value.ref b :: argsL).toArray X₁ hg hsize hdg hW (X₁.named hnamed) (hpre vm₁ X₁.warmed) with ⟨v, B, X', hpost, hsteps⟩ | ⟨q, B, X', hpost, hsteps⟩
  · exact Or.inl ⟨v, vm₁, B, X₁.warmed, X', hpost, fun target h => hstep₁ _ (by rw [doInvoke_state]; exact hsteps.trans h)⟩
  · exact Or.inr ⟨q, vm₁, B, X₁.warmed, X', hpost, hstep₁ _ (by rw [doInvoke_state]; exact hsteps)⟩
theorem vx_runSU {y : MethodName} {bytes cc : ByteArray} {maxL nL mc ms n index : Nat} {ret : Option FieldType} {ws : List Cond} {rm : Room} {Pc : Array Value → State → Prop} {Qc : Array Value → State → Outcome → State → Prop} {XC : String → State → State → Prop} {free : Addr → Prop} {Ts : List Cond} {own C : String} {cC : ClassId} {b : Addr} {As rest : List Value} {g : JFrame}
    (hat : ClassAt s C cC) (S : CallFix p m c cc nL s args Ts own) (hM : vx_Met l y ws rm Pc Qc XC mc ms free) (cw : va_CS R s args own index y bytes maxL ret ws rm mc ms n) (hp : PreV s H C b Pc As)
    (hg : g.method = m) (hn : As.length = n) (hsize : g.locals.size = nL) (hstack : g.stack = As.reverse ++ .ref b :: rest) (hW : 2 * g.monitorRoom + (rest.map fun v => v.category).sum ≤ 8) (hdg : decode cc g.pc = .ok (.invokespecial index, 3)) (hf : cells + mc ≤ R.cells ∧ slots + ms ≤ R.slots) :
    vx_Run p l e R s m args below meth c H locs cells slots mc ms g rest (Qc (Value.ref b :: As).toArray) XC free := by
  obtain ⟨⟨hrc, hrs, hfr, hlo, hws, hcw⟩, hl1, hl2, hl3, hl4, hini, hcode, hno, hlen⟩ := cw
  have hK : vx_Back l R p e below s args y 3 8 (PreOf R mc ms Pc) (PostOf Qc mc ms free) (vx_Post XC mc ms free) := vx_back (bytes := bytes) (maxL := maxL) (ret := ret) hM hp.1 hrc hrs hfr hlo hws hcw (fun a' U hW => word_at hW (Or.inl (by first | rfl | simp [Cond.onTables, Cond.keeps, Cond.steady])) hini)
  obtain ⟨hx, hb, hml, ho, -⟩ := S
  obtain ⟨-, ⟨cellB, hcB, hoB, hclB⟩, hPc⟩ := hp
  obtain ⟨hfc, kB, hkB, -⟩ := hat
  cases hfc.symm.trans hclB
  intro T hT X
  rcases vx_callSU X hx (bytes := bytes) (maxL := maxL) (ret := ret) ho hl1 hl2 hl3 hl4 hcode hno hK (by rw [hT]; exact hcB) hoB hkB hg (hsize.trans hml.symm) (argsL := As) (rest := rest) (fun sig h => hn.trans (hlen sig h)) hstack hW (by rw [hb]; exact hdg)
    (fun vm₁ hW₁ => ⟨hf.1, hf.2, hPc (T.setVm vm₁) hT hW₁⟩) with ⟨v, vm₁, ⟨U', l2, c2, s2⟩, hW₁, X', ⟨g', mk, t, L, e1, e2, hq, h1, hL, h2, h3⟩, st⟩ | ⟨q, vm₁, ⟨U', l2, c2, s2⟩, hW₁, X', ⟨g', mk, t, L, E, ce, e1, e2, hq, hce, hcv, hcl, h1, hL, h2, h3⟩, st⟩
  · dsimp only [Pt.U, Pt.locs, Pt.cells, Pt.slots] at X' e1 e2 h1 h2 h3 st
    subst h1; subst h2; subst h3
    exact Or.inl ⟨v, (T.setVm vm₁).calling g' mk (Value.ref b :: As).toArray, t, U', L, hT, X', hL, e1, e2, hq, st⟩
  · dsimp only [Pt.U, Pt.locs, Pt.cells, Pt.slots] at X' e1 e2 h1 h2 h3 st hcl
    subst h1; subst h2; subst h3
    exact Or.inr ⟨q, (T.setVm vm₁).calling g' mk (Value.ref b :: As).toArray, t, U', L, E, ce, hT, X', hL, e1, e2, hq, hce, hcv, vx_cls hW₁ hcl, st⟩
end
/-! ===== END ===== -/
/-! ===== BEGIN a private method of a nest mate that may throw (follows va_callVN, va_callSN, va_runVN, va_runSN) ===== -/
section
variable {p : Program} {l : Launch} {e : Env} {R : Room} {s : State} {m : MethodId} {args : Array Value} {below : List Frame} {meth : Method} {c : Code} {H : Heap} {locs : List Loc} {cells slots : Nat}
variable {T : State}
theorem vx_callVN (X : Stand p l e R s m args below meth c T locs cells slots) (hexec : p.tables.exec = Jvm.exec) {own C : String} {index : Nat} {host : String} {y : MethodName} {bytes : ByteArray} {maxL : Nat} {ret : Option FieldType}
    (hown : s.vm.findClass own = some m.cls) (hlink : (Cond.methodLinkNest own index y host).before args s = true) (hinst : (Cond.instanceMethod y).before args s = true) (hsel : (Cond.selects C y y).before args s = true)
    (hcode : (Cond.code y bytes maxL ret).before args s = true) (hy : y.cls ≠ "java/lang/invoke/MethodHandle" ∧ y.cls ≠ "java/lang/invoke/VarHandle")
    {W : Nat} {Pre : Pt → Array Value → Prop} {Post : Pt → Array Value → Option Value → Pt → Prop} {PostX : Pt → Array Value → Addr → Pt → Prop} (hK : vx_Back l R p e below s args y 3 W Pre Post PostX)
    {b : Addr} {cellB : Cell} (hcell : T.heap[b]? = some cellB) (hobj : cellB.vm.isStatics = false) (hcls : s.vm.findClass C = some cellB.cls)
    {g : JFrame} (hg : g.method = m) (hsize : g.locals.size = c.maxLocals) {argsL rest : List Value} (hlen : ∀ sig, parseMethodDescriptor y.desc = some sig → argsL.length = sig.parameters.length)
    (hstack : g.stack = argsL.reverse ++ .ref b :: rest) (hW : 2 * g.monitorRoom + (rest.map fun v => v.category).sum ≤ W) (hdg : decode c.code g.pc = .ok (.invokevirtual index, 3))
    (hpre : ∀ vm₁, s.WarmedH vm₁ → Pre ⟨T.setVm vm₁, locs, cells, slots⟩ (Value.ref b :: argsL).toArray) :
    (∃ (v : Option Value) (vm₁ : Vm) (B : Pt), s.WarmedH vm₁ ∧ Stand p l e R s m args below meth c B.U B.locs B.cells B.slots ∧ Post ⟨T.setVm vm₁, locs, cells, slots⟩ (Value.ref b :: argsL).toArray v B ∧
      ∀ target, Steps p.tables e below (B.U.setTop { g with pc := g.pc + 3, stack := v.toList ++ rest }) target → Steps p.tables e below (T.setTop g) target) ∨
    (∃ (q : Addr) (vm₁ : Vm) (B : Pt), s.WarmedH vm₁ ∧ Stand p l e R s m args below meth c B.U B.locs B.cells B.slots ∧ PostX ⟨T.setVm vm₁, locs, cells, slots⟩ (Value.ref b :: argsL).toArray q B ∧
      Steps p.tables e below (T.setTop g) ((B.U.setTop { g with stack := rest }).pushFrame (.throwing q))) := by
  obtain ⟨mk, methM, hnamed, hmethM, hstM, habM⟩ := Cond.instanceMethod_spec hinst
  obtain ⟨methM', cM, hmethM', -, -, -, -, -, -, hsigM⟩ := Cond.code_spec hnamed hcode
  cases hmethM.symm.trans hmethM'
  obtain ⟨c2, r2, m2, q1, q2, q3, q4, kP, hkP, hkPi⟩ := Cond.selects_spec hsel
  cases hcls.symm.trans q1
  cases (State.methodFound?_of_named hnamed hy).symm.trans q2
  cases hnamed.symm.trans q3
  have hselP : selectMethod e.platform s.vm cellB.cls mk = .method mk := by rw [Launch.admits_selectMethod X.admits]; exact q4
  obtain ⟨vm₁, X₁, hstep₁⟩ := X.invokevirtualNest hexec hown hlink hnamed hmethM hstM hkP hkPi hy (a := b) (cell := cellB) hcell
    (fun z h => by rw [h] at hobj; cases hobj) hselP hmethM habM hkP hkPi (g := g) hg (argsL := argsL) (rest := rest) (hlen _ hsigM) hstack hdg
  rcases hK m meth c ⟨T.setVm vm₁, locs, cells, slots⟩ { g with stack := rest } (.invokevirtual index) mk (Value.ref b :: argsL).toArray X₁ hg hsize hdg hW (X₁.named hnamed) (hpre vm₁ X₁.warmed) with ⟨v, B, X', hpost, hsteps⟩ | ⟨q, B, X', hpost, hsteps⟩
  · exact Or.inl ⟨v, vm₁, B, X₁.warmed, X', hpost, fun target h => hstep₁ _ fun acts => by rw [doInvoke_state]; exact hsteps.trans h⟩
  · exact Or.inr ⟨q, vm₁, B, X₁.warmed, X', hpost, hstep₁ _ fun acts => by rw [doInvoke_state]; exact hsteps⟩
theorem vx_callSN (X : Stand p l e R s m args below meth c T locs cells slots) (hexec : p.tables.exec = Jvm.exec) {own : String} {index : Nat} {host : String} {y : MethodName} {bytes : ByteArray} {maxL : Nat} {ret : Option FieldType}
    (hown : s.vm.findClass own = some m.cls) (hlink : (Cond.methodLinkNest own index y host).before args s = true) (hstat : (Cond.static y).before args s = true) (hinit : (Cond.initialized y.cls).before args s = true)
    (hcode : (Cond.code y bytes maxL ret).before args s = true) (hy : y.cls ≠ "java/lang/invoke/MethodHandle" ∧ y.cls ≠ "java/lang/invoke/VarHandle")
    {W : Nat} {Pre : Pt → Array Value → Prop} {Post : Pt → Array Value → Option Value → Pt → Prop} {PostX : Pt → Array Value → Addr → Pt → Prop} (hK : vx_Back l R p e below s args y 3 W Pre Post PostX)
    {g : JFrame} (hg : g.method = m) (hsize : g.locals.size = c.maxLocals) {argsL rest : List Value} (hlen : ∀ sig, parseMethodDescriptor y.desc = some sig → argsL.length = sig.parameters.length)
    (hstack : g.stack = argsL.reverse ++ rest) (hW : 2 * g.monitorRoom + (rest.map fun v => v.category).sum ≤ W) (hdg : decode c.code g.pc = .ok (.invokestatic index, 3))
    (hpre : ∀ vm₁, s.WarmedH vm₁ → Pre ⟨T.setVm vm₁, locs, cells, slots⟩ argsL.toArray) :
    (∃ (v : Option Value) (vm₁ : Vm) (B : Pt), s.WarmedH vm₁ ∧ Stand p l e R s m args below meth c B.U B.locs B.cells B.slots ∧ Post ⟨T.setVm vm₁, locs, cells, slots⟩ argsL.toArray v B ∧
      ∀ target, Steps p.tables e below (B.U.setTop { g with pc := g.pc + 3, stack := v.toList ++ rest }) target → Steps p.tables e below (T.setTop g) target) ∨
    (∃ (q : Addr) (vm₁ : Vm) (B : Pt), s.WarmedH vm₁ ∧ Stand p l e R s m args below meth c B.U B.locs B.cells B.slots ∧ PostX ⟨T.setVm vm₁, locs, cells, slots⟩ argsL.toArray q B ∧
      Steps p.tables e below (T.setTop g) ((B.U.setTop { g with stack := rest }).pushFrame (.throwing q))) := by
  obtain ⟨mk, hnamed⟩ := Cond.code_named hcode
  obtain ⟨methM, cM, hmethM, -, -, -, -, -, -, hsigM⟩ := Cond.code_spec hnamed hcode
  have hstatic : methM.isStatic = true := Cond.static_spec hnamed hmethM hstat
  obtain ⟨kP, hkP, -⟩ := className_of_methodNamed hnamed
  have hinitP : kP.init = .initialized := Cond.initialized_spec (findClass_of_methodNamed hnamed) hkP hinit
  obtain ⟨vm₁, X₁, hstep₁⟩ := X.invokestaticNest hexec hown hlink hnamed hmethM hstatic hkP hinitP hy (g := g) hg (argsL := argsL) (rest := rest) (hlen _ hsigM) hstack hdg
  rcases hK m meth c ⟨T.setVm vm₁, locs, cells, slots⟩ { g with stack := rest } (.invokestatic index) mk argsL.toArray X₁ hg hsize hdg hW (X₁.named hnamed) (hpre vm₁ X₁.warmed) with ⟨v, B, X', hpost, hsteps⟩ | ⟨q, B, X', hpost, hsteps⟩
  · exact Or.inl ⟨v, vm₁, B, X₁.warmed, X', hpost, fun target h => hstep₁ _ fun acts => by rw [doInvoke_state]; exact hsteps.trans h⟩
  · exact Or.inr ⟨q, vm₁, B, X₁.warmed, X', hpost, hstep₁ _ fun acts => by rw [doInvoke_state]; exact hsteps⟩
theorem vx_runVN {y : MethodName} {bytes cc : ByteArray} {maxL nL mc ms n index : Nat} {ret : Option FieldType} {ws : List Cond} {rm : Room} {Pc : Array Value → State → Prop} {Qc : Array Value → State → Outcome → State → Prop} {XC : String → State → State → Prop} {free : Addr → Prop} {Ts : List Cond} {own C host : String} {b : Addr} {As rest : List Value} {g : JFrame}
    (S : CallFix p m c cc nL s args Ts own) (hM : vx_Met l y ws rm Pc Qc XC mc ms free) (cw : va_CN R s args own index y host bytes maxL ret ws rm mc ms n ∧ (Cond.instanceMethod y).before args s = true ∧ (Cond.selects C y y).before args s = true) (hp : PreV s H C b Pc As)
    (hg : g.method = m) (hn : As.length = n) (hsize : g.locals.size = nL) (hstack : g.stack = As.reverse ++ .ref b :: rest) (hW : 2 * g.monitorRoom + (rest.map fun v => v.category).sum ≤ 8) (hdg : decode cc g.pc = .ok (.invokevirtual index, 3)) (hf : cells + mc ≤ R.cells ∧ slots + ms ≤ R.slots) :
    vx_Run p l e R s m args below meth c H locs cells slots mc ms g rest (Qc (Value.ref b :: As).toArray) XC free := by
  obtain ⟨⟨⟨hrc, hrs, hfr, hlo, hws, hcw⟩, hcode, hini, hy, hlen, hl⟩, hx1, hx2⟩ := cw
  have hK : vx_Back l R p e below s args y 3 8 (PreOf R mc ms Pc) (PostOf Qc mc ms free) (vx_Post XC mc ms free) := vx_back (bytes := bytes) (maxL := maxL) (ret := ret) hM hp.1 hrc hrs hfr hlo hws hcw (fun a' U hW => word_at hW (Or.inl (by first | rfl | simp [Cond.onTables, Cond.keeps, Cond.steady])) hini)
  obtain ⟨hx, hb, hml, ho, -⟩ := S
  obtain ⟨-, ⟨cellB, hcB, hoB, hclB⟩, hPc⟩ := hp
  intro T hT X
  rcases vx_callVN X hx (C := C) (bytes := bytes) (maxL := maxL) (ret := ret) ho hl hx1 hx2 hcode hy hK (by rw [hT]; exact hcB) hoB hclB hg (hsize.trans hml.symm) (argsL := As) (rest := rest) (fun sig h => hn.trans (hlen sig h)) hstack hW (by rw [hb]; exact hdg)
    (fun vm₁ hW₁ => ⟨hf.1, hf.2, hPc (T.setVm vm₁) hT hW₁⟩) with ⟨v, vm₁, ⟨U', l2, c2, s2⟩, hW₁, X', ⟨g', mk, t, L, e1, e2, hq, h1, hL, h2, h3⟩, st⟩ | ⟨q, vm₁, ⟨U', l2, c2, s2⟩, hW₁, X', ⟨g', mk, t, L, E, ce, e1, e2, hq, hce, hcv, hcl, h1, hL, h2, h3⟩, st⟩
  · dsimp only [Pt.U, Pt.locs, Pt.cells, Pt.slots] at X' e1 e2 h1 h2 h3 st
    subst h1; subst h2; subst h3
    exact Or.inl ⟨v, (T.setVm vm₁).calling g' mk (Value.ref b :: As).toArray, t, U', L, hT, X', hL, e1, e2, hq, st⟩
  · dsimp only [Pt.U, Pt.locs, Pt.cells, Pt.slots] at X' e1 e2 h1 h2 h3 st hcl
    subst h1; subst h2; subst h3
    exact Or.inr ⟨q, (T.setVm vm₁).calling g' mk (Value.ref b :: As).toArray, t, U', L, E, ce, hT, X', hL, e1, e2, hq, hce, hcv, vx_cls hW₁ hcl, st⟩
theorem vx_runSN {y : MethodName} {bytes cc : ByteArray} {maxL nL mc ms n index : Nat} {ret : Option FieldType} {ws : List Cond} {rm : Room} {Pc : Array Value → State → Prop} {Qc : Array Value → State → Outcome → State → Prop} {XC : String → State → State → Prop} {free : Addr → Prop} {Ts : List Cond} {own host : String} {As rest : List Value} {g : JFrame}
    (S : CallFix p m c cc nL s args Ts own) (hM : vx_Met l y ws rm Pc Qc XC mc ms free) (cw : va_CN R s args own index y host bytes maxL ret ws rm mc ms n ∧ (Cond.static y).before args s = true ∧ True) (hp : PreS s H Pc As)
    (hg : g.method = m) (hn : As.length = n) (hsize : g.locals.size = nL) (hstack : g.stack = As.reverse ++ rest) (hW : 2 * g.monitorRoom + (rest.map fun v => v.category).sum ≤ 8) (hdg : decode cc g.pc = .ok (.invokestatic index, 3)) (hf : cells + mc ≤ R.cells ∧ slots + ms ≤ R.slots) :
    vx_Run p l e R s m args below meth c H locs cells slots mc ms g rest (Qc As.toArray) XC free := by
  obtain ⟨⟨⟨hrc, hrs, hfr, hlo, hws, hcw⟩, hcode, hini, hy, hlen, hl⟩, hx1, hx2⟩ := cw
  have hK : vx_Back l R p e below s args y 3 8 (PreOf R mc ms Pc) (PostOf Qc mc ms free) (vx_Post XC mc ms free) := vx_back (bytes := bytes) (maxL := maxL) (ret := ret) hM hp.1 hrc hrs hfr hlo hws hcw (fun a' U hW => word_at hW (Or.inl (by first | rfl | simp [Cond.onTables, Cond.keeps, Cond.steady])) hini)
  obtain ⟨hx, hb, hml, ho, -⟩ := S
  have hPc := hp.2
  intro T hT X
  rcases vx_callSN X hx (bytes := bytes) (maxL := maxL) (ret := ret) ho hl hx1 hini hcode hy hK hg (hsize.trans hml.symm) (argsL := As) (rest := rest) (fun sig h => hn.trans (hlen sig h)) hstack hW (by rw [hb]; exact hdg)
    (fun vm₁ hW₁ => ⟨hf.1, hf.2, hPc (T.setVm vm₁) hT hW₁⟩) with ⟨v, vm₁, ⟨U', l2, c2, s2⟩, hW₁, X', ⟨g', mk, t, L, e1, e2, hq, h1, hL, h2, h3⟩, st⟩ | ⟨q, vm₁, ⟨U', l2, c2, s2⟩, hW₁, X', ⟨g', mk, t, L, E, ce, e1, e2, hq, hce, hcv, hcl, h1, hL, h2, h3⟩, st⟩
  · dsimp only [Pt.U, Pt.locs, Pt.cells, Pt.slots] at X' e1 e2 h1 h2 h3 st
    subst h1; subst h2; subst h3
    exact Or.inl ⟨v, (T.setVm vm₁).calling g' mk As.toArray, t, U', L, hT, X', hL, e1, e2, hq, st⟩
  · dsimp only [Pt.U, Pt.locs, Pt.cells, Pt.slots] at X' e1 e2 h1 h2 h3 st hcl
    subst h1; subst h2; subst h3
    exact Or.inr ⟨q, (T.setVm vm₁).calling g' mk As.toArray, t, U', L, E, ce, hT, X', hL, e1, e2, hq, hce, hcv, vx_cls hW₁ hcl, st⟩
end
/-! ===== END ===== -/
/-! ===== BEGIN calls by an interface of methods that may throw (vx_callIF, vx_runF follow va_callIF, va_runF of this kit) ===== -/
section
variable {p : Program} {l : Launch} {e : Env} {R : Room} {s : State} {m : MethodId} {args : Array Value} {below : List Frame} {meth : Method} {c : Code} {H : Heap} {locs : List Loc} {cells slots : Nat} {Q : State → Prop}
variable {mc ms : Nat} {free : Addr → Prop} {A0 A1 : Nat → Prop} {H0 : Heap} {a : Array Value} {pc : Nat} {ls : Array Slot} {st0 rest : List Value}
def vx_Run5 (p : Program) (l : Launch) (e : Env) (R : Room) (s : State) (m : MethodId) (args : Array Value) (below : List Frame) (meth : Method) (c : Code) (H : Heap) (locs : List Loc) (cells slots mc ms : Nat) (g : JFrame) (rest : List Value) (Qa : State → Outcome → State → Prop) (XC : String → State → State → Prop) (free : Addr → Prop) : Prop :=
  ∀ T : State, T.heap = H → Stand p l e R s m args below meth c T locs cells slots →
    (∃ (v : Option Value) (st₀ t T' : State) (L : List Loc), st₀.heap = H ∧ Stand p l e R s m args below meth c T' (locs ++ L) (cells + mc) (slots + ms) ∧ (∀ q ∈ L, free q.base) ∧ T'.heap = t.heap ∧ T'.vm = t.vm ∧ Qa st₀ (.returned v) t ∧
      Goes p e below T g T' { g with pc := g.pc + 5, stack := v.toList ++ rest }) ∨
    (∃ (q : Addr) (st₀ t T' : State) (L : List Loc) (E : String) (ce : Cell), st₀.heap = H ∧ Stand p l e R s m args below meth c T' (locs ++ L) (cells + mc) (slots + ms) ∧ (∀ z ∈ L, free z.base) ∧ T'.heap = t.heap ∧ T'.vm = t.vm ∧ XC E st₀ t ∧ t.heap[q]? = some ce ∧ ce.vm = .none ∧ s.vm.findClass E = some ce.cls ∧
      Steps p.tables e below (T.setTop g) ((T'.setTop { g with stack := rest }).pushFrame (.throwing q)))
theorem vx_callIF {T : State} (X : Stand p l e R s m args below meth c T locs cells slots) (hexec : p.tables.exec = Jvm.exec) {own C : String} {index count : Nat} {x y : MethodName} {bytes : ByteArray} {maxL : Nat} {ret : Option FieldType}
    (hown : s.vm.findClass own = some m.cls) (hlink : (Cond.methodLink own index x).before args s = true) (hdecl : (Cond.declares x).before args s = true) (hface : (Cond.interfaceMethod x.cls x.cls x.name x.desc).before args s = true)
    (hsel : (Cond.selects C x y).before args s = true) (hinst : (Cond.instanceMethod y).before args s = true) (hpub : (Cond.publicMethod y).before args s = true) (hunh : (Cond.unhidden C x.name x.desc).before args s = true)
    (hcast : (Cond.castable C x.cls).before args s = true) (hcode : (Cond.code y bytes maxL ret).before args s = true) (hx : x.cls ≠ "java/lang/invoke/MethodHandle" ∧ x.cls ≠ "java/lang/invoke/VarHandle")
    {W9 : Nat} {Pre : Pt → Array Value → Prop} {Post : Pt → Array Value → Option Value → Pt → Prop} {PostX : Pt → Array Value → Addr → Pt → Prop} (hK : vx_Back l R p e below s args y 5 W9 Pre Post PostX)
    {b : Addr} {cellB : Cell} {kB : Class} (hcell : T.heap[b]? = some cellB) (hobj : cellB.vm.isStatics = false) (hcls : s.vm.findClass C = some cellB.cls) (hkB : s.vm.classes[cellB.cls]? = some kB)
    {g : JFrame} (hg : g.method = m) (hsize : g.locals.size = c.maxLocals) {argsL rest : List Value} (hlen : ∀ sig, parseMethodDescriptor x.desc = some sig → argsL.length = sig.parameters.length)
    (hstack : g.stack = argsL.reverse ++ .ref b :: rest) (hW : 2 * g.monitorRoom + (rest.map fun v => v.category).sum ≤ W9) (hdg : decode c.code g.pc = .ok (.invokeinterface index count, 5))
    (hpre : ∀ vm₁, s.WarmedH vm₁ → Pre ⟨T.setVm vm₁, locs, cells, slots⟩ (Value.ref b :: argsL).toArray) :
    (∃ (v : Option Value) (vm₁ : Vm) (B : Pt), s.WarmedH vm₁ ∧ Stand p l e R s m args below meth c B.U B.locs B.cells B.slots ∧ Post ⟨T.setVm vm₁, locs, cells, slots⟩ (Value.ref b :: argsL).toArray v B ∧
      ∀ target, Steps p.tables e below (B.U.setTop { g with pc := g.pc + 5, stack := v.toList ++ rest }) target → Steps p.tables e below (T.setTop g) target) ∨
    (∃ (q : Addr) (vm₁ : Vm) (B : Pt), s.WarmedH vm₁ ∧ Stand p l e R s m args below meth c B.U B.locs B.cells B.slots ∧ PostX ⟨T.setVm vm₁, locs, cells, slots⟩ (Value.ref b :: argsL).toArray q B ∧
      Steps p.tables e below (T.setTop g) ((B.U.setTop { g with stack := rest }).pushFrame (.throwing q))) := by
  obtain ⟨r0, r, hn, hrm, hstR, hsigR⟩ := Cond.declares_spec hdecl
  obtain ⟨cL, kL, r1, hcL, hkL, hiL, hfoundL, hn1⟩ := Cond.interfaceMethod_spec hface
  cases hn.symm.trans hn1
  have hr0cls : r0.cls = cL := Option.some.inj ((findClass_of_methodNamed hn).symm.trans hcL)
  obtain ⟨hnameR, hdescR⟩ := name_of_methodNamed hn hrm
  obtain ⟨mk, methM, hnamed, hmethM, -, habM⟩ := Cond.instanceMethod_spec hinst
  obtain ⟨c2, r2, m2, q1, q2, q3, q4, -⟩ := Cond.selects_spec hsel
  cases hcls.symm.trans q1
  cases hfoundL.symm.trans q2
  cases hnamed.symm.trans q3
  have hselP : selectMethod e.platform s.vm cellB.cls r0 = .method mk := by rw [Launch.admits_selectMethod X.admits]; exact q4
  have hpubM : hasFlag methM.accessFlags Acc.public_ = true := Cond.publicMethod_spec hnamed hmethM hpub
  have hway : ((cellB.cls :: s.vm.superclasses cellB.cls).any fun k => (declaredIn s.vm r.name r.desc k).any fun (_, z) => z.isPrivate || z.isStatic) = false := by
    rw [hnameR, hdescR]; exact Cond.unhidden_spec hcls hunh
  obtain ⟨c3, t3, w1, w2, w3⟩ := Cond.castable_spec hcast
  cases hcls.symm.trans w1
  cases hcL.symm.trans w2
  obtain ⟨vm₁, X₁, hstep₁⟩ := X.invokeinterface hexec hown hlink hn hrm hstR (by rw [hr0cls]; exact hkL) hiL hx (a := b) (cell := cellB) (kcell := kB) hcell
    (fun z h => by rw [h] at hobj; cases hobj) hkB (by rw [hr0cls]; exact w3) hselP hmethM hway hpubM habM (g := g) hg (argsL := argsL) (rest := rest) (hlen _ hsigR) hstack hdg
  rcases hK m meth c ⟨T.setVm vm₁, locs, cells, slots⟩ { g with stack := rest } (.invokeinterface index count) mk (Value.ref b :: argsL).toArray X₁ hg hsize hdg hW (X₁.named hnamed) (hpre vm₁ X₁.warmed) with ⟨v, B, X', hpost, hsteps⟩ | ⟨q, B, X', hpost, hsteps⟩
  · exact Or.inl ⟨v, vm₁, B, X₁.warmed, X', hpost, fun target h => hstep₁ _ fun acts => by rw [doInvoke_state]; exact hsteps.trans h⟩
  · exact Or.inr ⟨q, vm₁, B, X₁.warmed, X', hpost, hstep₁ _ fun acts => by rw [doInvoke_state]; exact hsteps⟩
theorem vx_runF {x y : MethodName} {bytes cc : ByteArray} {maxL nL mc ms n index count : Nat} {ret : Option FieldType} {ws : List Cond} {rm : Room} {Pc : Array Value → State → Prop} {Qc : Array Value → State → Outcome → State → Prop} {XC : String → State → State → Prop} {free : Addr → Prop} {Ts : List Cond} {own C : String} {cC : ClassId} {b : Addr} {As rest : List Value} {g : JFrame}
    (hat : ClassAt s C cC) (S : CallFix p m c cc nL s args Ts own) (hM : vx_Met l y ws rm Pc Qc XC mc ms free) (cw : va_CI R s args own C index x y bytes maxL ret ws rm mc ms n) (hp : PreV s H C b Pc As)
    (hg : g.method = m) (hn : As.length = n) (hsize : g.locals.size = nL) (hstack : g.stack = As.reverse ++ .ref b :: rest) (hW : 2 * g.monitorRoom + (rest.map fun v => v.category).sum ≤ 8) (hdg : decode cc g.pc = .ok (.invokeinterface index count, 5)) (hf : cells + mc ≤ R.cells ∧ slots + ms ≤ R.slots) :
    vx_Run5 p l e R s m args below meth c H locs cells slots mc ms g rest (Qc (Value.ref b :: As).toArray) XC free := by
  obtain ⟨hrc, hrs, hfr, hlo, hws, hcw⟩ := cw.back
  have hini := cw.init
  have hK : vx_Back l R p e below s args y 5 8 (PreOf R mc ms Pc) (PostOf Qc mc ms free) (vx_Post XC mc ms free) := vx_back (bytes := bytes) (maxL := maxL) (ret := ret) hM hp.1 hrc hrs hfr hlo hws hcw (fun a' U hW => word_at hW (Or.inl (by first | rfl | simp [Cond.onTables, Cond.keeps, Cond.steady])) hini)
  obtain ⟨hx, hb, hml, ho, -⟩ := S
  obtain ⟨-, ⟨cellB, hcB, hoB, hclB⟩, hPc⟩ := hp
  obtain ⟨hfc, kB, hkB, -⟩ := hat
  cases hfc.symm.trans hclB
  intro T hT X
  rcases vx_callIF X hx (C := C) (bytes := bytes) (maxL := maxL) (ret := ret) ho cw.link cw.decl cw.face cw.sel cw.inst cw.pub cw.unh cw.cast cw.code cw.notMH hK (by rw [hT]; exact hcB) hoB hclB hkB hg (hsize.trans hml.symm) (argsL := As) (rest := rest) (fun sig h => hn.trans (cw.len sig h)) hstack hW (by rw [hb]; exact hdg)
    (fun vm₁ hW₁ => ⟨hf.1, hf.2, hPc (T.setVm vm₁) hT hW₁⟩) with ⟨v, vm₁, ⟨U', l2, c2, s2⟩, hW₁, X', ⟨g', mk, t, L, e1, e2, hq, h1, hL, h2, h3⟩, st⟩ | ⟨q, vm₁, ⟨U', l2, c2, s2⟩, hW₁, X', ⟨g', mk, t, L, E, ce, e1, e2, hq, hce, hcv, hcl, h1, hL, h2, h3⟩, st⟩
  · dsimp only [Pt.U, Pt.locs, Pt.cells, Pt.slots] at X' e1 e2 h1 h2 h3 st
    subst h1; subst h2; subst h3
    exact Or.inl ⟨v, (T.setVm vm₁).calling g' mk (Value.ref b :: As).toArray, t, U', L, hT, X', hL, e1, e2, hq, st⟩
  · dsimp only [Pt.U, Pt.locs, Pt.cells, Pt.slots] at X' e1 e2 h1 h2 h3 st hcl
    subst h1; subst h2; subst h3
    exact Or.inr ⟨q, (T.setVm vm₁).calling g' mk (Value.ref b :: As).toArray, t, U', L, E, ce, hT, X', hL, e1, e2, hq, hce, hcv, vx_cls hW₁ hcl, st⟩
theorem vx_callFv {S SX : Type} {post : S → Prop} {px : SX → Prop} {B : S → State → Prop} {BX : String → SX → State → Prop} {AX : Nat → Prop} (hr : vx_Run5 p l e R s m args below meth c H locs cells slots mc ms (F0 m pc ls st0) rest (va_Qv post B A1 a) (vx_X px BX AX) free) (hS : va_S A0 H0 H locs) (hA : ∀ q, q < H.size → A1 q → A0 q) (hf : ∀ q, free q → A0 q) (hAX : ∀ q, q < H.size → AX q → A0 q)
    (kx : ∀ (E : String) (ce : Cell) (q9 : Addr) (u : SX) (t : State) (H1 : Heap) (locs1 : List Loc), t.heap = H1 → s.vm.Alike t.vm → px u → BX E u t → H.size ≤ H1.size → (∀ q : Nat, q < H.size → ¬ AX q → H1[q]? = H[q]?) → va_S A0 H0 H1 locs1 → H1[q9]? = some ce → ce.vm = .none → s.vm.findClass E = some ce.cls → vx_W p l e R s m args below meth c H1 locs1 (cells + mc) (slots + ms) Q (F0 m pc ls rest) q9)
    (kk : ∀ (u : S) (t : State) (H1 : Heap) (locs1 : List Loc), t.heap = H1 → s.vm.Alike t.vm → post u → B u t → H.size ≤ H1.size → (∀ q : Nat, q < H.size → ¬ A1 q → H1[q]? = H[q]?) → va_S A0 H0 H1 locs1 → W p l e R s m args below meth c H1 locs1 (cells + mc) (slots + ms) Q (F0 m (pc + 5) ls (rest))) : W p l e R s m args below meth c H locs cells slots Q (F0 m pc ls st0) := by
  intro T hT X
  rcases hr T hT X with ⟨v, st₀, t, T', L, h0, X', hL, e1, e2, ⟨⟨u, hv, hp, hb⟩, hF⟩, st⟩ | ⟨q, st₀, t, T', L, E, ce, h0, X', hL, e1, e2, ⟨u, hp, hb, hF⟩, hce, hcv, hcl, st⟩
  · cases hv
    obtain ⟨k1, k2, k3⟩ := vx_keep h0 e1 hS hA hf hL hF
    obtain ⟨t2, a1, b1⟩ := kk u t T'.heap (locs ++ L) e1.symm (by rw [← e2]; exact X'.warmed.alike) hp hb k1 k2 k3 T' rfl X'
    exact ⟨t2, st t2 a1, b1⟩
  · obtain ⟨k1, k2, k3⟩ := vx_keep h0 e1 hS hAX hf hL hF
    obtain ⟨t2, a1, b1⟩ := kx E ce q u t T'.heap (locs ++ L) e1.symm (by rw [← e2]; exact X'.warmed.alike) hp hb k1 k2 k3 (by rw [e1]; exact hce) hcv hcl T' rfl X'
    exact ⟨t2, st.trans a1, b1⟩
theorem vx_callFi {S SX : Type} {post : Int32 → S → Prop} {px : SX → Prop} {B : S → State → Prop} {BX : String → SX → State → Prop} {AX : Nat → Prop} (hr : vx_Run5 p l e R s m args below meth c H locs cells slots mc ms (F0 m pc ls st0) rest (va_Qi post B A1 a) (vx_X px BX AX) free) (hS : va_S A0 H0 H locs) (hA : ∀ q, q < H.size → A1 q → A0 q) (hf : ∀ q, free q → A0 q) (hAX : ∀ q, q < H.size → AX q → A0 q)
    (kx : ∀ (E : String) (ce : Cell) (q9 : Addr) (u : SX) (t : State) (H1 : Heap) (locs1 : List Loc), t.heap = H1 → s.vm.Alike t.vm → px u → BX E u t → H.size ≤ H1.size → (∀ q : Nat, q < H.size → ¬ AX q → H1[q]? = H[q]?) → va_S A0 H0 H1 locs1 → H1[q9]? = some ce → ce.vm = .none → s.vm.findClass E = some ce.cls → vx_W p l e R s m args below meth c H1 locs1 (cells + mc) (slots + ms) Q (F0 m pc ls rest) q9)
    (kk : ∀ (r : Int32) (u : S) (t : State) (H1 : Heap) (locs1 : List Loc), t.heap = H1 → s.vm.Alike t.vm → post r u → B u t → H.size ≤ H1.size → (∀ q : Nat, q < H.size → ¬ A1 q → H1[q]? = H[q]?) → va_S A0 H0 H1 locs1 → W p l e R s m args below meth c H1 locs1 (cells + mc) (slots + ms) Q (F0 m (pc + 5) ls (.int r :: rest))) : W p l e R s m args below meth c H locs cells slots Q (F0 m pc ls st0) := by
  intro T hT X
  rcases hr T hT X with ⟨v, st₀, t, T', L, h0, X', hL, e1, e2, ⟨⟨r, u, hv, hp, hb⟩, hF⟩, st⟩ | ⟨q, st₀, t, T', L, E, ce, h0, X', hL, e1, e2, ⟨u, hp, hb, hF⟩, hce, hcv, hcl, st⟩
  · cases hv
    obtain ⟨k1, k2, k3⟩ := vx_keep h0 e1 hS hA hf hL hF
    obtain ⟨t2, a1, b1⟩ := kk r u t T'.heap (locs ++ L) e1.symm (by rw [← e2]; exact X'.warmed.alike) hp hb k1 k2 k3 T' rfl X'
    exact ⟨t2, st t2 a1, b1⟩
  · obtain ⟨k1, k2, k3⟩ := vx_keep h0 e1 hS hAX hf hL hF
    obtain ⟨t2, a1, b1⟩ := kx E ce q u t T'.heap (locs ++ L) e1.symm (by rw [← e2]; exact X'.warmed.alike) hp hb k1 k2 k3 (by rw [e1]; exact hce) hcv hcl T' rfl X'
    exact ⟨t2, st.trans a1, b1⟩
theorem vx_callFl {S SX : Type} {post : Int64 → S → Prop} {px : SX → Prop} {B : S → State → Prop} {BX : String → SX → State → Prop} {AX : Nat → Prop} (hr : vx_Run5 p l e R s m args below meth c H locs cells slots mc ms (F0 m pc ls st0) rest (va_Ql post B A1 a) (vx_X px BX AX) free) (hS : va_S A0 H0 H locs) (hA : ∀ q, q < H.size → A1 q → A0 q) (hf : ∀ q, free q → A0 q) (hAX : ∀ q, q < H.size → AX q → A0 q)
    (kx : ∀ (E : String) (ce : Cell) (q9 : Addr) (u : SX) (t : State) (H1 : Heap) (locs1 : List Loc), t.heap = H1 → s.vm.Alike t.vm → px u → BX E u t → H.size ≤ H1.size → (∀ q : Nat, q < H.size → ¬ AX q → H1[q]? = H[q]?) → va_S A0 H0 H1 locs1 → H1[q9]? = some ce → ce.vm = .none → s.vm.findClass E = some ce.cls → vx_W p l e R s m args below meth c H1 locs1 (cells + mc) (slots + ms) Q (F0 m pc ls rest) q9)
    (kk : ∀ (r : Int64) (u : S) (t : State) (H1 : Heap) (locs1 : List Loc), t.heap = H1 → s.vm.Alike t.vm → post r u → B u t → H.size ≤ H1.size → (∀ q : Nat, q < H.size → ¬ A1 q → H1[q]? = H[q]?) → va_S A0 H0 H1 locs1 → W p l e R s m args below meth c H1 locs1 (cells + mc) (slots + ms) Q (F0 m (pc + 5) ls (.long r :: rest))) : W p l e R s m args below meth c H locs cells slots Q (F0 m pc ls st0) := by
  intro T hT X
  rcases hr T hT X with ⟨v, st₀, t, T', L, h0, X', hL, e1, e2, ⟨⟨r, u, hv, hp, hb⟩, hF⟩, st⟩ | ⟨q, st₀, t, T', L, E, ce, h0, X', hL, e1, e2, ⟨u, hp, hb, hF⟩, hce, hcv, hcl, st⟩
  · cases hv
    obtain ⟨k1, k2, k3⟩ := vx_keep h0 e1 hS hA hf hL hF
    obtain ⟨t2, a1, b1⟩ := kk r u t T'.heap (locs ++ L) e1.symm (by rw [← e2]; exact X'.warmed.alike) hp hb k1 k2 k3 T' rfl X'
    exact ⟨t2, st t2 a1, b1⟩
  · obtain ⟨k1, k2, k3⟩ := vx_keep h0 e1 hS hAX hf hL hF
    obtain ⟨t2, a1, b1⟩ := kx E ce q u t T'.heap (locs ++ L) e1.symm (by rw [← e2]; exact X'.warmed.alike) hp hb k1 k2 k3 (by rw [e1]; exact hce) hcv hcl T' rfl X'
    exact ⟨t2, st.trans a1, b1⟩
theorem vx_callFf {S SX : Type} {post : UInt32 → S → Prop} {px : SX → Prop} {B : S → State → Prop} {BX : String → SX → State → Prop} {AX : Nat → Prop} (hr : vx_Run5 p l e R s m args below meth c H locs cells slots mc ms (F0 m pc ls st0) rest (va_Qf post B A1 a) (vx_X px BX AX) free) (hS : va_S A0 H0 H locs) (hA : ∀ q, q < H.size → A1 q → A0 q) (hf : ∀ q, free q → A0 q) (hAX : ∀ q, q < H.size → AX q → A0 q)
    (kx : ∀ (E : String) (ce : Cell) (q9 : Addr) (u : SX) (t : State) (H1 : Heap) (locs1 : List Loc), t.heap = H1 → s.vm.Alike t.vm → px u → BX E u t → H.size ≤ H1.size → (∀ q : Nat, q < H.size → ¬ AX q → H1[q]? = H[q]?) → va_S A0 H0 H1 locs1 → H1[q9]? = some ce → ce.vm = .none → s.vm.findClass E = some ce.cls → vx_W p l e R s m args below meth c H1 locs1 (cells + mc) (slots + ms) Q (F0 m pc ls rest) q9)
    (kk : ∀ (r : UInt32) (u : S) (t : State) (H1 : Heap) (locs1 : List Loc), t.heap = H1 → s.vm.Alike t.vm → post r u → B u t → H.size ≤ H1.size → (∀ q : Nat, q < H.size → ¬ A1 q → H1[q]? = H[q]?) → va_S A0 H0 H1 locs1 → W p l e R s m args below meth c H1 locs1 (cells + mc) (slots + ms) Q (F0 m (pc + 5) ls (.float r :: rest))) : W p l e R s m args below meth c H locs cells slots Q (F0 m pc ls st0) := by
  intro T hT X
  rcases hr T hT X with ⟨v, st₀, t, T', L, h0, X', hL, e1, e2, ⟨⟨r, u, hv, hp, hb⟩, hF⟩, st⟩ | ⟨q, st₀, t, T', L, E, ce, h0, X', hL, e1, e2, ⟨u, hp, hb, hF⟩, hce, hcv, hcl, st⟩
  · cases hv
    obtain ⟨k1, k2, k3⟩ := vx_keep h0 e1 hS hA hf hL hF
    obtain ⟨t2, a1, b1⟩ := kk r u t T'.heap (locs ++ L) e1.symm (by rw [← e2]; exact X'.warmed.alike) hp hb k1 k2 k3 T' rfl X'
    exact ⟨t2, st t2 a1, b1⟩
  · obtain ⟨k1, k2, k3⟩ := vx_keep h0 e1 hS hAX hf hL hF
    obtain ⟨t2, a1, b1⟩ := kx E ce q u t T'.heap (locs ++ L) e1.symm (by rw [← e2]; exact X'.warmed.alike) hp hb k1 k2 k3 (by rw [e1]; exact hce) hcv hcl T' rfl X'
    exact ⟨t2, st.trans a1, b1⟩
theorem vx_callFd {S SX : Type} {post : UInt64 → S → Prop} {px : SX → Prop} {B : S → State → Prop} {BX : String → SX → State → Prop} {AX : Nat → Prop} (hr : vx_Run5 p l e R s m args below meth c H locs cells slots mc ms (F0 m pc ls st0) rest (va_Qd post B A1 a) (vx_X px BX AX) free) (hS : va_S A0 H0 H locs) (hA : ∀ q, q < H.size → A1 q → A0 q) (hf : ∀ q, free q → A0 q) (hAX : ∀ q, q < H.size → AX q → A0 q)
    (kx : ∀ (E : String) (ce : Cell) (q9 : Addr) (u : SX) (t : State) (H1 : Heap) (locs1 : List Loc), t.heap = H1 → s.vm.Alike t.vm → px u → BX E u t → H.size ≤ H1.size → (∀ q : Nat, q < H.size → ¬ AX q → H1[q]? = H[q]?) → va_S A0 H0 H1 locs1 → H1[q9]? = some ce → ce.vm = .none → s.vm.findClass E = some ce.cls → vx_W p l e R s m args below meth c H1 locs1 (cells + mc) (slots + ms) Q (F0 m pc ls rest) q9)
    (kk : ∀ (r : UInt64) (u : S) (t : State) (H1 : Heap) (locs1 : List Loc), t.heap = H1 → s.vm.Alike t.vm → post r u → B u t → H.size ≤ H1.size → (∀ q : Nat, q < H.size → ¬ A1 q → H1[q]? = H[q]?) → va_S A0 H0 H1 locs1 → W p l e R s m args below meth c H1 locs1 (cells + mc) (slots + ms) Q (F0 m (pc + 5) ls (.double r :: rest))) : W p l e R s m args below meth c H locs cells slots Q (F0 m pc ls st0) := by
  intro T hT X
  rcases hr T hT X with ⟨v, st₀, t, T', L, h0, X', hL, e1, e2, ⟨⟨r, u, hv, hp, hb⟩, hF⟩, st⟩ | ⟨q, st₀, t, T', L, E, ce, h0, X', hL, e1, e2, ⟨u, hp, hb, hF⟩, hce, hcv, hcl, st⟩
  · cases hv
    obtain ⟨k1, k2, k3⟩ := vx_keep h0 e1 hS hA hf hL hF
    obtain ⟨t2, a1, b1⟩ := kk r u t T'.heap (locs ++ L) e1.symm (by rw [← e2]; exact X'.warmed.alike) hp hb k1 k2 k3 T' rfl X'
    exact ⟨t2, st t2 a1, b1⟩
  · obtain ⟨k1, k2, k3⟩ := vx_keep h0 e1 hS hAX hf hL hF
    obtain ⟨t2, a1, b1⟩ := kx E ce q u t T'.heap (locs ++ L) e1.symm (by rw [← e2]; exact X'.warmed.alike) hp hb k1 k2 k3 (by rw [e1]; exact hce) hcv hcl T' rfl X'
    exact ⟨t2, st.trans a1, b1⟩
end
/-! ===== END ===== -/
/-! ===== BEGIN by an interface, a method with a table of its own that may throw (follows va_callIFW, va_runFW) ===== -/
section
variable {p : Program} {l : Launch} {e : Env} {R : Room} {s : State} {m : MethodId} {args : Array Value} {below : List Frame} {meth : Method} {c : Code} {H : Heap} {locs : List Loc} {cells slots : Nat}
theorem vx_callIFW {T : State} (X : Stand p l e R s m args below meth c T locs cells slots) (hexec : p.tables.exec = Jvm.exec) {own C : String} {index count : Nat} {x y : MethodName} {bytes : ByteArray} {maxL : Nat} {ret : Option FieldType} {hh : List (Nat × Nat × Nat × Nat)}
    (hown : s.vm.findClass own = some m.cls) (hlink : (Cond.methodLink own index x).before args s = true) (hdecl : (Cond.declares x).before args s = true) (hface : (Cond.interfaceMethod x.cls x.cls x.name x.desc).before args s = true)
    (hsel : (Cond.selects C x y).before args s = true) (hinst : (Cond.instanceMethod y).before args s = true) (hpub : (Cond.publicMethod y).before args s = true) (hunh : (Cond.unhidden C x.name x.desc).before args s = true)
    (hcast : (Cond.castable C x.cls).before args s = true) (hcode : (Cond.codeWith y bytes maxL ret hh).before args s = true) (hx : x.cls ≠ "java/lang/invoke/MethodHandle" ∧ x.cls ≠ "java/lang/invoke/VarHandle")
    {W : Nat} {Pre : Pt → Array Value → Prop} {Post : Pt → Array Value → Option Value → Pt → Prop} {PostX : Pt → Array Value → Addr → Pt → Prop} (hK : vx_Back l R p e below s args y 5 W Pre Post PostX)
    {b : Addr} {cellB : Cell} {kB : Class} (hcell : T.heap[b]? = some cellB) (hobj : cellB.vm.isStatics = false) (hcls : s.vm.findClass C = some cellB.cls) (hkB : s.vm.classes[cellB.cls]? = some kB)
    {g : JFrame} (hg : g.method = m) (hsize : g.locals.size = c.maxLocals) {argsL rest : List Value} (hlen : ∀ sig, parseMethodDescriptor x.desc = some sig → argsL.length = sig.parameters.length)
    (hstack : g.stack = argsL.reverse ++ .ref b :: rest) (hW : 2 * g.monitorRoom + (rest.map fun v => v.category).sum ≤ W) (hdg : decode c.code g.pc = .ok (.invokeinterface index count, 5))
    (hpre : ∀ vm₁, s.WarmedH vm₁ → Pre ⟨T.setVm vm₁, locs, cells, slots⟩ (Value.ref b :: argsL).toArray) :
    (∃ (v : Option Value) (vm₁ : Vm) (B : Pt), s.WarmedH vm₁ ∧ Stand p l e R s m args below meth c B.U B.locs B.cells B.slots ∧ Post ⟨T.setVm vm₁, locs, cells, slots⟩ (Value.ref b :: argsL).toArray v B ∧
      ∀ target, Steps p.tables e below (B.U.setTop { g with pc := g.pc + 5, stack := v.toList ++ rest }) target → Steps p.tables e below (T.setTop g) target) ∨
    (∃ (q : Addr) (vm₁ : Vm) (B : Pt), s.WarmedH vm₁ ∧ Stand p l e R s m args below meth c B.U B.locs B.cells B.slots ∧ PostX ⟨T.setVm vm₁, locs, cells, slots⟩ (Value.ref b :: argsL).toArray q B ∧
      Steps p.tables e below (T.setTop g) ((B.U.setTop { g with stack := rest }).pushFrame (.throwing q))) := by
  obtain ⟨r0, r, hn, hrm, hstR, hsigR⟩ := Cond.declares_spec hdecl
  obtain ⟨cL, kL, r1, hcL, hkL, hiL, hfoundL, hn1⟩ := Cond.interfaceMethod_spec hface
  cases hn.symm.trans hn1
  have hr0cls : r0.cls = cL := Option.some.inj ((findClass_of_methodNamed hn).symm.trans hcL)
  obtain ⟨hnameR, hdescR⟩ := name_of_methodNamed hn hrm
  obtain ⟨mk, methM, hnamed, hmethM, -, habM⟩ := Cond.instanceMethod_spec hinst
  obtain ⟨c2, r2, m2, q1, q2, q3, q4, -⟩ := Cond.selects_spec hsel
  cases hcls.symm.trans q1
  cases hfoundL.symm.trans q2
  cases hnamed.symm.trans q3
  have hselP : selectMethod e.platform s.vm cellB.cls r0 = .method mk := by rw [Launch.admits_selectMethod X.admits]; exact q4
  have hpubM : hasFlag methM.accessFlags Acc.public_ = true := Cond.publicMethod_spec hnamed hmethM hpub
  have hway : ((cellB.cls :: s.vm.superclasses cellB.cls).any fun k => (declaredIn s.vm r.name r.desc k).any fun (_, z) => z.isPrivate || z.isStatic) = false := by
    rw [hnameR, hdescR]; exact Cond.unhidden_spec hcls hunh
  obtain ⟨c3, t3, w1, w2, w3⟩ := Cond.castable_spec hcast
  cases hcls.symm.trans w1
  cases hcL.symm.trans w2
  obtain ⟨vm₁, X₁, hstep₁⟩ := X.invokeinterface hexec hown hlink hn hrm hstR (by rw [hr0cls]; exact hkL) hiL hx (a := b) (cell := cellB) (kcell := kB) hcell
    (fun z h => by rw [h] at hobj; cases hobj) hkB (by rw [hr0cls]; exact w3) hselP hmethM hway hpubM habM (g := g) hg (argsL := argsL) (rest := rest) (hlen _ hsigR) hstack hdg
  rcases hK m meth c ⟨T.setVm vm₁, locs, cells, slots⟩ { g with stack := rest } (.invokeinterface index count) mk (Value.ref b :: argsL).toArray X₁ hg hsize hdg hW (X₁.named hnamed) (hpre vm₁ X₁.warmed) with ⟨v, B, X', hpost, hsteps⟩ | ⟨q, B, X', hpost, hsteps⟩
  · exact Or.inl ⟨v, vm₁, B, X₁.warmed, X', hpost, fun target h => hstep₁ _ fun acts => by rw [doInvoke_state]; exact hsteps.trans h⟩
  · exact Or.inr ⟨q, vm₁, B, X₁.warmed, X', hpost, hstep₁ _ fun acts => by rw [doInvoke_state]; exact hsteps⟩
theorem vx_runFW {x y : MethodName} {bytes cc : ByteArray} {maxL nL mc ms n index count : Nat} {ret : Option FieldType} {hh : List (Nat × Nat × Nat × Nat)} {ws : List Cond} {rm : Room} {Pc : Array Value → State → Prop} {Qc : Array Value → State → Outcome → State → Prop} {XC : String → State → State → Prop} {free : Addr → Prop} {Ts : List Cond} {own C : String} {cC : ClassId} {b : Addr} {As rest : List Value} {g : JFrame}
    (hat : ClassAt s C cC) (S : CallFix p m c cc nL s args Ts own) (hM : vx_Met l y ws rm Pc Qc XC mc ms free) (cw : va_CIW R s args own C index x y bytes maxL ret hh ws rm mc ms n) (hp : PreV s H C b Pc As)
    (hg : g.method = m) (hn : As.length = n) (hsize : g.locals.size = nL) (hstack : g.stack = As.reverse ++ .ref b :: rest) (hW : 2 * g.monitorRoom + (rest.map fun v => v.category).sum ≤ 8) (hdg : decode cc g.pc = .ok (.invokeinterface index count, 5)) (hf : cells + mc ≤ R.cells ∧ slots + ms ≤ R.slots) :
    vx_Run5 p l e R s m args below meth c H locs cells slots mc ms g rest (Qc (Value.ref b :: As).toArray) XC free := by
  obtain ⟨hrc, hrs, hfr, hlo, hws, hcw⟩ := cw.back
  have hini := cw.init
  have hK : vx_Back l R p e below s args y 5 8 (PreOf R mc ms Pc) (PostOf Qc mc ms free) (vx_Post XC mc ms free) := vx_backW (hh := hh) (bytes := bytes) (maxL := maxL) (ret := ret) hM hp.1 hrc hrs hfr hlo hws hcw (fun a' U hW => word_at hW (Or.inl (by first | rfl | simp [Cond.onTables, Cond.keeps, Cond.steady])) hini)
  obtain ⟨hx, hb, hml, ho, -⟩ := S
  obtain ⟨-, ⟨cellB, hcB, hoB, hclB⟩, hPc⟩ := hp
  obtain ⟨hfc, kB, hkB, -⟩ := hat
  cases hfc.symm.trans hclB
  intro T hT X
  rcases vx_callIFW X hx (C := C) (hh := hh) (bytes := bytes) (maxL := maxL) (ret := ret) ho cw.link cw.decl cw.face cw.sel cw.inst cw.pub cw.unh cw.cast cw.code cw.notMH hK (by rw [hT]; exact hcB) hoB hclB hkB hg (hsize.trans hml.symm) (argsL := As) (rest := rest) (fun sig h => hn.trans (cw.len sig h)) hstack hW (by rw [hb]; exact hdg)
    (fun vm₁ hW₁ => ⟨hf.1, hf.2, hPc (T.setVm vm₁) hT hW₁⟩) with ⟨v, vm₁, ⟨U', l2, c2, s2⟩, hW₁, X', ⟨g', mk, t, L, e1, e2, hq, h1, hL, h2, h3⟩, st⟩ | ⟨q, vm₁, ⟨U', l2, c2, s2⟩, hW₁, X', ⟨g', mk, t, L, E, ce, e1, e2, hq, hce, hcv, hcl, h1, hL, h2, h3⟩, st⟩
  · dsimp only [Pt.U, Pt.locs, Pt.cells, Pt.slots] at X' e1 e2 h1 h2 h3 st
    subst h1; subst h2; subst h3
    exact Or.inl ⟨v, (T.setVm vm₁).calling g' mk (Value.ref b :: As).toArray, t, U', L, hT, X', hL, e1, e2, hq, st⟩
  · dsimp only [Pt.U, Pt.locs, Pt.cells, Pt.slots] at X' e1 e2 h1 h2 h3 st hcl
    subst h1; subst h2; subst h3
    exact Or.inr ⟨q, (T.setVm vm₁).calling g' mk (Value.ref b :: As).toArray, t, U', L, E, ce, hT, X', hL, e1, e2, hq, hce, hcv, vx_cls hW₁ hcl, st⟩
end
/-! ===== END ===== -/
/-! ===== BEGIN .. of methods that hand back an object of the pool ===== -/
section
variable {p : Program} {l : Launch} {e : Env} {R : Room} {s : State} {m : MethodId} {args : Array Value} {below : List Frame} {meth : Method} {c : Code} {H : Heap} {locs : List Loc} {cells slots : Nat} {Q : State → Prop}
variable {mc ms : Nat} {free : Addr → Prop} {A0 A1 : Nat → Prop} {H0 : Heap} {a : Array Value} {pc : Nat} {ls : Array Slot} {st0 rest : List Value}
theorem vx_callq {S SX : Type} {post : Option Nat → S → Prop} {px : SX → Prop} {B : S → State → Prop} {BX : String → SX → State → Prop} {AX : Nat → Prop} (hr : vx_Run p l e R s m args below meth c H locs cells slots mc ms (F0 m pc ls st0) rest (va_Qq post B A1 a) (vx_X px BX AX) free) (hS : va_S A0 H0 H locs) (hA : ∀ q, q < H.size → A1 q → A0 q) (hf : ∀ q, free q → A0 q) (hAX : ∀ q, q < H.size → AX q → A0 q)
    (kx : ∀ (E : String) (ce : Cell) (q9 : Addr) (u : SX) (t : State) (H1 : Heap) (locs1 : List Loc), t.heap = H1 → s.vm.Alike t.vm → px u → BX E u t → H.size ≤ H1.size → (∀ q : Nat, q < H.size → ¬ AX q → H1[q]? = H[q]?) → va_S A0 H0 H1 locs1 → H1[q9]? = some ce → ce.vm = .none → s.vm.findClass E = some ce.cls → vx_W p l e R s m args below meth c H1 locs1 (cells + mc) (slots + ms) Q (F0 m pc ls rest) q9)
    (kk : ∀ (r : Option Nat) (u : S) (t : State) (H1 : Heap) (locs1 : List Loc), t.heap = H1 → s.vm.Alike t.vm → post r u → B u t → H.size ≤ H1.size → (∀ q : Nat, q < H.size → ¬ A1 q → H1[q]? = H[q]?) → va_S A0 H0 H1 locs1 → W p l e R s m args below meth c H1 locs1 (cells + mc) (slots + ms) Q (F0 m (pc + 3) ls (va_rf r :: rest))) : W p l e R s m args below meth c H locs cells slots Q (F0 m pc ls st0) := by
  intro T hT X
  rcases hr T hT X with ⟨v, st₀, t, T', L, h0, X', hL, e1, e2, ⟨⟨r, u, hv, hp, hb⟩, hF⟩, st⟩ | ⟨q, st₀, t, T', L, E, ce, h0, X', hL, e1, e2, ⟨u, hp, hb, hF⟩, hce, hcv, hcl, st⟩
  · cases hv
    obtain ⟨k1, k2, k3⟩ := vx_keep h0 e1 hS hA hf hL hF
    obtain ⟨t2, a1, b1⟩ := kk r u t T'.heap (locs ++ L) e1.symm (by rw [← e2]; exact X'.warmed.alike) hp hb k1 k2 k3 T' rfl X'
    exact ⟨t2, st t2 a1, b1⟩
  · obtain ⟨k1, k2, k3⟩ := vx_keep h0 e1 hS hAX hf hL hF
    obtain ⟨t2, a1, b1⟩ := kx E ce q u t T'.heap (locs ++ L) e1.symm (by rw [← e2]; exact X'.warmed.alike) hp hb k1 k2 k3 (by rw [e1]; exact hce) hcv hcl T' rfl X'
    exact ⟨t2, st.trans a1, b1⟩
end
/-! ===== END ===== -/
/-! ===== BEGIN .. a constant ===== -/
section
variable {p : Program} {l : Launch} {e : Env} {R : Room} {s : State} {m : MethodId} {args : Array Value} {below : List Frame} {meth : Method} {c : Code} {H : Heap} {locs : List Loc} {cells slots : Nat} {Q : State → Prop}
variable {mc ms : Nat} {free : Addr → Prop} {A0 A1 : Nat → Prop} {H0 : Heap} {a : Array Value} {pc : Nat} {ls : Array Slot} {st0 rest : List Value}
theorem vx_calle {ad : Nat → Nat} {S SX : Type} {post : Option Nat → S → Prop} {px : SX → Prop} {B : S → State → Prop} {BX : String → SX → State → Prop} {AX : Nat → Prop} (hr : vx_Run p l e R s m args below meth c H locs cells slots mc ms (F0 m pc ls st0) rest (va_Qe ad post B A1 a) (vx_X px BX AX) free) (hS : va_S A0 H0 H locs) (hA : ∀ q, q < H.size → A1 q → A0 q) (hf : ∀ q, free q → A0 q) (hAX : ∀ q, q < H.size → AX q → A0 q)
    (kx : ∀ (E : String) (ce : Cell) (q9 : Addr) (u : SX) (t : State) (H1 : Heap) (locs1 : List Loc), t.heap = H1 → s.vm.Alike t.vm → px u → BX E u t → H.size ≤ H1.size → (∀ q : Nat, q < H.size → ¬ AX q → H1[q]? = H[q]?) → va_S A0 H0 H1 locs1 → H1[q9]? = some ce → ce.vm = .none → s.vm.findClass E = some ce.cls → vx_W p l e R s m args below meth c H1 locs1 (cells + mc) (slots + ms) Q (F0 m pc ls rest) q9)
    (kk : ∀ (r : Option Nat) (u : S) (t : State) (H1 : Heap) (locs1 : List Loc), t.heap = H1 → s.vm.Alike t.vm → post r u → B u t → H.size ≤ H1.size → (∀ q : Nat, q < H.size → ¬ A1 q → H1[q]? = H[q]?) → va_S A0 H0 H1 locs1 → W p l e R s m args below meth c H1 locs1 (cells + mc) (slots + ms) Q (F0 m (pc + 3) ls (va_re ad r :: rest))) : W p l e R s m args below meth c H locs cells slots Q (F0 m pc ls st0) := by
  intro T hT X
  rcases hr T hT X with ⟨v, st₀, t, T', L, h0, X', hL, e1, e2, ⟨⟨r, u, hv, hp, hb⟩, hF⟩, st⟩ | ⟨q, st₀, t, T', L, E, ce, h0, X', hL, e1, e2, ⟨u, hp, hb, hF⟩, hce, hcv, hcl, st⟩
  · cases hv
    obtain ⟨k1, k2, k3⟩ := vx_keep h0 e1 hS hA hf hL hF
    obtain ⟨t2, a1, b1⟩ := kk r u t T'.heap (locs ++ L) e1.symm (by rw [← e2]; exact X'.warmed.alike) hp hb k1 k2 k3 T' rfl X'
    exact ⟨t2, st t2 a1, b1⟩
  · obtain ⟨k1, k2, k3⟩ := vx_keep h0 e1 hS hAX hf hL hF
    obtain ⟨t2, a1, b1⟩ := kx E ce q u t T'.heap (locs ++ L) e1.symm (by rw [← e2]; exact X'.warmed.alike) hp hb k1 k2 k3 (by rw [e1]; exact hce) hcv hcl T' rfl X'
    exact ⟨t2, st.trans a1, b1⟩
end
/-! ===== END ===== -/
/-! ===== BEGIN .. by an interface, an object ===== -/
section
variable {p : Program} {l : Launch} {e : Env} {R : Room} {s : State} {m : MethodId} {args : Array Value} {below : List Frame} {meth : Method} {c : Code} {H : Heap} {locs : List Loc} {cells slots : Nat} {Q : State → Prop}
variable {mc ms : Nat} {free : Addr → Prop} {A0 A1 : Nat → Prop} {H0 : Heap} {a : Array Value} {pc : Nat} {ls : Array Slot} {st0 rest : List Value}
theorem vx_callFq {S SX : Type} {post : Option Nat → S → Prop} {px : SX → Prop} {B : S → State → Prop} {BX : String → SX → State → Prop} {AX : Nat → Prop} (hr : vx_Run5 p l e R s m args below meth c H locs cells slots mc ms (F0 m pc ls st0) rest (va_Qq post B A1 a) (vx_X px BX AX) free) (hS : va_S A0 H0 H locs) (hA : ∀ q, q < H.size → A1 q → A0 q) (hf : ∀ q, free q → A0 q) (hAX : ∀ q, q < H.size → AX q → A0 q)
    (kx : ∀ (E : String) (ce : Cell) (q9 : Addr) (u : SX) (t : State) (H1 : Heap) (locs1 : List Loc), t.heap = H1 → s.vm.Alike t.vm → px u → BX E u t → H.size ≤ H1.size → (∀ q : Nat, q < H.size → ¬ AX q → H1[q]? = H[q]?) → va_S A0 H0 H1 locs1 → H1[q9]? = some ce → ce.vm = .none → s.vm.findClass E = some ce.cls → vx_W p l e R s m args below meth c H1 locs1 (cells + mc) (slots + ms) Q (F0 m pc ls rest) q9)
    (kk : ∀ (r : Option Nat) (u : S) (t : State) (H1 : Heap) (locs1 : List Loc), t.heap = H1 → s.vm.Alike t.vm → post r u → B u t → H.size ≤ H1.size → (∀ q : Nat, q < H.size → ¬ A1 q → H1[q]? = H[q]?) → va_S A0 H0 H1 locs1 → W p l e R s m args below meth c H1 locs1 (cells + mc) (slots + ms) Q (F0 m (pc + 5) ls (va_rf r :: rest))) : W p l e R s m args below meth c H locs cells slots Q (F0 m pc ls st0) := by
  intro T hT X
  rcases hr T hT X with ⟨v, st₀, t, T', L, h0, X', hL, e1, e2, ⟨⟨r, u, hv, hp, hb⟩, hF⟩, st⟩ | ⟨q, st₀, t, T', L, E, ce, h0, X', hL, e1, e2, ⟨u, hp, hb, hF⟩, hce, hcv, hcl, st⟩
  · cases hv
    obtain ⟨k1, k2, k3⟩ := vx_keep h0 e1 hS hA hf hL hF
    obtain ⟨t2, a1, b1⟩ := kk r u t T'.heap (locs ++ L) e1.symm (by rw [← e2]; exact X'.warmed.alike) hp hb k1 k2 k3 T' rfl X'
    exact ⟨t2, st t2 a1, b1⟩
  · obtain ⟨k1, k2, k3⟩ := vx_keep h0 e1 hS hAX hf hL hF
    obtain ⟨t2, a1, b1⟩ := kx E ce q u t T'.heap (locs ++ L) e1.symm (by rw [← e2]; exact X'.warmed.alike) hp hb k1 k2 k3 (by rw [e1]; exact hce) hcv hcl T' rfl X'
    exact ⟨t2, st.trans a1, b1⟩
end
/-! ===== END ===== -/
/-! ===== BEGIN .. by an interface, a constant ===== -/
section
variable {p : Program} {l : Launch} {e : Env} {R : Room} {s : State} {m : MethodId} {args : Array Value} {below : List Frame} {meth : Method} {c : Code} {H : Heap} {locs : List Loc} {cells slots : Nat} {Q : State → Prop}
variable {mc ms : Nat} {free : Addr → Prop} {A0 A1 : Nat → Prop} {H0 : Heap} {a : Array Value} {pc : Nat} {ls : Array Slot} {st0 rest : List Value}
theorem vx_callFe {ad : Nat → Nat} {S SX : Type} {post : Option Nat → S → Prop} {px : SX → Prop} {B : S → State → Prop} {BX : String → SX → State → Prop} {AX : Nat → Prop} (hr : vx_Run5 p l e R s m args below meth c H locs cells slots mc ms (F0 m pc ls st0) rest (va_Qe ad post B A1 a) (vx_X px BX AX) free) (hS : va_S A0 H0 H locs) (hA : ∀ q, q < H.size → A1 q → A0 q) (hf : ∀ q, free q → A0 q) (hAX : ∀ q, q < H.size → AX q → A0 q)
    (kx : ∀ (E : String) (ce : Cell) (q9 : Addr) (u : SX) (t : State) (H1 : Heap) (locs1 : List Loc), t.heap = H1 → s.vm.Alike t.vm → px u → BX E u t → H.size ≤ H1.size → (∀ q : Nat, q < H.size → ¬ AX q → H1[q]? = H[q]?) → va_S A0 H0 H1 locs1 → H1[q9]? = some ce → ce.vm = .none → s.vm.findClass E = some ce.cls → vx_W p l e R s m args below meth c H1 locs1 (cells + mc) (slots + ms) Q (F0 m pc ls rest) q9)
    (kk : ∀ (r : Option Nat) (u : S) (t : State) (H1 : Heap) (locs1 : List Loc), t.heap = H1 → s.vm.Alike t.vm → post r u → B u t → H.size ≤ H1.size → (∀ q : Nat, q < H.size → ¬ A1 q → H1[q]? = H[q]?) → va_S A0 H0 H1 locs1 → W p l e R s m args below meth c H1 locs1 (cells + mc) (slots + ms) Q (F0 m (pc + 5) ls (va_re ad r :: rest))) : W p l e R s m args below meth c H locs cells slots Q (F0 m pc ls st0) := by
  intro T hT X
  rcases hr T hT X with ⟨v, st₀, t, T', L, h0, X', hL, e1, e2, ⟨⟨r, u, hv, hp, hb⟩, hF⟩, st⟩ | ⟨q, st₀, t, T', L, E, ce, h0, X', hL, e1, e2, ⟨u, hp, hb, hF⟩, hce, hcv, hcl, st⟩
  · cases hv
    obtain ⟨k1, k2, k3⟩ := vx_keep h0 e1 hS hA hf hL hF
    obtain ⟨t2, a1, b1⟩ := kk r u t T'.heap (locs ++ L) e1.symm (by rw [← e2]; exact X'.warmed.alike) hp hb k1 k2 k3 T' rfl X'
    exact ⟨t2, st t2 a1, b1⟩
  · obtain ⟨k1, k2, k3⟩ := vx_keep h0 e1 hS hAX hf hL hF
    obtain ⟨t2, a1, b1⟩ := kx E ce q u t T'.heap (locs ++ L) e1.symm (by rw [← e2]; exact X'.warmed.alike) hp hb k1 k2 k3 (by rw [e1]; exact hce) hcv hcl T' rfl X'
    exact ⟨t2, st.trans a1, b1⟩
end
/-! ===== END ===== -/
/-! ===== BEGIN what the machine throws by itself: null at a field, at athrow ===== -/
section VXM2
variable {p : Program} {l : Launch} {e : Env} {R : Room} {s : State} {m : MethodId} {args : Array Value} {below : List Frame} {meth : Method} {c : Code} {H : Heap} {locs : List Loc} {cells slots : Nat}
variable {Q : State → Prop} {cc : ByteArray} {pc : Nat} {ls : Array Slot} {rest : List Value}
theorem vx_getfN {D cl tys} {own ref C : String} {T : u_T} {N ci index : Nat} {Ts : List Cond} (hexec : p.tables.exec = Jvm.exec) (hb : c.code = cc) (hts : ∀ w ∈ Ts, w.before args s = true) (hin : ∀ w ∈ u_ws C T N, w ∈ Ts) (hown : s.vm.findClass own = some m.cls) (hK : va_K D cl tys s) (hc : cl[ci]? = some (C, T, N)) (k : Nat) (hk : k < N) (hlink : (Cond.fieldLink own index ref (T k).2.1 (T k).2.2.1).before args s = true) (hsame : ∀ x, s.fieldFound? (T k).1 (T k).2.1 (T k).2.2.1 = some x → s.fieldFound? ref (T k).2.1 (T k).2.2.1 = some x) (hdg : decode cc pc = .ok (.getfield index, 3)) (kk : vx_NoteN p l e R s m args below meth c H locs cells slots Q (F0 m pc ls rest)) : W p l e R s m args below meth c H locs cells slots Q (F0 m pc ls (.null :: rest)) := by
  obtain ⟨hS, hfc, kC, hkC, -⟩ := hK.1 ci _ hc
  obtain ⟨cf, kf, fi, f, hi, -⟩ := hS k hk
  intro U hU X
  obtain ⟨vm', X1, st1⟩ := X.getfieldNull hexec hown hlink (hsame _ hi) (u_facts hfc hkC (u_lays hts hin hk) hi).1 (g := F0 m pc ls (.null :: rest)) rfl (rest := rest) rfl (by rw [hb]; exact hdg)
  obtain ⟨t, st, q⟩ := kk (U.setVm vm') hU X1
  exact ⟨t, st1 t st, q⟩
theorem vx_getfNN {D cl tys} {own ref C host : String} {T : u_T} {N ci index : Nat} {Ts : List Cond} (hexec : p.tables.exec = Jvm.exec) (hb : c.code = cc) (hts : ∀ w ∈ Ts, w.before args s = true) (hin : ∀ w ∈ u_ws C T N, w ∈ Ts) (hown : s.vm.findClass own = some m.cls) (hK : va_K D cl tys s) (hc : cl[ci]? = some (C, T, N)) (k : Nat) (hk : k < N) (hlink : (Cond.fieldLinkNest own index ref (T k).2.1 (T k).2.2.1 host).before args s = true) (hsame : ∀ x, s.fieldFound? (T k).1 (T k).2.1 (T k).2.2.1 = some x → s.fieldFound? ref (T k).2.1 (T k).2.2.1 = some x) (hdg : decode cc pc = .ok (.getfield index, 3)) (kk : vx_NoteN p l e R s m args below meth c H locs cells slots Q (F0 m pc ls rest)) : W p l e R s m args below meth c H locs cells slots Q (F0 m pc ls (.null :: rest)) := by
  obtain ⟨hS, hfc, kC, hkC, -⟩ := hK.1 ci _ hc
  obtain ⟨cf, kf, fi, f, hi, -⟩ := hS k hk
  intro U hU X
  obtain ⟨vm', X1, st1⟩ := X.getfieldNullNest hexec hown hlink (hsame _ hi) (u_facts hfc hkC (u_lays hts hin hk) hi).1 (g := F0 m pc ls (.null :: rest)) rfl (rest := rest) rfl (by rw [hb]; exact hdg)
  obtain ⟨t, st, q⟩ := kk (U.setVm vm') hU X1
  exact ⟨t, st1 t st, q⟩
theorem vx_putfN {D cl tys} {own ref C : String} {T : u_T} {N ci index : Nat} {Ts : List Cond} (hexec : p.tables.exec = Jvm.exec) (hb : c.code = cc) (hts : ∀ w ∈ Ts, w.before args s = true) (hin : ∀ w ∈ u_ws C T N, w ∈ Ts) (hown : s.vm.findClass own = some m.cls) (hK : va_K D cl tys s) (hc : cl[ci]? = some (C, T, N)) (k : Nat) (hk : k < N) (hlink : (Cond.fieldLink own index ref (T k).2.1 (T k).2.2.1).before args s = true) (hsame : ∀ x, s.fieldFound? (T k).1 (T k).2.1 (T k).2.2.1 = some x → s.fieldFound? ref (T k).2.1 (T k).2.2.1 = some x) (hfin : (T k).2.2.2 = false) {v : Value} (hdg : decode cc pc = .ok (.putfield index, 3)) (kk : vx_NoteN p l e R s m args below meth c H locs cells slots Q (F0 m pc ls rest)) : W p l e R s m args below meth c H locs cells slots Q (F0 m pc ls (v :: .null :: rest)) := by
  obtain ⟨hS, hfc, kC, hkC, -⟩ := hK.1 ci _ hc
  obtain ⟨cf, kf, fi, f, hi, -⟩ := hS k hk
  have hlay := hts _ (hin _ (u_in_lay hk))
  unfold u_lay at hlay
  rw [if_neg (by rw [hfin]; decide)] at hlay
  obtain ⟨c9, k9, cf9, kf9, fi9, f9, -, -, hi9, hst9, hnf9, -⟩ := Cond.lays_spec hlay
  cases hi.symm.trans hi9
  intro U hU X
  obtain ⟨vm', X1, st1⟩ := X.putfieldNull hexec hown hlink (hsame _ hi) hst9 hnf9 (g := F0 m pc ls (v :: .null :: rest)) rfl (v := v) (rest := rest) rfl (by rw [hb]; exact hdg)
  obtain ⟨t, st, q⟩ := kk (U.setVm vm') hU X1
  exact ⟨t, st1 t st, q⟩
theorem vx_putfNN {D cl tys} {own ref C host : String} {T : u_T} {N ci index : Nat} {Ts : List Cond} (hexec : p.tables.exec = Jvm.exec) (hb : c.code = cc) (hts : ∀ w ∈ Ts, w.before args s = true) (hin : ∀ w ∈ u_ws C T N, w ∈ Ts) (hown : s.vm.findClass own = some m.cls) (hK : va_K D cl tys s) (hc : cl[ci]? = some (C, T, N)) (k : Nat) (hk : k < N) (hlink : (Cond.fieldLinkNest own index ref (T k).2.1 (T k).2.2.1 host).before args s = true) (hsame : ∀ x, s.fieldFound? (T k).1 (T k).2.1 (T k).2.2.1 = some x → s.fieldFound? ref (T k).2.1 (T k).2.2.1 = some x) (hfin : (T k).2.2.2 = false) {v : Value} (hdg : decode cc pc = .ok (.putfield index, 3)) (kk : vx_NoteN p l e R s m args below meth c H locs cells slots Q (F0 m pc ls rest)) : W p l e R s m args below meth c H locs cells slots Q (F0 m pc ls (v :: .null :: rest)) := by
  obtain ⟨hS, hfc, kC, hkC, -⟩ := hK.1 ci _ hc
  obtain ⟨cf, kf, fi, f, hi, -⟩ := hS k hk
  have hlay := hts _ (hin _ (u_in_lay hk))
  unfold u_lay at hlay
  rw [if_neg (by rw [hfin]; decide)] at hlay
  obtain ⟨c9, k9, cf9, kf9, fi9, f9, -, -, hi9, hst9, hnf9, -⟩ := Cond.lays_spec hlay
  cases hi.symm.trans hi9
  intro U hU X
  obtain ⟨vm', X1, st1⟩ := X.putfieldNullNest hexec hown hlink (hsame _ hi) hst9 hnf9 (g := F0 m pc ls (v :: .null :: rest)) rfl (v := v) (rest := rest) rfl (by rw [hb]; exact hdg)
  obtain ⟨t, st, q⟩ := kk (U.setVm vm') hU X1
  exact ⟨t, st1 t st, q⟩
theorem vx_athrowN (hexec : p.tables.exec = Jvm.exec) (hb : c.code = cc) (hdg : decode cc pc = .ok (.athrow, 1)) (k : vx_NoteN p l e R s m args below meth c H locs cells slots Q (F0 m pc ls rest)) : W p l e R s m args below meth c H locs cells slots Q (F0 m pc ls (.null :: rest)) := by
  intro T hT X
  obtain ⟨t, st, q⟩ := k T hT X
  exact ⟨t, X.athrowNull hexec (g := F0 m pc ls (.null :: rest)) rfl (rest := rest) rfl (by rw [hb]; exact hdg) t st, q⟩
end VXM2
/-! ===== END ===== -/
end
section
/-! THE TIE between our machine and the heap: cell k lies at the address base + k. -/
/-- base; the addresses of what lies outside; the array classes; the classes and their slots; the script -/
abbrev j_G : Type := Nat × ((Nat → Nat) × ((Nat → ClassId) × (va_G × m_X)))
/-- (its test is one that nothing computes: a proof should not count to a million) -/
noncomputable def j_ad (G : j_G) (k : Nat) : Nat := @ite Nat (k < 1000000) (Classical.propDecidable _) (G.1 + k) (G.2.1 (k - 1000000))
noncomputable def j_v (G : j_G) (v : Value) : Value := match v with
  | .ref k => .ref (j_ad G k)
  | v => v
noncomputable def j_a (G : j_G) (a : vp_A) : vp_A := match a with
  | (n, .inr (.inr (.inr (.inr f)))) => (n, .inr (.inr (.inr (.inr (fun j => (f j).map (j_ad G))))))
  | a => a
noncomputable def j_c (G : j_G) (c : m_C) : va_E := match c with
  | .inl x => .inl (G.2.2.1 x.1, j_a G x.2)
  | .inr x => .inr (x.1, x.2.map (j_v G))
noncomputable def j_w (G : j_G) (M : m_M) : va_W := (List.range M.2.1).map fun k => (G.1 + k, j_c G (M.1 k))
def j_ty : List FieldType := [.int, .boolean, .long, .array .int, .array .boolean, .object RX4, .object RX3, .object RX6, .object RX0]
def j_tys (G : j_G) : List (ClassId × FieldType) := (List.range 9).map fun t => (G.2.2.1 t, j_ty.getD t .int)
abbrev j_A (G : j_G) : Nat → Prop := fun q => G.1 ≤ q
theorem j_ad_lt {G : j_G} {k : Nat} (h : k < 1000000) : j_ad G k = G.1 + k := if_pos h
theorem j_get {G : j_G} {M : m_M} {k : Nat} (h : k < M.2.1) : (j_w G M)[k]? = some (G.1 + k, j_c G (M.1 k)) := by
  unfold j_w
  rw [List.getElem?_map, List.getElem?_range h]
  rfl
theorem j_get_inv {G : j_G} {M : m_M} {k : Nat} {q : Nat × va_E} (h : (j_w G M)[k]? = some q) : k < M.2.1 ∧ q = (G.1 + k, j_c G (M.1 k)) := by
  have hl : k < (j_w G M).length := (List.getElem?_eq_some_iff.mp h).1
  have hk : k < M.2.1 := by simpa [j_w] using hl
  rw [j_get hk] at h
  exact ⟨hk, (Option.some.inj h).symm⟩
theorem j_len (G : j_G) (M : m_M) : (j_w G M).length = M.2.1 := by simp [j_w]
theorem j_set {G : j_G} {M : m_M} {k : Nat} {c : m_C} (h : k < M.2.1) : (j_w G M).set k (G.1 + k, j_c G c) = j_w G (m_put M k c) := by
  apply List.ext_getElem?
  intro i
  by_cases hi : i < M.2.1
  · have h2 : (j_w G (m_put M k c))[i]? = some (G.1 + i, j_c G ((m_put M k c).1 i)) := j_get (M := m_put M k c) hi
    rw [h2]
    by_cases e : i = k
    · subst e
      rw [List.getElem?_set_self (by rw [j_len]; exact h)]
      simp [m_put]
    · rw [List.getElem?_set_ne (fun z => e z.symm), j_get hi]
      simp [m_put, e]
  · rw [List.getElem?_eq_none (by rw [List.length_set, j_len]; omega), List.getElem?_eq_none (by rw [j_len]; exact Nat.not_lt.mp hi)]
theorem j_push {G : j_G} {M : m_M} {c : m_C} {n : Nat} : j_w G M ++ [(G.1 + M.2.1, j_c G c)] = j_w G (m_add M c n) := by
  apply List.ext_getElem?
  intro i
  by_cases hi : i < M.2.1
  · have h2 : (j_w G (m_add M c n))[i]? = some (G.1 + i, j_c G ((m_add M c n).1 i)) := j_get (M := m_add M c n) (show i < M.2.1 + 1 by omega)
    rw [h2, List.getElem?_append_left (by rw [j_len]; exact hi), j_get hi]
    simp [m_add, Nat.ne_of_lt hi]
  · by_cases e : i = M.2.1
    · subst e
      have h2 : (j_w G (m_add M c n))[M.2.1]? = some (G.1 + M.2.1, j_c G ((m_add M c n).1 M.2.1)) := j_get (M := m_add M c n) (show M.2.1 < M.2.1 + 1 by omega)
      rw [h2, List.getElem?_append_right (by rw [j_len]; omega), j_len]
      simp [m_add]
    · rw [List.getElem?_eq_none (by rw [List.length_append, j_len]; simp; omega), List.getElem?_eq_none (by rw [j_len]; show M.2.1 + 1 ≤ i; omega)]
theorem j_D (G : j_G) (M : m_M) : va_D (j_A G) (j_w G M) := by
  refine ⟨fun i j p q hp hq e => ?_, fun k q hq => ?_⟩
  · obtain ⟨-, rfl⟩ := j_get_inv hp
    obtain ⟨-, rfl⟩ := j_get_inv hq
    simp only at e
    omega
  · obtain ⟨-, rfl⟩ := j_get_inv hq
    exact Nat.le_add_right _ _
theorem j_ty_at (G : j_G) {t : Nat} (h : t < 9) : (j_tys G)[t]? = some (G.2.2.1 t, j_ty.getD t .int) := by
  unfold j_tys
  rw [List.getElem?_map, List.getElem?_range h]
  rfl
/-- the locals -/
noncomputable def j_lv (G : j_G) (v : Value) : Value := match v with
  | .int x => .int x
  | .ref k => .ref (j_ad G k)
  | _ => .null
theorem j_lv_cat (G : j_G) (v : Value) : (j_lv G v).category = 1 := by
  cases v <;> rfl
noncomputable def j_l (G : j_G) : Nat → m_L → List (Nat × Value)
  | _, [] => []
  | i, none :: l => j_l G (i + 1) l
  | i, some v :: l => (i, j_lv G v) :: j_l G (i + 1) l
theorem j_l_mem {G : j_G} : ∀ (l : m_L) (i a : Nat) (w : Value), (a, w) ∈ j_l G i l ↔ ∃ (k : Nat) (v : Value), l[k]? = some (some v) ∧ a = i + k ∧ w = j_lv G v
  | [], i, a, w => by simp [j_l]
  | none :: l, i, a, w => by
    rw [j_l, j_l_mem l (i + 1) a w]
    constructor
    · rintro ⟨k, v, h1, h2, h3⟩
      exact ⟨k + 1, v, by simpa using h1, by omega, h3⟩
    · rintro ⟨k, v, h1, h2, h3⟩
      cases k with
      | zero => simp at h1
      | succ k => exact ⟨k, v, by simpa using h1, by omega, h3⟩
  | some x :: l, i, a, w => by
    rw [j_l, List.mem_cons, j_l_mem l (i + 1) a w]
    constructor
    · rintro (h | ⟨k, v, h1, h2, h3⟩)
      · cases h
        exact ⟨0, x, rfl, rfl, rfl⟩
      · exact ⟨k + 1, v, by simpa using h1, by omega, h3⟩
    · rintro ⟨k, v, h1, h2, h3⟩
      cases k with
      | zero =>
        simp only [List.getElem?_cons_zero, Option.some.injEq] at h1
        subst h1
        subst h3
        left
        rw [h2]
        rfl
      | succ k => exact Or.inr ⟨k, v, by simpa using h1, by omega, h3⟩
def j_LS (G : j_G) (ls : m_L) (nL : Nat) (JL : Array Slot) : Prop := lv_has JL nL (j_l G 0 ls) ∧ ls.length = nL
theorem j_LS.at {G : j_G} {ls : m_L} {nL : Nat} {JL : Array Slot} (h : j_LS G ls nL JL) {i : Nat} {v : Value} (hi : ls[i]? = some (some v)) : JL[i]? = some (.val (j_lv G v)) :=
  h.1.2.2 (i, j_lv G v) ((j_l_mem ls 0 i _).mpr ⟨i, v, hi, (Nat.zero_add i).symm, rfl⟩)
theorem j_LS.set {G : j_G} {ls : m_L} {nL : Nat} {JL JL' : Array Slot} (h : j_LS G ls nL JL) {i : Nat} {v : Value} (hs : lv_has JL' nL ((i, j_lv G v) :: (j_l G 0 ls).filter (fun q => !(q.1 == i) && !(q.1 + 1 == i && q.2.category == 2)))) : j_LS G (ls.set i (some v)) nL JL' := by
  refine ⟨⟨hs.1, hs.2.1, fun q hq => ?_⟩, by rw [List.length_set]; exact h.2⟩
  obtain ⟨a, w⟩ := q
  obtain ⟨k, x, h1, h2, h3⟩ := (j_l_mem _ 0 a w).mp hq
  have e : a = k := by omega
  subst e
  by_cases ei : i = a
  · subst ei
    have hl : i < ls.length := by
      have := (List.getElem?_eq_some_iff.mp h1).1
      simpa using this
    rw [List.getElem?_set_self hl] at h1
    simp only [Option.some.injEq] at h1
    subst h1
    subst h3
    exact hs.2.2 _ List.mem_cons_self
  · rw [List.getElem?_set_ne ei] at h1
    refine hs.2.2 (a, w) (List.mem_cons_of_mem _ (List.mem_filter.mpr ⟨(j_l_mem ls 0 a w).mpr ⟨a, x, h1, h2, h3⟩, ?_⟩))
    have hc : (w.category == 2) = false := by rw [h3, j_lv_cat]; rfl
    simp only [hc, Bool.and_false, Bool.not_false, Bool.and_true, Bool.not_eq_true', beq_eq_false_iff_ne, ne_eq]
    exact fun z => ei z.symm
end
section
/-! WHAT THE TABLES SAY of the classes; written by a program (wip/whole/gen_11.py) -/
def q_lay0 : List Nat := [1225, 1227, 1229, 1231, 1233, 1235, 1237, 1239, 2001]
set_option maxRecDepth 100000 in
theorem q_in0 : ∀ w ∈ wsX00, w ∈ m_ws := by
  have h : ((List.range 9).all fun k => m_pl (q_lay0.getD k 0) (u_lay RX0 TX0 k)) = true := by decide +kernel
  intro w hw
  obtain ⟨k, hk, rfl⟩ := List.mem_map.mp hw
  exact m_pl_in (List.all_eq_true.mp h k hk)
def q_lay1 : List Nat := [2024, 2026, 2028, 2030, 2032, 2034, 2036, 2038]
set_option maxRecDepth 100000 in
theorem q_in1 : ∀ w ∈ wsX10, w ∈ m_ws := by
  have h : ((List.range 8).all fun k => m_pl (q_lay1.getD k 0) (u_lay RX1 TX1 k)) = true := by decide +kernel
  intro w hw
  obtain ⟨k, hk, rfl⟩ := List.mem_map.mp hw
  exact m_pl_in (List.all_eq_true.mp h k hk)
def q_lay2 : List Nat := [1130, 1132, 1134]
set_option maxRecDepth 100000 in
theorem q_in2 : ∀ w ∈ wsX20, w ∈ m_ws := by
  have h : ((List.range 3).all fun k => m_pl (q_lay2.getD k 0) (u_lay RX2 TX2 k)) = true := by decide +kernel
  intro w hw
  obtain ⟨k, hk, rfl⟩ := List.mem_map.mp hw
  exact m_pl_in (List.all_eq_true.mp h k hk)
def q_lay3 : List Nat := [1168, 1170, 1172, 1174, 1176, 1178, 1180, 1182]
set_option maxRecDepth 100000 in
theorem q_in3 : ∀ w ∈ wsX30, w ∈ m_ws := by
  have h : ((List.range 8).all fun k => m_pl (q_lay3.getD k 0) (u_lay RX3 TX3 k)) = true := by decide +kernel
  intro w hw
  obtain ⟨k, hk, rfl⟩ := List.mem_map.mp hw
  exact m_pl_in (List.all_eq_true.mp h k hk)
def q_lay4 : List Nat := [1048, 1050, 1052, 1054, 1056, 1058, 1060, 1062, 1064, 1066]
set_option maxRecDepth 100000 in
theorem q_in4 : ∀ w ∈ wsX40, w ∈ m_ws := by
  have h : ((List.range 10).all fun k => m_pl (q_lay4.getD k 0) (u_lay RX4 TX4 k)) = true := by decide +kernel
  intro w hw
  obtain ⟨k, hk, rfl⟩ := List.mem_map.mp hw
  exact m_pl_in (List.all_eq_true.mp h k hk)
def q_lay5 : List Nat := [1089, 1091, 1093, 1095, 1097, 1099, 1101, 1103, 1105, 1107]
set_option maxRecDepth 100000 in
theorem q_in5 : ∀ w ∈ wsX50, w ∈ m_ws := by
  have h : ((List.range 10).all fun k => m_pl (q_lay5.getD k 0) (u_lay RX5 TX5 k)) = true := by decide +kernel
  intro w hw
  obtain ⟨k, hk, rfl⟩ := List.mem_map.mp hw
  exact m_pl_in (List.all_eq_true.mp h k hk)
def q_lay6 : List Nat := [1197, 1199, 1201]
set_option maxRecDepth 100000 in
theorem q_in6 : ∀ w ∈ wsX60, w ∈ m_ws := by
  have h : ((List.range 3).all fun k => m_pl (q_lay6.getD k 0) (u_lay RX6 TX6 k)) = true := by decide +kernel
  intro w hw
  obtain ⟨k, hk, rfl⟩ := List.mem_map.mp hw
  exact m_pl_in (List.all_eq_true.mp h k hk)
def q_lay7 : List Nat := [2056, 2058, 2060, 2062, 2064, 2066, 2068, 2070, 2072, 2074, 2076, 2078, 2080, 2082]
set_option maxRecDepth 100000 in
theorem q_in7 : ∀ w ∈ wsX70, w ∈ m_ws := by
  have h : ((List.range 14).all fun k => m_pl (q_lay7.getD k 0) (u_lay RX7 TX7 k)) = true := by decide +kernel
  intro w hw
  obtain ⟨k, hk, rfl⟩ := List.mem_map.mp hw
  exact m_pl_in (List.all_eq_true.mp h k hk)
def q_lay8 : List Nat := [5174, 5176, 5178, 5180, 5182, 5184, 5186, 5188, 5190, 5192, 5194, 5196, 5198, 5200, 5202, 5204, 5206, 5208, 5210, 5212, 5214, 5216, 5218, 5220, 5222, 5224, 5226, 5228, 5230, 5232, 5234, 5236, 5238, 6000, 6002, 6004, 6006, 6008, 6010, 6012, 6014, 6016, 6018, 6020, 6022, 6024, 6026, 6028, 6030, 6032, 6034, 6036, 6038, 6040]
set_option maxRecDepth 100000 in
theorem q_in8 : ∀ w ∈ wsX80, w ∈ m_ws := by
  have h : ((List.range 54).all fun k => m_pl (q_lay8.getD k 0) (u_lay RX8 TX8 k)) = true := by decide +kernel
  intro w hw
  obtain ⟨k, hk, rfl⟩ := List.mem_map.mp hw
  exact m_pl_in (List.all_eq_true.mp h k hk)
noncomputable def m_tyf (c : Nat) : Nat → FieldType := match c with
  | 0 => tyX0
  | 1 => tyX1
  | 2 => tyX2
  | 3 => tyX3
  | 4 => tyX4
  | 5 => tyX5
  | 6 => tyX6
  | 7 => tyX7
  | _ => tyX8
theorem q_vc {c : Nat} (h : c < 9) : vwCl[c]? = some (m_vc c) := by
  match c, h with
  | 0, _ => exact rfl
  | 1, _ => exact rfl
  | 2, _ => exact rfl
  | 3, _ => exact rfl
  | 4, _ => exact rfl
  | 5, _ => exact rfl
  | 6, _ => exact rfl
  | 7, _ => exact rfl
  | 8, _ => exact rfl
  | n + 9, h => exact absurd h (by omega)
theorem q_nm {c : Nat} (h : c < 9) : (m_vc c).1 = m_cn c := by
  match c, h with
  | 0, _ => exact rfl
  | 1, _ => exact rfl
  | 2, _ => exact rfl
  | 3, _ => exact rfl
  | 4, _ => exact rfl
  | 5, _ => exact rfl
  | 6, _ => exact rfl
  | 7, _ => exact rfl
  | 8, _ => exact rfl
  | n + 9, h => exact absurd h (by omega)
theorem q_in {c : Nat} (h : c < 9) : ∀ w ∈ u_ws (m_vc c).1 (m_vc c).2.1 (m_vc c).2.2, w ∈ m_ws := by
  match c, h with
  | 0, _ => exact q_in0
  | 1, _ => exact q_in1
  | 2, _ => exact q_in2
  | 3, _ => exact q_in3
  | 4, _ => exact q_in4
  | 5, _ => exact q_in5
  | 6, _ => exact q_in6
  | 7, _ => exact q_in7
  | 8, _ => exact q_in8
  | n + 9, h => exact absurd h (by omega)
theorem q_ty {c : Nat} (h : c < 9) : ∀ k, k < (m_vc c).2.2 → parseFieldDescriptor ((m_vc c).2.1 k).2.2.1 = some (m_tyf c k) := by
  match c, h with
  | 0, _ => exact tyX0_ok
  | 1, _ => exact tyX1_ok
  | 2, _ => exact tyX2_ok
  | 3, _ => exact tyX3_ok
  | 4, _ => exact tyX4_ok
  | 5, _ => exact tyX5_ok
  | 6, _ => exact tyX6_ok
  | 7, _ => exact tyX7_ok
  | 8, _ => exact tyX8_ok
  | n + 9, h => exact absurd h (by omega)
theorem q_nn {c : Nat} (h : c < 9) : ∀ a, a < (m_vc c).2.2 → ∀ b, b < (m_vc c).2.2 → a ≠ b → ((m_vc c).2.1 a).2.1 ≠ ((m_vc c).2.1 b).2.1 := by
  match c, h with
  | 0, _ => exact nmX0
  | 1, _ => exact nmX1
  | 2, _ => exact nmX2
  | 3, _ => exact nmX3
  | 4, _ => exact nmX4
  | 5, _ => exact nmX5
  | 6, _ => exact nmX6
  | 7, _ => exact nmX7
  | 8, _ => exact nmX8
  | n + 9, h => exact absurd h (by omega)
theorem q_dc {c : Nat} (h : c < 9) : ∀ k, k < (m_vc c).2.2 → ((m_vc c).2.1 k).1 = m_cn c := by
  match c, h with
  | 0, _ => exact by decide +kernel
  | 1, _ => exact by decide +kernel
  | 2, _ => exact by decide +kernel
  | 3, _ => exact by decide +kernel
  | 4, _ => exact by decide +kernel
  | 5, _ => exact by decide +kernel
  | 6, _ => exact by decide +kernel
  | 7, _ => exact by decide +kernel
  | 8, _ => exact by decide +kernel
  | n + 9, h => exact absurd h (by omega)
set_option maxRecDepth 100000 in
theorem q_fl0 : (m_fl.all fun q => decide (q.2.2.1 < 9) && decide (q.2.2.2 < (m_vc q.2.2.1).2.2)) = true := by decide +kernel
theorem q_fl {q : Nat × (Nat × (Nat × Nat))} (h : q ∈ m_fl) : q.2.2.1 < 9 ∧ q.2.2.2 < (m_vc q.2.2.1).2.2 := by
  have := List.all_eq_true.mp q_fl0 q h
  simpa using this
def q_rf (t : FieldType) : Bool := match t with
  | .object _ => true
  | .array _ => true
  | _ => false
set_option maxRecDepth 100000 in
theorem q_kd0 : ((List.range 9).all fun c => (List.range (m_vc c).2.2).all fun k => decide ((m_kd c k = 0 ∧ m_tyf c k = .int) ∨ (m_kd c k = 1 ∧ m_tyf c k = .boolean) ∨ (m_kd c k = 2 ∧ q_rf (m_tyf c k) = true))) = true := by decide +kernel
theorem q_kd {c k : Nat} (h : c < 9) (hk : k < (m_vc c).2.2) : (m_kd c k = 0 ∧ m_tyf c k = .int) ∨ (m_kd c k = 1 ∧ m_tyf c k = .boolean) ∨ (m_kd c k = 2 ∧ q_rf (m_tyf c k) = true) := by
  have h1 := List.all_eq_true.mp q_kd0 c (List.mem_range.mpr h)
  have h2 := List.all_eq_true.mp h1 k (List.mem_range.mpr hk)
  exact of_decide_eq_true h2
/-- what may be in a field, narrowed to its type, is as it was -/
theorem q_fit {c k : Nat} (h : c < 9) (hk : k < (m_vc c).2.2) {v : Value} {G : j_G} (hf : m_fit (m_kd c k) v = true) : narrow (m_tyf c k) (j_v G v) = j_v G v ∧ fits (m_tyf c k) (j_v G v) = true := by
  have hb : ∀ x : Int32, m_isb x = true → narrow .boolean (.int x) = .int x ∧ fits .boolean (.int x) = true := by
    intro x hx
    simp only [m_isb, Bool.or_eq_true, beq_iff_eq] at hx
    rcases hx with rfl | rfl <;> exact ⟨rfl, rfl⟩
  rcases q_kd h hk with ⟨h1, h2⟩ | ⟨h1, h2⟩ | ⟨h1, h2⟩
  · rw [h1] at hf
    rw [h2]
    cases v <;> simp_all [m_fit, j_v] <;> exact ⟨rfl, rfl⟩
  · rw [h1] at hf
    rw [h2]
    cases v with
    | int x => exact hb x (by simpa [m_fit] using hf)
    | _ => simp [m_fit] at hf
  · rw [h1] at hf
    generalize m_tyf c k = t at h2 ⊢
    cases v with
    | int x => simp [m_fit] at hf
    | ref a => cases t <;> simp_all [q_rf] <;> exact ⟨rfl, rfl⟩
    | null => cases t <;> simp_all [q_rf] <;> exact ⟨rfl, rfl⟩
    | _ => simp [m_fit] at hf
end
section
/-! SIMPLE INSTRUCTIONS: from a place of our machine to the next, over the bytecode. -/
/-- what holds all through a method's body -/
def j_F (p : Program) (l : Launch) (s : State) (mid : MethodId) (args : Array Value) (meth : Method) (c : Code) (own : Nat) (cd : ByteArray) (mx : Nat) (rt : Option FieldType) (ini : Bool) (hh : List (Nat × Nat × Nat × Nat)) : Prop :=
  p.tables.exec = Jvm.exec ∧ c.code = cd ∧ c.maxLocals = mx ∧ s.vm.findClass (m_cn own) = some mid.cls ∧ (∀ w ∈ m_ws, w.before args s = true) ∧ meth.sig.returnType = rt ∧ meth.locks = false ∧ c.exceptionTable.toList = tableOf hh ∧ (ini = true → meth.name = "<init>") ∧ l.stackTraces = false
/-- the heap holds the memory; nothing below the base was written; what was made is counted -/
def j_I (G : j_G) (s : State) (M : m_M) (c0 s0 : Nat) (H : Heap) (locs : List Loc) (cells slots : Nat) : Prop :=
  va_P G.2.2.2.1 vwCl (j_w G M) H ∧ va_S (j_A G) s.heap H locs ∧ M.2.1 ≤ 1000000 ∧ c0 + cells = M.2.2.1 ∧ s0 + slots = M.2.2.2
/-- from place i, with these locals, this stack, this memory, the machine comes to Q -/
def j_P (p : Program) (l : Launch) (e : Env) (R : Room) (s : State) (mid : MethodId) (args : Array Value) (below : List Frame) (meth : Method) (c : Code) (Q : Nat → Nat → State → Prop) (G : j_G) (nL c0 s0 : Nat) (L : List (Nat × m_I)) (i : Nat) (ls : m_L) (st : List Value) (M : m_M) : Prop :=
  ∀ (JL : Array Slot) (H : Heap) (locs : List Loc) (cells slots : Nat), j_I G s M c0 s0 H locs cells slots → j_LS G ls nL JL → W p l e R s mid args below meth c H locs cells slots (Q c0 s0) (F0 mid (m_pc L i) JL (st.map (j_v G)))
section J1
variable {p : Program} {l : Launch} {e : Env} {R : Room} {s : State} {mid : MethodId} {args : Array Value} {below : List Frame} {meth : Method} {c : Code} {Q : Nat → Nat → State → Prop}
variable {G : j_G} {nL c0 s0 i own mx : Nat} {cd : ByteArray} {rt : Option FieldType} {ini : Bool} {hh : List (Nat × Nat × Nat × Nat)} {L : List (Nat × m_I)} {ls : m_L} {st : List Value} {M : m_M}
theorem i_const (F : j_F p l s mid args meth c own cd mx rt ini hh) {n : Int32} {a : Nat} (hd : m_d1 cd L (m_pc L i) i (.iconst n.toInt) 1 ∨ (m_d1 cd L (m_pc L i) i (.bipush n.toInt) 2 ∧ (Int8.ofInt n.toInt).toInt32 = n) ∨ (m_d1 cd L (m_pc L i) i (.sipush n.toInt) 3 ∧ (Int16.ofInt n.toInt).toInt32 = n) ∨ (m_d1 cd L (m_pc L i) i (.ldc a) 2 ∧ (own, (a, n)) ∈ m_kl))
    (k : j_P p l e R s mid args below meth c Q G nL c0 s0 L (i + 1) ls (.int n :: st) M) : j_P p l e R s mid args below meth c Q G nL c0 s0 L i ls st M := by
  intro JL H locs cells slots hI hL
  have kk := k JL H locs cells slots hI hL
  obtain ⟨hx, hb, -, ho, hw, -⟩ := F
  rcases hd with ⟨h1, h2⟩ | ⟨⟨h1, h2⟩, h3⟩ | ⟨⟨h1, h2⟩, h3⟩ | ⟨⟨h1, h2⟩, h3⟩ <;> rw [h2] at kk
  · exact lv_iconst hx hb h1 (Int32.ofInt_toInt n) kk
  · exact lv_bipush hx hb h1 h3 kk
  · exact lv_sipush hx hb h1 h3 kk
  · exact lv_ldc hx hb ho (hw _ (m_kl_ok _ h3)) h1 kk
theorem i_iload (F : j_F p l s mid args meth c own cd mx rt ini hh) {a : Nat} {x : Int32} (hd : m_d1 cd L (m_pc L i) i (.iload a) 2 ∨ (a < 4 ∧ m_d1 cd L (m_pc L i) i (.iload_n (Fin.ofNat 4 a)) 1)) (hl : ls[a]? = some (some (.int x)))
    (k : j_P p l e R s mid args below meth c Q G nL c0 s0 L (i + 1) ls (.int x :: st) M) : j_P p l e R s mid args below meth c Q G nL c0 s0 L i ls st M := by
  intro JL H locs cells slots hI hL
  have kk := k JL H locs cells slots hI hL
  have hj := hL.at hl
  obtain ⟨hx, hb, -⟩ := F
  rcases hd with ⟨h1, h2⟩ | ⟨h0, h1, h2⟩ <;> rw [h2] at kk
  · exact lv_iload hx hb h1 hj kk
  · exact lv_iload_n hx hb h1 (Nat.mod_eq_of_lt h0) hj kk
theorem i_aload (F : j_F p l s mid args meth c own cd mx rt ini hh) {a x : Nat} (hd : m_d1 cd L (m_pc L i) i (.aload a) 2 ∨ (a < 4 ∧ m_d1 cd L (m_pc L i) i (.aload_n (Fin.ofNat 4 a)) 1)) (hl : ls[a]? = some (some (.ref x)))
    (k : j_P p l e R s mid args below meth c Q G nL c0 s0 L (i + 1) ls (.ref x :: st) M) : j_P p l e R s mid args below meth c Q G nL c0 s0 L i ls st M := by
  intro JL H locs cells slots hI hL
  have kk := k JL H locs cells slots hI hL
  have hj := hL.at hl
  obtain ⟨hx, hb, -⟩ := F
  rcases hd with ⟨h1, h2⟩ | ⟨h0, h1, h2⟩ <;> rw [h2] at kk
  · exact lv_aload hx hb h1 hj kk
  · exact lv_aload_n hx hb h1 (Nat.mod_eq_of_lt h0) hj kk
theorem i_istore (F : j_F p l s mid args meth c own cd mx rt ini hh) {a : Nat} {x : Int32} (hd : m_d1 cd L (m_pc L i) i (.istore a) 2 ∨ (a < 4 ∧ m_d1 cd L (m_pc L i) i (.istore_n (Fin.ofNat 4 a)) 1)) (hl : a < ls.length)
    (k : j_P p l e R s mid args below meth c Q G nL c0 s0 L (i + 1) (ls.set a (some (.int x))) st M) : j_P p l e R s mid args below meth c Q G nL c0 s0 L i ls (.int x :: st) M := by
  intro JL H locs cells slots hI hL
  obtain ⟨hx, hb, -⟩ := F
  have hn : a < nL := by rw [← hL.2]; exact hl
  rcases hd with ⟨h1, h2⟩ | ⟨h0, h1, h2⟩
  · refine lv_istore hx hb h1 hL.1 hn rfl fun JL' hs => ?_
    have kk := k JL' H locs cells slots hI (hL.set (v := .int x) hs)
    rw [h2] at kk
    exact kk
  · refine lv_istore_n hx hb h1 (Nat.mod_eq_of_lt h0) hL.1 hn rfl fun JL' hs => ?_
    have kk := k JL' H locs cells slots hI (hL.set (v := .int x) hs)
    rw [h2] at kk
    exact kk
theorem i_astore (F : j_F p l s mid args meth c own cd mx rt ini hh) {a x : Nat} (hd : m_d1 cd L (m_pc L i) i (.astore a) 2 ∨ (a < 4 ∧ m_d1 cd L (m_pc L i) i (.astore_n (Fin.ofNat 4 a)) 1)) (hl : a < ls.length)
    (k : j_P p l e R s mid args below meth c Q G nL c0 s0 L (i + 1) (ls.set a (some (.ref x))) st M) : j_P p l e R s mid args below meth c Q G nL c0 s0 L i ls (.ref x :: st) M := by
  intro JL H locs cells slots hI hL
  obtain ⟨hx, hb, -⟩ := F
  have hn : a < nL := by rw [← hL.2]; exact hl
  rcases hd with ⟨h1, h2⟩ | ⟨h0, h1, h2⟩
  · refine lv_astore hx hb h1 hL.1 hn rfl fun JL' hs => ?_
    have kk := k JL' H locs cells slots hI (hL.set (v := .ref x) hs)
    rw [h2] at kk
    exact kk
  · refine lv_astore_n hx hb h1 (Nat.mod_eq_of_lt h0) hL.1 hn rfl fun JL' hs => ?_
    have kk := k JL' H locs cells slots hI (hL.set (v := .ref x) hs)
    rw [h2] at kk
    exact kk
theorem i_iinc (F : j_F p l s mid args meth c own cd mx rt ini hh) {a : Nat} {n x : Int32} (hd : m_d1 cd L (m_pc L i) i (.iinc a n.toInt) 3) (hl : ls[a]? = some (some (.int x)))
    (k : j_P p l e R s mid args below meth c Q G nL c0 s0 L (i + 1) (ls.set a (some (.int (x + n)))) st M) : j_P p l e R s mid args below meth c Q G nL c0 s0 L i ls st M := by
  intro JL H locs cells slots hI hL
  obtain ⟨hx, hb, -⟩ := F
  have hn : a < nL := by rw [← hL.2]; exact (List.getElem?_eq_some_iff.mp hl).1
  obtain ⟨h1, h2⟩ := hd
  have hm : (a, Value.int x) ∈ j_l G 0 ls := (j_l_mem ls 0 a _).mpr ⟨a, .int x, hl, (Nat.zero_add a).symm, rfl⟩
  obtain ⟨kx, hkx⟩ := List.getElem?_of_mem hm
  refine lv_iinc (v := x + n) hx hb h1 hL.1 hkx (by rw [Int32.ofInt_toInt]) hn rfl fun JL' hs => ?_
  have kk := k JL' H locs cells slots hI (hL.set (v := .int (x + n)) hs)
  rw [h2] at kk
  exact kk
theorem i_bin (F : j_F p l s mid args meth c own cd mx rt ini hh) {o : Nat} {x y z : Int32} (hd : m_d1 cd L (m_pc L i) i (m_bi o) 1) (hz : m_bin o x y = some z)
    (k : j_P p l e R s mid args below meth c Q G nL c0 s0 L (i + 1) ls (.int z :: st) M) : j_P p l e R s mid args below meth c Q G nL c0 s0 L i ls (.int y :: .int x :: st) M := by
  intro JL H locs cells slots hI hL
  have kk := k JL H locs cells slots hI hL
  obtain ⟨hx, hb, -⟩ := F
  obtain ⟨h1, h2⟩ := hd
  rw [h2] at kk
  match o, h1, hz with
  | 0, h1, hz => cases hz; exact lv_iadd hx hb h1 kk
  | 1, h1, hz => cases hz; exact lv_isub hx hb h1 kk
  | 2, h1, hz => cases hz; exact lv_imul hx hb h1 kk
  | 3, h1, hz =>
    by_cases h0 : y = 0
    · simp [m_bin, h0] at hz
    · simp only [m_bin, h0, if_false, Option.some.injEq] at hz
      subst hz
      exact lv_idiv hx hb h1 h0 kk
  | 4, h1, hz =>
    by_cases h0 : y = 0
    · simp [m_bin, h0] at hz
    · simp only [m_bin, h0, if_false, Option.some.injEq] at hz
      subst hz
      exact lv_irem hx hb h1 h0 kk
  | 5, h1, hz => cases hz; exact lv_ishl hx hb h1 kk
  | 6, h1, hz => cases hz; exact lv_ishr hx hb h1 kk
  | 7, h1, hz => cases hz; exact lv_iand hx hb h1 kk
  | 8, h1, hz => cases hz; exact lv_ior hx hb h1 kk
  | n + 9, h1, hz => cases hz; exact lv_ixor hx hb h1 kk
theorem i_if (F : j_F p l s mid args meth c own cd mx rt ini hh) {o b : Nat} {x : Int32} (hd : m_d1 cd L (m_pc L i) i (.ifCond (m_cnd o) ((m_pc L b : Int) - m_pc L i)) 3)
    (k : j_P p l e R s mid args below meth c Q G nL c0 s0 L (if m_cond o x 0 = true then b else i + 1) ls st M) : j_P p l e R s mid args below meth c Q G nL c0 s0 L i ls (.int x :: st) M := by
  intro JL H locs cells slots hI hL
  have kk := k JL H locs cells slots hI hL
  obtain ⟨hx, hb, -⟩ := F
  obtain ⟨h1, h2⟩ := hd
  have ht : (m_pc L i : Int) + ((m_pc L b : Int) - m_pc L i) = (m_pc L b : Int) := by omega
  have go : ∀ (P : Prop) (_ : Decidable P), (m_cond o x 0 = decide P) → (P → W p l e R s mid args below meth c H locs cells slots (Q c0 s0) (F0 mid (m_pc L b) JL (st.map (j_v G)))) ∧ (¬ P → W p l e R s mid args below meth c H locs cells slots (Q c0 s0) (F0 mid (m_pc L i + 3) JL (st.map (j_v G)))) := by
    intro P hD he
    constructor
    · intro hp
      rw [he, decide_eq_true hp, if_pos rfl] at kk
      exact kk
    · intro hp
      rw [he, decide_eq_false hp, if_neg (by decide), h2] at kk
      exact kk
  revert go h1
  match o with
  | 0 => exact fun h1 go => lv_if_eq hx hb h1 ht (go (x = 0) inferInstance rfl).1 (go (x = 0) inferInstance rfl).2
  | 1 => exact fun h1 go => lv_if_ne hx hb h1 ht (go (¬ x = 0) inferInstance rfl).1 (fun z => (go (¬ x = 0) inferInstance rfl).2 (fun q => q z))
  | 2 => exact fun h1 go => lv_if_lt hx hb h1 ht (go (x < 0) inferInstance rfl).1 (go (x < 0) inferInstance rfl).2
  | 3 => exact fun h1 go => lv_if_ge hx hb h1 ht (go (0 ≤ x) inferInstance rfl).1 (go (0 ≤ x) inferInstance rfl).2
  | 4 => exact fun h1 go => lv_if_gt hx hb h1 ht (go (0 < x) inferInstance rfl).1 (go (0 < x) inferInstance rfl).2
  | n + 5 => exact fun h1 go => lv_if_le hx hb h1 ht (go (x ≤ 0) inferInstance rfl).1 (go (x ≤ 0) inferInstance rfl).2
theorem i_cmp (F : j_F p l s mid args meth c own cd mx rt ini hh) {o b : Nat} {x y : Int32} (hd : m_d1 cd L (m_pc L i) i (.if_icmp (m_cnd o) ((m_pc L b : Int) - m_pc L i)) 3)
    (k : j_P p l e R s mid args below meth c Q G nL c0 s0 L (if m_cond o x y = true then b else i + 1) ls st M) : j_P p l e R s mid args below meth c Q G nL c0 s0 L i ls (.int y :: .int x :: st) M := by
  intro JL H locs cells slots hI hL
  have kk := k JL H locs cells slots hI hL
  obtain ⟨hx, hb, -⟩ := F
  obtain ⟨h1, h2⟩ := hd
  have ht : (m_pc L i : Int) + ((m_pc L b : Int) - m_pc L i) = (m_pc L b : Int) := by omega
  have go : ∀ (P : Prop) (_ : Decidable P), (m_cond o x y = decide P) → (P → W p l e R s mid args below meth c H locs cells slots (Q c0 s0) (F0 mid (m_pc L b) JL (st.map (j_v G)))) ∧ (¬ P → W p l e R s mid args below meth c H locs cells slots (Q c0 s0) (F0 mid (m_pc L i + 3) JL (st.map (j_v G)))) := by
    intro P hD he
    constructor
    · intro hp
      rw [he, decide_eq_true hp, if_pos rfl] at kk
      exact kk
    · intro hp
      rw [he, decide_eq_false hp, if_neg (by decide), h2] at kk
      exact kk
  revert go h1
  match o with
  | 0 => exact fun h1 go => lv_icmp_eq hx hb h1 ht (go (x = y) inferInstance rfl).1 (go (x = y) inferInstance rfl).2
  | 1 => exact fun h1 go => lv_icmp_ne hx hb h1 ht (go (¬ x = y) inferInstance rfl).1 (fun z => (go (¬ x = y) inferInstance rfl).2 (fun q => q z))
  | 2 => exact fun h1 go => lv_icmp_lt hx hb h1 ht (go (x < y) inferInstance rfl).1 (go (x < y) inferInstance rfl).2
  | 3 => exact fun h1 go => lv_icmp_ge hx hb h1 ht (go (y ≤ x) inferInstance rfl).1 (go (y ≤ x) inferInstance rfl).2
  | 4 => exact fun h1 go => lv_icmp_gt hx hb h1 ht (go (y < x) inferInstance rfl).1 (go (y < x) inferInstance rfl).2
  | n + 5 => exact fun h1 go => lv_icmp_le hx hb h1 ht (go (x ≤ y) inferInstance rfl).1 (go (x ≤ y) inferInstance rfl).2
theorem i_goto (F : j_F p l s mid args meth c own cd mx rt ini hh) {b : Nat} (hd : m_dc cd (m_pc L i) (.goto ((m_pc L b : Int) - m_pc L i)) 3)
    (k : j_P p l e R s mid args below meth c Q G nL c0 s0 L b ls st M) : j_P p l e R s mid args below meth c Q G nL c0 s0 L i ls st M := by
  intro JL H locs cells slots hI hL
  obtain ⟨hx, hb, -⟩ := F
  exact lv_goto hx hb hd (by omega) (k JL H locs cells slots hI hL)
theorem i_cat1 {G : j_G} {v : Value} (h : m_cat1 v = true) : (j_v G v).category = 1 := by
  cases v <;> first | rfl | (simp [m_cat1] at h)
theorem i_cat (G : j_G) (v : Value) : (j_v G v).category = v.category := by
  cases v <;> rfl
theorem i_cats (G : j_G) (st : List Value) : ((st.map (j_v G)).map fun v => v.category).sum = m_cats st := by
  unfold m_cats
  rw [List.map_map]
  congr 1
  exact List.map_congr_left fun v _ => i_cat G v
theorem i_dup (F : j_F p l s mid args meth c own cd mx rt ini hh) {v : Value} (hd : m_d1 cd L (m_pc L i) i .dup 1) (hv : m_cat1 v = true)
    (k : j_P p l e R s mid args below meth c Q G nL c0 s0 L (i + 1) ls (v :: v :: st) M) : j_P p l e R s mid args below meth c Q G nL c0 s0 L i ls (v :: st) M := by
  intro JL H locs cells slots hI hL
  have kk := k JL H locs cells slots hI hL
  obtain ⟨hx, hb, -⟩ := F
  obtain ⟨h1, h2⟩ := hd
  rw [h2] at kk
  exact lv_dup hx hb h1 (i_cat1 hv) kk
theorem i_dup2 (F : j_F p l s mid args meth c own cd mx rt ini hh) {v w : Value} (hd : m_d1 cd L (m_pc L i) i .dup2 1) (hv : m_cat1 v = true) (hw : m_cat1 w = true)
    (k : j_P p l e R s mid args below meth c Q G nL c0 s0 L (i + 1) ls (v :: w :: v :: w :: st) M) : j_P p l e R s mid args below meth c Q G nL c0 s0 L i ls (v :: w :: st) M := by
  intro JL H locs cells slots hI hL
  have kk := k JL H locs cells slots hI hL
  obtain ⟨hx, hb, -⟩ := F
  obtain ⟨h1, h2⟩ := hd
  rw [h2] at kk
  exact lv_dup2_11 hx hb h1 (i_cat1 hv) (i_cat1 hw) kk
theorem i_i2l (F : j_F p l s mid args meth c own cd mx rt ini hh) {x : Int32} (hd : m_d1 cd L (m_pc L i) i .i2l 1)
    (k : j_P p l e R s mid args below meth c Q G nL c0 s0 L (i + 1) ls (.long x.toInt64 :: st) M) : j_P p l e R s mid args below meth c Q G nL c0 s0 L i ls (.int x :: st) M := by
  intro JL H locs cells slots hI hL
  have kk := k JL H locs cells slots hI hL
  obtain ⟨hx, hb, -⟩ := F
  obtain ⟨h1, h2⟩ := hd
  rw [h2] at kk
  exact lv_i2l hx hb h1 rfl kk
theorem i_lconst (F : j_F p l s mid args meth c own cd mx rt ini hh) {a : Nat} (ha : a < 2) (hd : m_d1 cd L (m_pc L i) i (.lconst (Fin.ofNat 2 a)) 1)
    (k : j_P p l e R s mid args below meth c Q G nL c0 s0 L (i + 1) ls (.long (Int64.ofNat a) :: st) M) : j_P p l e R s mid args below meth c Q G nL c0 s0 L i ls st M := by
  intro JL H locs cells slots hI hL
  have kk := k JL H locs cells slots hI hL
  obtain ⟨hx, hb, -⟩ := F
  obtain ⟨h1, h2⟩ := hd
  rw [h2] at kk
  exact lv_lconst hx hb h1 (congrArg Int64.ofNat (Nat.mod_eq_of_lt ha)) kk
theorem i_lcmp (F : j_F p l s mid args meth c own cd mx rt ini hh) {x y : Int64} (hd : m_d1 cd L (m_pc L i) i .lcmp 1)
    (k : j_P p l e R s mid args below meth c Q G nL c0 s0 L (i + 1) ls (.int (lg_cmp x y) :: st) M) : j_P p l e R s mid args below meth c Q G nL c0 s0 L i ls (.long y :: .long x :: st) M := by
  intro JL H locs cells slots hI hL
  have kk := k JL H locs cells slots hI hL
  obtain ⟨hx, hb, -⟩ := F
  obtain ⟨h1, h2⟩ := hd
  rw [h2] at kk
  exact W.lcmp hx hb h1 kk
end J1
end
section
/-! INSTRUCTIONS that read and write cells. -/
section J2
variable {p : Program} {l : Launch} {e : Env} {R : Room} {s : State} {mid : MethodId} {args : Array Value} {below : List Frame} {meth : Method} {c : Code} {Q : Nat → Nat → State → Prop}
variable {G : j_G} {nL c0 s0 i own mx : Nat} {cd : ByteArray} {rt : Option FieldType} {ini : Bool} {hh : List (Nat × Nat × Nat × Nat)} {L : List (Nat × m_I)} {ls : m_L} {st : List Value} {M : m_M}
/-- the classes and array classes are as the tables have them -/
def j_K (G : j_G) (s : State) : Prop := va_K G.2.2.2.1 vwCl (j_tys G) s
theorem j_at {H : Heap} {locs : List Loc} {cells slots r : Nat} (hI : j_I G s M c0 s0 H locs cells slots) (hr : r < M.2.1) : j_ad G r = G.1 + r := j_ad_lt (Nat.lt_of_lt_of_le hr hI.2.2.1)
theorem j_I.put {H H1 : Heap} {locs locs1 : List Loc} {cells slots r : Nat} {x : m_C} (hI : j_I G s M c0 s0 H locs cells slots) (hr : r < M.2.1) (hP : va_P G.2.2.2.1 vwCl ((j_w G M).set r (G.1 + r, j_c G x)) H1) (hS : va_S (j_A G) s.heap H1 locs1) : j_I G s (m_put M r x) c0 s0 H1 locs1 cells slots := by
  obtain ⟨h1, h2, h3, h5, h6⟩ := hI
  rw [j_set hr] at hP
  exact ⟨hP, hS, h3, h5, h6⟩
theorem i_getf (F : j_F p l s mid args meth c own cd mx rt ini hh) (K : j_K G s) {ci kf ix r : Nat} {fs : List Value} {v : Value} (hd : m_d1 cd L (m_pc L i) i (.getfield ix) 3) (hf : (own, (ix, (ci, kf))) ∈ m_fl) (hr : r < M.2.1) (hM : M.1 r = .inr (ci, fs)) (hv : fs[kf]? = some v)
    (k : j_P p l e R s mid args below meth c Q G nL c0 s0 L (i + 1) ls (v :: st) M) : j_P p l e R s mid args below meth c Q G nL c0 s0 L i ls (.ref r :: st) M := by
  intro JL H locs cells slots hI hL
  have kk := k JL H locs cells slots hI hL
  obtain ⟨hx, hb, -, ho, hw, -⟩ := F
  obtain ⟨h1, h2⟩ := hd
  rw [h2] at kk
  obtain ⟨hc9, hk⟩ := q_fl hf
  have he : (j_w G M)[r]? = some (G.1 + r, .inr (ci, fs.map (j_v G))) := by rw [j_get hr, hM]; rfl
  have hvc : vwCl[ci]? = some ((m_vc ci).1, (m_vc ci).2.1, (m_vc ci).2.2) := q_vc hc9
  show W p l e R s mid args below meth c H locs cells slots (Q c0 s0) (F0 mid (m_pc L i) JL (.ref (j_ad G r) :: st.map (j_v G)))
  rw [j_at hI hr]
  exact va_get (D := G.2.2.2.1) (cl := vwCl) (tys := j_tys G) hx hb hw (q_in hc9) ho K hI.1 r he hvc kf hk (hw _ (m_fl_ok _ hf)) (fun x h => h) (v := j_v G v) (by rw [List.getElem?_map, hv]; rfl) h1 kk
theorem i_putf (F : j_F p l s mid args meth c own cd mx rt ini hh) (K : j_K G s) {ci kf ix r : Nat} {fs : List Value} {v : Value} (hd : m_d1 cd L (m_pc L i) i (.putfield ix) 3) (hf : (own, (ix, (ci, kf))) ∈ m_fl) (hfin : ((m_vc ci).2.1 kf).2.2.2 = false ∨ (ini = true ∧ own = ci)) (hfit : m_fit (m_kd ci kf) v = true) (hr : r < M.2.1) (hM : M.1 r = .inr (ci, fs)) (hl : kf < fs.length)
    (k : j_P p l e R s mid args below meth c Q G nL c0 s0 L (i + 1) ls st (m_put M r (.inr (ci, fs.set kf v)))) : j_P p l e R s mid args below meth c Q G nL c0 s0 L i ls (v :: .ref r :: st) M := by
  intro JL H locs cells slots hI hL
  obtain ⟨hx, hb, -, ho, hw, -, -, -, hin, -⟩ := F
  obtain ⟨h1, h2⟩ := hd
  obtain ⟨hc9, hk⟩ := q_fl hf
  have he : (j_w G M)[r]? = some (G.1 + r, .inr (ci, fs.map (j_v G))) := by rw [j_get hr, hM]; rfl
  have hvc : vwCl[ci]? = some ((m_vc ci).1, (m_vc ci).2.1, (m_vc ci).2.2) := q_vc hc9
  obtain ⟨hn, hft⟩ := q_fit (G := G) hc9 hk hfit
  show W p l e R s mid args below meth c H locs cells slots (Q c0 s0) (F0 mid (m_pc L i) JL (j_v G v :: .ref (j_ad G r) :: st.map (j_v G)))
  rw [j_at hI hr]
  have fin : ∀ (H1 : Heap) (locs1 : List Loc), va_P G.2.2.2.1 vwCl ((j_w G M).set r (G.1 + r, .inr (ci, (fs.map (j_v G)).set kf (j_v G v)))) H1 → va_D (j_A G) ((j_w G M).set r (G.1 + r, .inr (ci, (fs.map (j_v G)).set kf (j_v G v)))) → va_S (j_A G) s.heap H1 locs1 → W p l e R s mid args below meth c H1 locs1 cells slots (Q c0 s0) (F0 mid (m_pc L i + 3) JL (st.map (j_v G))) := by
    intro H1 locs1 hP _ hS
    rw [← List.map_set] at hP
    have kk := k JL H1 locs1 cells slots (hI.put (x := .inr (ci, fs.set kf v)) hr hP hS) hL
    rw [h2] at kk
    exact kk
  by_cases hf0 : ((m_vc ci).2.1 kf).2.2.2 = false
  · exact va_put (D := G.2.2.2.1) (cl := vwCl) (tys := j_tys G) hx hb hw (q_in hc9) (m_tyf ci) (q_ty hc9) (q_nn hc9) ho K hI.1 (j_D G M) hI.2.1 r he hvc kf hk (hw _ (m_fl_ok _ hf)) (fun x h => h) hf0 (q_ty hc9 kf hk) hn hft (by rw [List.length_map]; exact hl) h1 fin
  · obtain ⟨g1, g2⟩ := hfin.resolve_left hf0
    exact va_putF (D := G.2.2.2.1) (cl := vwCl) (tys := j_tys G) hx hb hw (q_in hc9) (m_tyf ci) (q_ty hc9) (q_nn hc9) ho K hI.1 (j_D G M) hI.2.1 r he hvc kf hk (hw _ (m_fl_ok _ hf)) (fun x h => h) (by simpa using hf0) (hin g1) (by rw [g2]; exact q_dc hc9 kf hk) (q_ty hc9 kf hk) hn hft (by rw [List.length_map]; exact hl) h1 fin
theorem i_in {j : Int32} {n : Nat} (h : m_in j n = true) : vp_in j n := of_decide_eq_true (p := ¬ (j < 0 ∨ n ≤ j.toNatClampNeg)) h
theorem i_iald (F : j_F p l s mid args meth c own cd mx rt ini hh) (K : j_K G s) {r n : Nat} {j : Int32} {f : Nat → Int32} (hd : m_d1 cd L (m_pc L i) i .iaload 1) (hr : r < M.2.1) (hM : M.1 r = .inl (0, (n, .inl f))) (hj : m_in j n = true)
    (k : j_P p l e R s mid args below meth c Q G nL c0 s0 L (i + 1) ls (.int (f j.toNatClampNeg) :: st) M) : j_P p l e R s mid args below meth c Q G nL c0 s0 L i ls (.int j :: .ref r :: st) M := by
  intro JL H locs cells slots hI hL
  have kk := k JL H locs cells slots hI hL
  obtain ⟨hx, hb, -⟩ := F
  obtain ⟨h1, h2⟩ := hd
  rw [h2] at kk
  have he : (j_w G M)[r]? = some (G.1 + r, .inl (G.2.2.1 0, (n, .inl f))) := by rw [j_get hr, hM]; rfl
  show W p l e R s mid args below meth c H locs cells slots (Q c0 s0) (F0 mid (m_pc L i) JL (.int j :: .ref (j_ad G r) :: st.map (j_v G)))
  rw [j_at hI hr]
  exact va_iald hx hb K hI.1 r 0 he (j_ty_at G (by decide)) (i_in hj) h1 kk
theorem i_bald (F : j_F p l s mid args meth c own cd mx rt ini hh) (K : j_K G s) {r n : Nat} {j : Int32} {f : Nat → Int32} (hd : m_d1 cd L (m_pc L i) i .baload 1) (hr : r < M.2.1) (hM : M.1 r = .inl (1, (n, .inl f))) (hj : m_in j n = true)
    (k : j_P p l e R s mid args below meth c Q G nL c0 s0 L (i + 1) ls (.int (f j.toNatClampNeg) :: st) M) : j_P p l e R s mid args below meth c Q G nL c0 s0 L i ls (.int j :: .ref r :: st) M := by
  intro JL H locs cells slots hI hL
  have kk := k JL H locs cells slots hI hL
  obtain ⟨hx, hb, -⟩ := F
  obtain ⟨h1, h2⟩ := hd
  rw [h2] at kk
  have he : (j_w G M)[r]? = some (G.1 + r, .inl (G.2.2.1 1, (n, .inl f))) := by rw [j_get hr, hM]; rfl
  show W p l e R s mid args below meth c H locs cells slots (Q c0 s0) (F0 mid (m_pc L i) JL (.int j :: .ref (j_ad G r) :: st.map (j_v G)))
  rw [j_at hI hr]
  exact va_zald hx hb K hI.1 r 1 he (j_ty_at G (by decide)) (i_in hj) h1 kk
theorem i_lald (F : j_F p l s mid args meth c own cd mx rt ini hh) (K : j_K G s) {r n : Nat} {j : Int32} {f : Nat → Int64} (hd : m_d1 cd L (m_pc L i) i .laload 1) (hr : r < M.2.1) (hM : M.1 r = .inl (2, (n, .inr (.inl f)))) (hj : m_in j n = true)
    (k : j_P p l e R s mid args below meth c Q G nL c0 s0 L (i + 1) ls (.long (f j.toNatClampNeg) :: st) M) : j_P p l e R s mid args below meth c Q G nL c0 s0 L i ls (.int j :: .ref r :: st) M := by
  intro JL H locs cells slots hI hL
  have kk := k JL H locs cells slots hI hL
  obtain ⟨hx, hb, -⟩ := F
  obtain ⟨h1, h2⟩ := hd
  rw [h2] at kk
  have he : (j_w G M)[r]? = some (G.1 + r, .inl (G.2.2.1 2, (n, .inr (.inl f)))) := by rw [j_get hr, hM]; rfl
  show W p l e R s mid args below meth c H locs cells slots (Q c0 s0) (F0 mid (m_pc L i) JL (.int j :: .ref (j_ad G r) :: st.map (j_v G)))
  rw [j_at hI hr]
  exact va_lald hx hb K hI.1 r 2 he (j_ty_at G (by decide)) (i_in hj) h1 kk
theorem i_iast (F : j_F p l s mid args meth c own cd mx rt ini hh) (K : j_K G s) {r n : Nat} {j x : Int32} {f : Nat → Int32} (hd : m_d1 cd L (m_pc L i) i .iastore 1) (hr : r < M.2.1) (hM : M.1 r = .inl (0, (n, .inl f))) (hj : m_in j n = true)
    (k : j_P p l e R s mid args below meth c Q G nL c0 s0 L (i + 1) ls st (m_put M r (.inl (0, (n, .inl (upd f j.toNatClampNeg x)))))) : j_P p l e R s mid args below meth c Q G nL c0 s0 L i ls (.int x :: .int j :: .ref r :: st) M := by
  intro JL H locs cells slots hI hL
  obtain ⟨hx, hb, -⟩ := F
  obtain ⟨h1, h2⟩ := hd
  have he : (j_w G M)[r]? = some (G.1 + r, .inl (G.2.2.1 0, (n, .inl f))) := by rw [j_get hr, hM]; rfl
  show W p l e R s mid args below meth c H locs cells slots (Q c0 s0) (F0 mid (m_pc L i) JL (.int x :: .int j :: .ref (j_ad G r) :: st.map (j_v G)))
  rw [j_at hI hr]
  refine va_iast hx hb K hI.1 (j_D G M) hI.2.1 r 0 he (j_ty_at G (by decide)) (i_in hj) h1 fun H1 locs1 hP _ hS => ?_
  have kk := k JL H1 locs1 cells slots (hI.put (x := .inl (0, (n, .inl (upd f j.toNatClampNeg x)))) hr hP hS) hL
  rw [h2] at kk
  exact kk
theorem i_isb {x : Int32} (h : m_isb x = true) : vp_nar .boolean x = x := by
  simp only [m_isb, Bool.or_eq_true, beq_iff_eq] at h
  rcases h with rfl | rfl <;> rfl
theorem i_bast (F : j_F p l s mid args meth c own cd mx rt ini hh) (K : j_K G s) {r n : Nat} {j x : Int32} {f : Nat → Int32} (hd : m_d1 cd L (m_pc L i) i .bastore 1) (hr : r < M.2.1) (hM : M.1 r = .inl (1, (n, .inl f))) (hj : m_in j n = true) (hb1 : m_isb x = true)
    (k : j_P p l e R s mid args below meth c Q G nL c0 s0 L (i + 1) ls st (m_put M r (.inl (1, (n, .inl (upd f j.toNatClampNeg x)))))) : j_P p l e R s mid args below meth c Q G nL c0 s0 L i ls (.int x :: .int j :: .ref r :: st) M := by
  intro JL H locs cells slots hI hL
  obtain ⟨hx, hb, -⟩ := F
  obtain ⟨h1, h2⟩ := hd
  have he : (j_w G M)[r]? = some (G.1 + r, .inl (G.2.2.1 1, (n, .inl f))) := by rw [j_get hr, hM]; rfl
  show W p l e R s mid args below meth c H locs cells slots (Q c0 s0) (F0 mid (m_pc L i) JL (.int x :: .int j :: .ref (j_ad G r) :: st.map (j_v G)))
  rw [j_at hI hr]
  refine va_zast hx hb K hI.1 (j_D G M) hI.2.1 r 1 he (j_ty_at G (by decide)) (i_in hj) h1 fun H1 locs1 hP _ hS => ?_
  rw [i_isb hb1] at hP
  have kk := k JL H1 locs1 cells slots (hI.put (x := .inl (1, (n, .inl (upd f j.toNatClampNeg x)))) hr hP hS) hL
  rw [h2] at kk
  exact kk
theorem i_last (F : j_F p l s mid args meth c own cd mx rt ini hh) (K : j_K G s) {r n : Nat} {j : Int32} {x : Int64} {f : Nat → Int64} (hd : m_d1 cd L (m_pc L i) i .lastore 1) (hr : r < M.2.1) (hM : M.1 r = .inl (2, (n, .inr (.inl f)))) (hj : m_in j n = true)
    (k : j_P p l e R s mid args below meth c Q G nL c0 s0 L (i + 1) ls st (m_put M r (.inl (2, (n, .inr (.inl (vp_updL f j.toNatClampNeg x))))))) : j_P p l e R s mid args below meth c Q G nL c0 s0 L i ls (.long x :: .int j :: .ref r :: st) M := by
  intro JL H locs cells slots hI hL
  obtain ⟨hx, hb, -⟩ := F
  obtain ⟨h1, h2⟩ := hd
  have he : (j_w G M)[r]? = some (G.1 + r, .inl (G.2.2.1 2, (n, .inr (.inl f)))) := by rw [j_get hr, hM]; rfl
  show W p l e R s mid args below meth c H locs cells slots (Q c0 s0) (F0 mid (m_pc L i) JL (.long x :: .int j :: .ref (j_ad G r) :: st.map (j_v G)))
  rw [j_at hI hr]
  refine va_last hx hb K hI.1 (j_D G M) hI.2.1 r 2 he (j_ty_at G (by decide)) (i_in hj) h1 fun H1 locs1 hP _ hS => ?_
  have kk := k JL H1 locs1 cells slots (hI.put (x := .inl (2, (n, .inr (.inl (vp_updL f j.toNatClampNeg x))))) hr hP hS) hL
  rw [h2] at kk
  exact kk
/-- of a kind from 3 on: arrays of references -/
theorem j_ty_ref {t : Nat} (h3 : 3 ≤ t) (h9 : t < 9) : (j_ty.getD t .int).isReference = true := by
  match t, h3, h9 with
  | 3, _, _ => rfl
  | 4, _, _ => rfl
  | 5, _, _ => rfl
  | 6, _, _ => rfl
  | 7, _, _ => rfl
  | 8, _, _ => rfl
theorem i_aald (F : j_F p l s mid args meth c own cd mx rt ini hh) (K : j_K G s) {r n t x : Nat} {j : Int32} {f : Nat → Option Nat} (hd : m_d1 cd L (m_pc L i) i .aaload 1) (hr : r < M.2.1) (h3 : 3 ≤ t) (h9 : t < 9) (hM : M.1 r = .inl (t, (n, .inr (.inr (.inr (.inr f)))))) (hj : m_in j n = true) (hf : f j.toNatClampNeg = some x)
    (k : j_P p l e R s mid args below meth c Q G nL c0 s0 L (i + 1) ls (.ref x :: st) M) : j_P p l e R s mid args below meth c Q G nL c0 s0 L i ls (.int j :: .ref r :: st) M := by
  intro JL H locs cells slots hI hL
  have kk := k JL H locs cells slots hI hL
  obtain ⟨hx, hb, -⟩ := F
  obtain ⟨h1, h2⟩ := hd
  rw [h2] at kk
  have he : (j_w G M)[r]? = some (G.1 + r, .inl (G.2.2.1 t, (n, .inr (.inr (.inr (.inr (fun j => (f j).map (j_ad G)))))))) := by rw [j_get hr, hM]; rfl
  show W p l e R s mid args below meth c H locs cells slots (Q c0 s0) (F0 mid (m_pc L i) JL (.int j :: .ref (j_ad G r) :: st.map (j_v G)))
  rw [j_at hI hr]
  have hin := i_in hj
  have hlt : j.toNatClampNeg < n := Nat.not_le.mp fun q => hin (Or.inr q)
  refine W.aald (v := .ref (j_ad G x)) (ty := j_ty.getD t .int) hx hb (hI.1 r _ he) ((K.2 t _ (j_ty_at G h9)).1 n (fun j => va_rf ((f j).map (j_ad G)))) (j_ty_ref h3 h9) (fun q => by cases q) (by show ¬ (j < 0 ∨ (arrV _ _ _).slots.size ≤ _); rw [arrV_size]; exact hin) (by show (arrV _ _ _).slots[_]? = _; rw [arrV_read _ _ hlt]; show some (va_rf ((f j.toNatClampNeg).map (j_ad G))) = _; rw [hf]; rfl) rfl rfl h1 kk
theorem i_alen (F : j_F p l s mid args meth c own cd mx rt ini hh) (K : j_K G s) {r t : Nat} {a : vp_A} (hd : m_d1 cd L (m_pc L i) i .arraylength 1) (hr : r < M.2.1) (h9 : t < 9) (hM : M.1 r = .inl (t, a))
    (k : j_P p l e R s mid args below meth c Q G nL c0 s0 L (i + 1) ls (.int (Int32.ofNat a.1) :: st) M) : j_P p l e R s mid args below meth c Q G nL c0 s0 L i ls (.ref r :: st) M := by
  intro JL H locs cells slots hI hL
  have kk := k JL H locs cells slots hI hL
  obtain ⟨hx, hb, -⟩ := F
  obtain ⟨h1, h2⟩ := hd
  rw [h2] at kk
  have he : (j_w G M)[r]? = some (G.1 + r, .inl (G.2.2.1 t, j_a G a)) := by rw [j_get hr, hM]; rfl
  have ha : (j_a G a).1 = a.1 := by
    obtain ⟨n, a⟩ := a
    rcases a with a | a | a | a | a <;> rfl
  show W p l e R s mid args below meth c H locs cells slots (Q c0 s0) (F0 mid (m_pc L i) JL (.ref (j_ad G r) :: st.map (j_v G)))
  rw [j_at hI hr]
  exact va_alen hx hb K hI.1 r t he (j_ty_at G h9) (by rw [ha]) h1 kk
theorem i_aast (F : j_F p l s mid args meth c own cd mx rt ini hh) (K : j_K G s) {r n t x ci : Nat} {j : Int32} {f : Nat → Option Nat} {fs : List Value} (hd : m_d1 cd L (m_pc L i) i .aastore 1) (hr : r < M.2.1) (hxr : x < M.2.1) (h5 : 5 ≤ t) (h9 : t < 9) (hM : M.1 r = .inl (t, (n, .inr (.inr (.inr (.inr f)))))) (hV : M.1 x = .inr (ci, fs)) (hc : ci = m_el t) (hj : m_in j n = true)
    (k : j_P p l e R s mid args below meth c Q G nL c0 s0 L (i + 1) ls st (m_put M r (.inl (t, (n, .inr (.inr (.inr (.inr (va_up f j.toNatClampNeg (some x)))))))))) : j_P p l e R s mid args below meth c Q G nL c0 s0 L i ls (.ref x :: .int j :: .ref r :: st) M := by
  intro JL H locs cells slots hI hL
  obtain ⟨hx, hb, -⟩ := F
  obtain ⟨h1, h2⟩ := hd
  have he : (j_w G M)[r]? = some (G.1 + r, .inl (G.2.2.1 t, (n, .inr (.inr (.inr (.inr (fun j => (f j).map (j_ad G)))))))) := by rw [j_get hr, hM]; rfl
  have hv : (j_w G M)[x]? = some (G.1 + x, .inr (ci, fs.map (j_v G))) := by rw [j_get hxr, hV]; rfl
  have hc9 : ci < 9 ∧ j_ty.getD t .int = .object (m_vc ci).1 := by
    subst hc
    match t, h5, h9 with
    | 5, _, _ => exact ⟨by decide, rfl⟩
    | 6, _, _ => exact ⟨by decide, rfl⟩
    | 7, _, _ => exact ⟨by decide, rfl⟩
    | 8, _, _ => exact ⟨by decide, rfl⟩
  show W p l e R s mid args below meth c H locs cells slots (Q c0 s0) (F0 mid (m_pc L i) JL (.ref (j_ad G x) :: .int j :: .ref (j_ad G r) :: st.map (j_v G)))
  rw [j_at hI hr, j_at hI hxr]
  refine va_astq hx hb K hI.1 (j_D G M) hI.2.1 r t x ci he (by rw [j_ty_at G h9, hc9.2]) hv (q_vc hc9.1) (i_in hj) h1 fun H1 locs1 hP _ hS => ?_
  have e1 : (va_up (fun j => (f j).map (j_ad G)) j.toNatClampNeg (some (G.1 + x))) = (fun q => (va_up f j.toNatClampNeg (some x) q).map (j_ad G)) := by
    funext q
    by_cases hq : q = j.toNatClampNeg
    · simp [va_up, hq, j_at hI hxr]
    · simp [va_up, hq]
  rw [e1] at hP
  have kk := k JL H1 locs1 cells slots (hI.put (x := .inl (t, (n, .inr (.inr (.inr (.inr (va_up f j.toNatClampNeg (some x)))))))) hr hP hS) hL
  rw [h2] at kk
  exact kk
end J2
end
section
/-! WHAT LIES OUTSIDE the cells: the script, the texts, what the tables say that can't be carried as a method's words. -/
def m_txs : List String := ["free paid lent hired pledge work any", "mixed", "parts last", "answers swears owes lets twice", "worn hurt died lost stolen forced all", "if", "or", "and", "not", "least most", "fault there use late passed term value days"]
def m_tlen : List Nat := m_text.map List.length
def m_tbyt : List (List Int32) := m_text.map fun l => l.map nI
def m_ex (x : Nat) : String := match x with
  | 0 => "java/lang/IllegalArgumentException"
  | _ => "java/util/NoSuchElementException"
def m_msg (i : Nat) : String := if i = 236 then "no such QUESTION" else if i = 296 then "none such" else "no such HAND"
def j_E (G : j_G) (s : State) : Prop :=
  (va_X (G.2.1 0) G.2.2.2.2.1 G.2.2.2.2.2 s s.heap ∧ G.2.1 0 < s.heap.size ∧ G.2.1 0 < G.1) ∧
  (∃ adV : Nat → Nat, vk_S 11 m_tlen m_tbyt (fun i => G.2.1 (1 + i)) adV (j_A G) s s.heap) ∧
  (∀ q ∈ m_sl, vk_R (m_cn q.1) q.2.1 (m_txs.getD q.2.2 "") (G.2.1 (1 + q.2.2)) s) ∧
  (∀ q ∈ m_nl, va_Nw (.methodLinkNest (m_cn q.1) q.2.1 (m_y q.2.2) RX7) s) ∧
  (va_Nw (.castable (m_ex 0) (m_ex 0)) s ∧ va_Nw (.castable (m_ex 1) (m_ex 1)) s ∧ va_Nc (m_ex 1) (m_ex 0) s ∧ va_Nc (m_ex 0) (m_ex 1) s ∧ ∀ Y ∈ ["java/lang/RuntimeException", "java/lang/Exception", Bundle.tN], va_Nw (.declares (Bundle.initS Y)) s) ∧
  (vx_Zq Bundle.tN "UNASSIGNED_STACK" Bundle.steD (j_A G) s s.heap ∧ vx_Zq Bundle.tN "SUPPRESSED_SENTINEL" Bundle.listD (j_A G) s s.heap) ∧
  (∀ q ∈ m_tl, ∃ sa : Nat, vk_R (m_cn q.1) q.2.2.1 (m_msg q.2.2.1) sa s) ∧
  (∀ C ∈ [RX4, RX3, RX6, RX0], va_AO C s)
theorem j_E.move {G : j_G} {s U : State} (h : j_E G s) (hW : s.WarmedH U.vm) (hz : s.heap.size ≤ U.heap.size) (hq : ∀ a : Nat, a < s.heap.size → ¬ j_A G a → U.heap[a]? = s.heap[a]?) : j_E G U := by
  obtain ⟨⟨h1, h2, h3⟩, ⟨adV, h4⟩, h5, h6, ⟨h7, h8, h9, h9', h9d⟩, ⟨h10, h11⟩, h12, h13⟩ := h
  refine ⟨⟨(h1.moved hW.alike).kept (hq _ h2 (Nat.not_le.mpr h3)), Nat.lt_of_lt_of_le h2 hz, h3⟩, ⟨adV, (h4.moved hW.alike).kept hq⟩, fun q hq => (h5 q hq).warm hW, fun q hq => (h6 q hq).warmM hW, ⟨h7.warmC hW, h8.warmC hW, h9.moved hW.alike, h9'.moved hW.alike, fun Y hY => (h9d Y hY).warmD hW⟩, ⟨(h10.moved hW.alike).kept hq, (h11.moved hW.alike).kept hq⟩, fun q hq => ?_, fun C hC => (h13 C hC).moved hW.alike⟩
  obtain ⟨sa, h⟩ := h12 q hq
  exact ⟨sa, h.warm hW⟩
end
section
/-! THE JDK's OWN METHODS that the classes call (but for the texts'); words by a program (wip/whole/gen_15.py) -/
theorem x_min_s : Cond.static Lib.Math.min.name ∈ m_ws := m_pl_in (k := 2208) (by decide +kernel)
theorem x_max_s : Cond.static Lib.Math.max.name ∈ m_ws := m_pl_in (k := 2211) (by decide +kernel)
theorem x_math : Cond.initialized "java/lang/Math" ∈ m_ws := m_pl_in (k := 1014) (by decide +kernel)
theorem x_min_c : Cond.code Lib.Math.min.name Lib.Math.min.code 2 (some .int) ∈ m_ws := m_pl_in (k := 2209) (by decide +kernel)
theorem x_max_c : Cond.code Lib.Math.max.name Lib.Math.max.code 2 (some .int) ∈ m_ws := m_pl_in (k := 2212) (by decide +kernel)
theorem x_cp_n : Cond.native arraycopyName ∈ m_ws := m_pl_in (k := 2131) (by decide +kernel)
theorem x_cp_s : Cond.static arraycopyName ∈ m_ws := m_pl_in (k := 2130) (by decide +kernel)
theorem x_sys : Cond.initialized "java/lang/System" ∈ m_ws := m_pl_in (k := 1020) (by decide +kernel)
theorem x_oi_i : Cond.instanceMethod Lib.objectInit ∈ m_ws := m_pl_in (k := 1027) (by decide +kernel)
theorem x_oi_c : Cond.code Lib.objectInit ⟨#[0xb1]⟩ 1 none ∈ m_ws := m_pl_in (k := 1028) (by decide +kernel)
section J3
variable {p : Program} {l : Launch} {e : Env} {R : Room} {s : State} {mid : MethodId} {args : Array Value} {below : List Frame} {meth : Method} {c : Code} {Q : Nat → Nat → State → Prop}
variable {G : j_G} {nL c0 s0 i own : Nat} {cd : ByteArray} {rt : Option FieldType} {ini : Bool} {hh : List (Nat × Nat × Nat × Nat)} {L : List (Nat × m_I)} {ls : m_L} {st : List Value} {M : m_M}
/-- room for a call of the JDK's own -/
def j_R (R : Room) (M : m_M) (c0 s0 : Nat) : Prop := 12 ≤ R.frames ∧ 400 ≤ R.locals ∧ M.2.2.1 ≤ c0 + R.cells ∧ M.2.2.2 ≤ s0 + R.slots
theorem j_ad_ge {G : j_G} {k : Nat} (h : ¬ k < 1000000) : j_ad G k = G.2.1 (k - 1000000) := if_neg h
theorem j_ad_text (G : j_G) (a : Nat) : j_ad G (m_T0 + a) = G.2.1 (1 + a) := by
  have h1 : ¬ m_T0 + a < 1000000 := by unfold m_T0; omega
  have h2 : m_T0 + a - 1000000 = 1 + a := by unfold m_T0; omega
  rw [j_ad_ge h1, h2]
theorem j_ad_scr (G : j_G) : j_ad G 1000000 = G.2.1 0 := by
  rw [j_ad_ge (Nat.lt_irrefl 1000000)]
theorem i_min (F : j_F p l s mid args meth c own cd nL rt ini hh) (hR : j_R R M c0 s0) {ix : Nat} {x y : Int32} (hd : m_d1 cd L (m_pc L i) i (.invokestatic ix) 3) (hj : (own, (ix, 1)) ∈ m_jl) (hs : m_cats st ≤ 8)
    (k : j_P p l e R s mid args below meth c Q G nL c0 s0 L (i + 1) ls (.int (if y < x then y else x) :: st) M) : j_P p l e R s mid args below meth c Q G nL c0 s0 L i ls (.int y :: .int x :: st) M := by
  intro JL H locs cells slots hI hL
  have kk := k JL H locs cells slots hI hL
  obtain ⟨hx, hb, hml, ho, hw, -⟩ := F
  obtain ⟨h1, h2⟩ := hd
  rw [h2] at kk
  obtain ⟨r1, r2, r3, r4⟩ := hR
  obtain ⟨-, -, -, hc, hsl⟩ := hI
  exact va_mmin hx hb (by rw [hml, hL.1.1]) ho (hw _ (m_jl_ok _ hj)) (hw _ x_min_s) (hw _ x_math) (hw _ x_min_c) (by omega) (by rw [i_cats]; omega) (by omega) (by omega) h1 kk
theorem i_max (F : j_F p l s mid args meth c own cd nL rt ini hh) (hR : j_R R M c0 s0) {ix : Nat} {x y : Int32} (hd : m_d1 cd L (m_pc L i) i (.invokestatic ix) 3) (hj : (own, (ix, 2)) ∈ m_jl) (hs : m_cats st ≤ 8)
    (k : j_P p l e R s mid args below meth c Q G nL c0 s0 L (i + 1) ls (.int (if x < y then y else x) :: st) M) : j_P p l e R s mid args below meth c Q G nL c0 s0 L i ls (.int y :: .int x :: st) M := by
  intro JL H locs cells slots hI hL
  have kk := k JL H locs cells slots hI hL
  obtain ⟨hx, hb, hml, ho, hw, -⟩ := F
  obtain ⟨h1, h2⟩ := hd
  rw [h2] at kk
  obtain ⟨r1, r2, r3, r4⟩ := hR
  obtain ⟨-, -, -, hc, hsl⟩ := hI
  exact va_mmax hx hb (by rw [hml, hL.1.1]) ho (hw _ (m_jl_ok _ hj)) (hw _ x_max_s) (hw _ x_math) (hw _ x_max_c) (by omega) (by rw [i_cats]; omega) (by omega) (by omega) h1 kk
theorem i_pop (F : j_F p l s mid args meth c own cd nL rt ini hh) (hR : j_R R M c0 s0) {ix r : Nat} (hd : m_d1 cd L (m_pc L i) i (.invokespecial ix) 3) (hj : (own, (ix, 0)) ∈ m_jl) (hs : m_cats st ≤ 8)
    (k : j_P p l e R s mid args below meth c Q G nL c0 s0 L (i + 1) ls st M) : j_P p l e R s mid args below meth c Q G nL c0 s0 L i ls (.ref r :: st) M := by
  intro JL H locs cells slots hI hL
  have kk := k JL H locs cells slots hI hL
  obtain ⟨hx, hb, hml, ho, hw, -⟩ := F
  obtain ⟨h1, h2⟩ := hd
  rw [h2] at kk
  obtain ⟨r1, r2, r3, r4⟩ := hR
  exact W.objInit hx hb ho (hw _ (m_jl_ok _ hj)) (hw _ x_oi_i) (hw _ x_oi_c) rfl (by rw [hml]; exact hL.1.1) rfl h1 (by omega) (by show 2 * 0 + ((st.map (j_v G)).map fun v => v.category).sum + 12 ≤ _; rw [i_cats]; omega) kk
theorem i_copy (F : j_F p l s mid args meth c own cd nL rt ini hh) (K : j_K G s) (hR : j_R R M c0 s0) {ix a b n0 n1 : Nat} {n dp sp : Int32} {f g : Nat → Int32} (hd : m_d1 cd L (m_pc L i) i (.invokestatic ix) 3) (hj : (own, (ix, 3)) ∈ m_jl) (hs : m_cats st ≤ 8)
    (hb' : b < M.2.1) (ha : a < M.2.1) (hMb : M.1 b = .inl (0, (n0, .inl f))) (hMa : M.1 a = .inl (0, (n1, .inl g))) (h1 : ¬ sp < 0) (h2 : ¬ dp < 0) (h3 : ¬ n < 0) (h4 : sp.toNatClampNeg + n.toNatClampNeg ≤ n0) (h5 : dp.toNatClampNeg + n.toNatClampNeg ≤ n1)
    (k : j_P p l e R s mid args below meth c Q G nL c0 s0 L (i + 1) ls st (m_put M a (.inl (0, (n1, .inl (va_cpy f g sp.toNatClampNeg dp.toNatClampNeg n.toNatClampNeg)))))) : j_P p l e R s mid args below meth c Q G nL c0 s0 L i ls (.int n :: .int dp :: .ref a :: .int sp :: .ref b :: st) M := by
  intro JL H locs cells slots hI hL
  obtain ⟨hx, hb, hml, ho, hw, -⟩ := F
  obtain ⟨g1, g2⟩ := hd
  obtain ⟨r1, r2, r3, r4⟩ := hR
  have heb : (j_w G M)[b]? = some (G.1 + b, .inl (G.2.2.1 0, (n0, .inl f))) := by rw [j_get hb', hMb]; rfl
  have hea : (j_w G M)[a]? = some (G.1 + a, .inl (G.2.2.1 0, (n1, .inl g))) := by rw [j_get ha, hMa]; rfl
  show W p l e R s mid args below meth c H locs cells slots (Q c0 s0) (F0 mid (m_pc L i) JL (.int n :: .int dp :: .ref (j_ad G a) :: .int sp :: .ref (j_ad G b) :: st.map (j_v G)))
  rw [j_at hI hb', j_at hI ha]
  refine va_copyi hx hb (by rw [hml, hL.1.1]) ho (hw _ (m_jl_ok _ hj)) (hw _ x_cp_n) (hw _ x_cp_s) (hw _ x_sys) K hI.1 (j_D G M) hI.2.1 b a 0 0 heb hea (j_ty_at G (by decide)) (j_ty_at G (by decide)) rfl h1 h2 h3 h4 h5 (fun _ _ => rfl) (by omega) (by rw [i_cats]; exact Nat.le_trans (Nat.add_le_add_right hs _) (Nat.le_trans (by decide) r2)) g1 fun H1 locs1 hP _ hS => ?_
  have kk := k JL H1 locs1 cells slots (hI.put (x := .inl (0, (n1, .inl (va_cpy f g sp.toNatClampNeg dp.toNatClampNeg n.toNatClampNeg)))) ha hP hS) hL
  rw [g2] at kk
  exact kk
theorem i_ldc (F : j_F p l s mid args meth c own cd nL rt ini hh) (E : j_E G s) {a b : Nat} (hd : m_d1 cd L (m_pc L i) i (.ldc b) 2) (hj : (own, (b, a)) ∈ m_sl)
    (k : j_P p l e R s mid args below meth c Q G nL c0 s0 L (i + 1) ls (.ref (m_T0 + a) :: st) M) : j_P p l e R s mid args below meth c Q G nL c0 s0 L i ls st M := by
  intro JL H locs cells slots hI hL
  have kk := k JL H locs cells slots hI hL
  obtain ⟨hx, hb, hml, ho, hw, -⟩ := F
  obtain ⟨h1, h2⟩ := hd
  rw [h2] at kk
  have e1 : j_ad G (m_T0 + a) = G.2.1 (1 + a) := j_ad_text G a
  have e2 : j_v G (.ref (m_T0 + a)) = .ref (G.2.1 (1 + a)) := congrArg Value.ref e1
  rw [List.map_cons, e2] at kk
  have e3 : vk_R (m_cn own) b (m_txs.getD a "") (G.2.1 (1 + a)) s := E.2.2.1 (own, (b, a)) hj
  generalize G.2.1 (1 + a) = z at e3 kk
  generalize m_txs.getD a "" = t at e3
  exact va_ldcS (q := z) hx hb ho e3 h1 kk
theorem i_scr (F : j_F p l s mid args meth c own cd nL rt ini hh) (E : j_E G s) {j : Int32} (hd : m_d1 cd L (m_pc L i) i .iaload 1) (hj : m_in j G.2.2.2.2.1 = true)
    (k : j_P p l e R s mid args below meth c Q G nL c0 s0 L (i + 1) ls (.int (G.2.2.2.2.2 j.toNatClampNeg) :: st) M) : j_P p l e R s mid args below meth c Q G nL c0 s0 L i ls (.int j :: .ref 1000000 :: st) M := by
  intro JL H locs cells slots hI hL
  have kk := k JL H locs cells slots hI hL
  obtain ⟨hx, hb, hml, ho, hw, -⟩ := F
  obtain ⟨h1, h2⟩ := hd
  rw [h2] at kk
  obtain ⟨⟨e1, e2, e3⟩, -⟩ := E
  show W p l e R s mid args below meth c H locs cells slots (Q c0 s0) (F0 mid (m_pc L i) JL (.int j :: .ref (j_ad G 1000000) :: st.map (j_v G)))
  rw [j_ad_scr]
  exact va_sld (A := j_A G) hx hb e1 e2 (Nat.not_le.mpr e3) hI.2.1 (i_in hj) h1 kk
theorem i_scl (F : j_F p l s mid args meth c own cd nL rt ini hh) (E : j_E G s) (hd : m_d1 cd L (m_pc L i) i .arraylength 1)
    (k : j_P p l e R s mid args below meth c Q G nL c0 s0 L (i + 1) ls (.int (Int32.ofNat G.2.2.2.2.1) :: st) M) : j_P p l e R s mid args below meth c Q G nL c0 s0 L i ls (.ref 1000000 :: st) M := by
  intro JL H locs cells slots hI hL
  have kk := k JL H locs cells slots hI hL
  obtain ⟨hx, hb, hml, ho, hw, -⟩ := F
  obtain ⟨h1, h2⟩ := hd
  rw [h2] at kk
  obtain ⟨⟨e1, e2, e3⟩, -⟩ := E
  show W p l e R s mid args below meth c H locs cells slots (Q c0 s0) (F0 mid (m_pc L i) JL (.ref (j_ad G 1000000) :: st.map (j_v G)))
  rw [j_ad_scr]
  exact va_slen (A := j_A G) hx hb e1 e2 (Nat.not_le.mpr e3) hI.2.1 h1 kk
end J3
end
section
/-! CALLS: a method's contract, out of one run of our machine; how a caller goes on behind it. -/
theorem j_gi {ws : List Cond} (h : ∀ w ∈ ws, w ∈ m_ws) : GoodIn m_ws ws := fun w hw => ⟨h w hw, good_of_word (List.mem_filter.mp (h w hw)).2⟩
def j_pre (G : j_G) (M : m_M) (U : State) : Prop := va_P G.2.2.2.1 vwCl (j_w G M) U.heap ∧ j_K G U ∧ j_E G U ∧ G.1 ≤ U.heap.size ∧ U.heap.size ≤ G.1 + M.2.2.1 ∧ M.2.1 ≤ 1000000
def j_Pc (G : j_G) (As : List Value) (M : m_M) : Array Value → State → Prop := va_Pc (As.map (j_v G)) (j_pre G M)
def j_Qc (G : j_G) (r : m_R) : Array Value → State → Outcome → State → Prop := fun _ st oc t => (∃ v : Option Value, r.1 = .inl v ∧ oc = .returned (v.map (j_v G))) ∧ va_P G.2.2.2.1 vwCl (j_w G r.2) t.heap ∧ r.2.2.1 ≤ 1000000 ∧ va_F (j_A G) st t
def j_XC (G : j_G) (r : m_R) : String → State → State → Prop := fun E st t => (∃ x : Nat, r.1 = .inr x ∧ E = m_ex x) ∧ va_P G.2.2.2.1 vwCl (j_w G r.2) t.heap ∧ r.2.2.1 ≤ 1000000 ∧ va_F (j_A G) st t
def j_rm (d mc ms : Nat) : Room := { frames := d, cells := mc, slots := ms, locals := 40 * d }
noncomputable def j_ws (y : Nat) : List Cond := m_cw y :: m_ws
def j_Met (l : Launch) (G : j_G) (d y : Nat) (As : List Value) (M : m_M) (r : m_R) : Prop :=
  vx_Met l (m_y y) (j_ws y) (j_rm d (r.2.2.2.1 - M.2.2.1) (r.2.2.2.2 - M.2.2.2)) (j_Pc G As M) (j_Qc G r) (j_XC G r) (r.2.2.2.1 - M.2.2.1) (r.2.2.2.2 - M.2.2.2) (j_A G)
theorem j_blind (G : j_G) (As : List Value) (M : m_M) : FrameBlind (j_Pc G As M) := by
  intro a U g mk h
  obtain ⟨h0, h1, h2, h3, h4, h5, h6⟩ := h
  exact ⟨h0, h1, va_K.moved (u := U) (U := U.calling g mk a) (Vm.Alike.refl U.vm) h2, h3.move (U := U.calling g mk a) (State.WarmedH.refl U) (Nat.le_refl _) (fun _ _ _ => rfl), h4, h5, h6⟩
/-- more made, never fewer -/
def m_le (M M1 : m_M) : Prop := M.2.2.1 ≤ M1.2.2.1 ∧ M.2.2.2 ≤ M1.2.2.2
section J4
variable {p : Program} {l : Launch} {e : Env} {R : Room} {s : State} {mid : MethodId} {args : Array Value} {below : List Frame} {meth : Method} {c : Code} {Q : Nat → Nat → State → Prop}
variable {G : j_G} {nL c0 s0 i own : Nat} {cd : ByteArray} {rt : Option FieldType} {ini : Bool} {hh : List (Nat × Nat × Nat × Nat)} {L : List (Nat × m_I)} {ls : m_L} {st : List Value} {M : m_M}
theorem j_bound {H : Heap} {locs : List Loc} {cells slots : Nat} {Q1 : State → Prop} {g : JFrame} (k : H.size ≤ s.heap.size + cells → W p l e R s mid args below meth c H locs cells slots Q1 g) : W p l e R s mid args below meth c H locs cells slots Q1 g := by
  intro T hT X
  have h9 : T.heap.size ≤ s.heap.size + cells := X.same.2.2.1
  rw [hT] at h9
  exact k h9 T hT X
theorem j_callk {H : Heap} {locs : List Loc} {cells slots mc ms pc : Nat} {Q1 : State → Prop} {JL : Array Slot} {st0 rest : List Value} {r : m_R} {a : Array Value} (hr : vx_Run p l e R s mid args below meth c H locs cells slots mc ms (F0 mid pc JL st0) rest (j_Qc G r a) (j_XC G r) (j_A G)) (hS : va_S (j_A G) s.heap H locs)
    (kx : ∀ x : Nat, r.1 = .inr x → ∀ (ce : Cell) (q9 : Addr) (H1 : Heap) (locs1 : List Loc), va_P G.2.2.2.1 vwCl (j_w G r.2) H1 → r.2.2.1 ≤ 1000000 → va_S (j_A G) s.heap H1 locs1 → H1[q9]? = some ce → ce.vm = .none → s.vm.findClass (m_ex x) = some ce.cls → vx_W p l e R s mid args below meth c H1 locs1 (cells + mc) (slots + ms) Q1 (F0 mid pc JL rest) q9)
    (kk : ∀ v : Option Value, r.1 = .inl v → ∀ (H1 : Heap) (locs1 : List Loc), va_P G.2.2.2.1 vwCl (j_w G r.2) H1 → r.2.2.1 ≤ 1000000 → va_S (j_A G) s.heap H1 locs1 → W p l e R s mid args below meth c H1 locs1 (cells + mc) (slots + ms) Q1 (F0 mid (pc + 3) JL ((v.map (j_v G)).toList ++ rest))) : W p l e R s mid args below meth c H locs cells slots Q1 (F0 mid pc JL st0) := by
  intro T hT X
  rcases hr T hT X with ⟨v, st₀, t, T', L, h0, X', hL, e1, e2, ⟨⟨w, hv, ho⟩, hP, hN, hF⟩, st⟩ | ⟨q, st₀, t, T', L, E, ce, h0, X', hL, e1, e2, ⟨⟨x, hx, hE⟩, hP, hN, hF⟩, hce, hcv, hcl, st⟩
  · cases ho
    obtain ⟨k1, k2, k3⟩ := vx_keep h0 e1 hS (fun q _ h => h) (fun q h => h) hL hF
    obtain ⟨t2, a1, b1⟩ := kk w hv T'.heap (locs ++ L) (by rw [e1]; exact hP) hN k3 T' rfl X'
    exact ⟨t2, st t2 a1, b1⟩
  · subst hE
    obtain ⟨k1, k2, k3⟩ := vx_keep h0 e1 hS (fun q _ h => h) (fun q h => h) hL hF
    obtain ⟨t2, a1, b1⟩ := kx x hx ce q T'.heap (locs ++ L) (by rw [e1]; exact hP) hN k3 (by rw [e1]; exact hce) hcv hcl T' rfl X'
    exact ⟨t2, st.trans a1, b1⟩
/-- x was thrown at place i -/
def j_X (p : Program) (l : Launch) (e : Env) (R : Room) (s : State) (mid : MethodId) (args : Array Value) (below : List Frame) (meth : Method) (c : Code) (Q : Nat → Nat → State → Prop) (G : j_G) (nL c0 s0 : Nat) (L : List (Nat × m_I)) (i : Nat) (ls : m_L) (st : List Value) (M : m_M) (x : Nat) : Prop :=
  ∀ (JL : Array Slot) (H : Heap) (locs : List Loc) (cells slots : Nat) (ce : Cell) (q9 : Addr), j_I G s M c0 s0 H locs cells slots → j_LS G ls nL JL → H[q9]? = some ce → ce.vm = .none → s.vm.findClass (m_ex x) = some ce.cls → vx_W p l e R s mid args below meth c H locs cells slots (Q c0 s0) (F0 mid (m_pc L i) JL (st.map (j_v G))) q9
theorem i_run {As : List Value} {r : m_R} {a : Array Value} (hm : m_le M r.2) (hn : m_pc L (i + 1) = m_pc L i + 3)
    (hrun : ∀ (JL : Array Slot) (H : Heap) (locs : List Loc) (cells slots : Nat), j_I G s M c0 s0 H locs cells slots → j_LS G ls nL JL → H.size ≤ s.heap.size + cells → vx_Run p l e R s mid args below meth c H locs cells slots (r.2.2.2.1 - M.2.2.1) (r.2.2.2.2 - M.2.2.2) (F0 mid (m_pc L i) JL ((As.reverse ++ st).map (j_v G))) (st.map (j_v G)) (j_Qc G r a) (j_XC G r) (j_A G))
    (kx : ∀ x : Nat, r.1 = .inr x → j_X p l e R s mid args below meth c Q G nL c0 s0 L i ls st r.2 x)
    (kk : ∀ v : Option Value, r.1 = .inl v → j_P p l e R s mid args below meth c Q G nL c0 s0 L (i + 1) ls (v.toList ++ st) r.2) : j_P p l e R s mid args below meth c Q G nL c0 s0 L i ls (As.reverse ++ st) M := by
  intro JL H locs cells slots hI hL
  refine j_bound fun hz => ?_
  obtain ⟨m1, m2⟩ := hm
  obtain ⟨i1, i2, i3, i4, i5⟩ := hI
  refine j_callk (hrun JL H locs cells slots ⟨i1, i2, i3, i4, i5⟩ hL hz) i2 (fun x hx ce q9 H1 locs1 hP hN hS hce hcv hcl => ?_) (fun v hv H1 locs1 hP hN hS => ?_)
  · exact kx x hx JL H1 locs1 _ _ ce q9 ⟨hP, hS, hN, by omega, by omega⟩ hL hce hcv hcl
  · have k9 := kk v hv JL H1 locs1 (cells + (r.2.2.2.1 - M.2.2.1)) (slots + (r.2.2.2.2 - M.2.2.2)) ⟨hP, hS, hN, by omega, by omega⟩ hL
    rw [hn, List.map_append] at k9
    cases v <;> exact k9
/-- room for a call with d frames -/
def j_RC (R : Room) (d : Nat) (r : m_R) (c0 s0 : Nat) : Prop := d + 1 ≤ R.frames ∧ 40 * (d + 1) ≤ R.locals ∧ r.2.2.2.1 ≤ c0 + R.cells ∧ r.2.2.2.2 ≤ s0 + R.slots
theorem j_pre_of (K : j_K G s) (E : j_E G s) (hB : G.1 ≤ s.heap.size ∧ s.heap.size ≤ G.1 + c0) {H : Heap} {locs : List Loc} {cells slots : Nat} (hI : j_I G s M c0 s0 H locs cells slots) (hz : H.size ≤ s.heap.size + cells) {U : State} (hU : U.heap = H) (hW : s.WarmedH U.vm) : j_pre G M U := by
  obtain ⟨i1, i2, i3, i4, i5⟩ := hI
  refine ⟨by rw [hU]; exact i1, va_K.moved hW.alike K, E.move hW (by rw [hU]; exact i2.1) (fun a h1 h2 => by rw [hU]; exact i2.2.1 a h1 h2), ?_, ?_, i3⟩
  · rw [hU]
    exact Nat.le_trans hB.1 i2.1
  · rw [hU]
    omega
theorem j_plain : ∀ c : Nat, c < 10 → m_cn c ≠ "java/lang/invoke/MethodHandle" ∧ m_cn c ≠ "java/lang/invoke/VarHandle" ∧ plainName (m_cn c) = true := by
  intro c hc
  have h : ((List.range 10).all fun c => decide (m_cn c ≠ "java/lang/invoke/MethodHandle" ∧ m_cn c ≠ "java/lang/invoke/VarHandle" ∧ plainName (m_cn c) = true)) = true := by decide +kernel
  exact of_decide_eq_true (List.all_eq_true.mp h c (List.mem_range.mpr hc))
/-- what is known of method y (but the law's own): its words, its name, how many it takes -/
def j_y (y : Nat) : Prop := m_cw y ∈ m_ws ∧ (m_y y).cls = m_cn (m_ow y) ∧ m_ow y < 10 ∧ Cond.initialized (m_y y).cls ∈ m_ws ∧ m_mx y ≤ 21
theorem j_cw {y : Nat} (h : m_hh y = []) : m_cw y = .code (m_y y) (m_cd y) (m_mx y) (m_rt y) := by
  unfold m_cw
  rw [h]
theorem i_callV (F : j_F p l s mid args meth c own cd nL rt ini hh) (K : j_K G s) (E : j_E G s) (hB : G.1 ≤ s.heap.size ∧ s.heap.size ≤ G.1 + c0) {ix y b d : Nat} {Bs fs : List Value} {r : m_R} (hd : m_dc cd (m_pc L i) (.invokevirtual ix) 3) (hn : m_pc L (i + 1) = m_pc L i + 3) (hl : (own, (ix, y)) ∈ m_ml) (hin : y ∈ m_inl) (hse : y ∈ m_sel) (h0 : m_hh y = []) (Y : j_y y)
    (hb : b < M.2.1) (hM : M.1 b = .inr (m_ow y, fs)) (h9 : m_ow y < 9) (hp : (parseMethodDescriptor (m_y y).desc).map (fun d => d.parameters.length) = some Bs.length) (hs : m_cats st ≤ 8) (hR : j_RC R d r c0 s0) (hm : m_le M r.2) (Mt : j_Met l G d y (.ref b :: Bs) M r)
    (kx : ∀ x : Nat, r.1 = .inr x → j_X p l e R s mid args below meth c Q G nL c0 s0 L i ls st r.2 x)
    (kk : ∀ v : Option Value, r.1 = .inl v → j_P p l e R s mid args below meth c Q G nL c0 s0 L (i + 1) ls (v.toList ++ st) r.2) : j_P p l e R s mid args below meth c Q G nL c0 s0 L i ls ((.ref b :: Bs).reverse ++ st) M := by
  obtain ⟨hx, hb', hml, ho, hw, -⟩ := F
  obtain ⟨r1, r2, r3, r4⟩ := hR
  obtain ⟨y1, y2, y3, y4, y5⟩ := Y
  obtain ⟨n1, n2, -⟩ := j_plain _ y3
  obtain ⟨m1, m2⟩ := id hm
  refine i_run (a := (Value.ref (G.1 + b) :: Bs.map (j_v G)).toArray) hm hn (fun JL H locs cells slots hI hL hz => ?_) kx kk
  have hI0 := hI
  obtain ⟨i1, i2, i3, i4, i5⟩ := hI
  have he : (j_w G M)[b]? = some (G.1 + b, .inr (m_ow y, fs.map (j_v G))) := by rw [j_get hb, hM]; rfl
  have hcl : (m_vc (m_ow y)).1 = (m_y y).cls := by rw [q_nm h9, y2]
  have hrv := va_recv K i1 (q_vc h9) he
  rw [hcl] at hrv
  have hst : (((.ref b :: Bs).reverse ++ st).map (j_v G)) = (Bs.map (j_v G)).reverse ++ .ref (G.1 + b) :: st.map (j_v G) := by
    rw [List.reverse_cons, List.append_assoc, List.map_append, List.map_reverse]
    show (Bs.map (j_v G)).reverse ++ (Value.ref (j_ad G b) :: st.map (j_v G)) = _
    rw [j_at hI0 hb]
  rw [hst]
  have hws : ∀ w ∈ wsV (m_cn own) ix (m_y y).cls (m_y y) (j_ws y), w ∈ m_ws := by
    intro w hw'
    rcases List.mem_append.mp hw' with h | h
    · rcases List.mem_cons.mp h with rfl | h
      · exact m_ml_ok _ hl
      rcases List.mem_cons.mp h with rfl | h
      · exact m_in_ok _ hin
      rcases List.mem_cons.mp h with rfl | h
      · exact m_se_ok _ hse
      rcases List.mem_cons.mp h with rfl | h
      · exact y4
      · cases h
    · rcases List.mem_cons.mp h with rfl | h
      · exact y1
      · exact h
  have hcw : j_ws y = Cond.code (m_y y) (m_cd y) (m_mx y) (m_rt y) :: m_ws := by unfold j_ws; rw [j_cw h0]
  refine vx_runV (As := Bs.map (j_v G)) ⟨hx, hb', hml, ho, hw⟩ Mt (cwV Bs.length hw (j_gi hws) hcw rfl rfl ⟨rfl, by rw [y2]; exact n1, by rw [y2]; exact n2, hp⟩ ⟨r1, by show 8 + (m_mx y + 11) + 40 * d ≤ _; omega⟩) ⟨j_blind G _ M, hrv, fun U hU hW => ⟨?_, j_pre_of K E hB hI0 hz hU hW⟩⟩ rfl (by rw [List.length_map]) hL.1.1 rfl (lv_room (by rw [i_cats]; exact hs)) hd ⟨by omega, by omega⟩
  show (Value.ref (G.1 + b) :: Bs.map (j_v G)).toArray = (Value.ref (j_ad G b) :: Bs.map (j_v G)).toArray
  rw [j_at hI0 hb]
theorem j_st (G : j_G) (As st : List Value) : ((As.reverse ++ st).map (j_v G)) = (As.map (j_v G)).reverse ++ st.map (j_v G) := by
  rw [List.map_append, List.map_reverse]
theorem i_callS (F : j_F p l s mid args meth c own cd nL rt ini hh) (K : j_K G s) (E : j_E G s) (hB : G.1 ≤ s.heap.size ∧ s.heap.size ≤ G.1 + c0) {ix y d : Nat} {As : List Value} {r : m_R} (hd : m_dc cd (m_pc L i) (.invokestatic ix) 3) (hn : m_pc L (i + 1) = m_pc L i + 3) (hl : (own, (ix, y)) ∈ m_ml) (hst : y ∈ m_stl) (Y : j_y y)
    (hp : (parseMethodDescriptor (m_y y).desc).map (fun d => d.parameters.length) = some As.length) (hs : m_cats st ≤ 8) (hR : j_RC R d r c0 s0) (hm : m_le M r.2) (Mt : j_Met l G d y As M r)
    (kx : ∀ x : Nat, r.1 = .inr x → j_X p l e R s mid args below meth c Q G nL c0 s0 L i ls st r.2 x)
    (kk : ∀ v : Option Value, r.1 = .inl v → j_P p l e R s mid args below meth c Q G nL c0 s0 L (i + 1) ls (v.toList ++ st) r.2) : j_P p l e R s mid args below meth c Q G nL c0 s0 L i ls (As.reverse ++ st) M := by
  obtain ⟨hx, hb', hml, ho, hw, -⟩ := F
  obtain ⟨r1, r2, r3, r4⟩ := hR
  obtain ⟨y1, y2, y3, y4, y5⟩ := Y
  obtain ⟨n1, n2, -⟩ := j_plain _ y3
  obtain ⟨m1, m2⟩ := id hm
  refine i_run (a := (As.map (j_v G)).toArray) hm hn (fun JL H locs cells slots hI hL hz => ?_) kx kk
  have hI0 := hI
  obtain ⟨i1, i2, i3, i4, i5⟩ := hI
  rw [j_st]
  have hws : ∀ w ∈ va_wsS (m_cn own) ix (m_y y) (j_ws y), w ∈ m_ws := by
    intro w hw'
    rcases List.mem_append.mp hw' with h | h
    · rcases List.mem_cons.mp h with rfl | h
      · exact m_ml_ok _ hl
      rcases List.mem_cons.mp h with rfl | h
      · exact m_st_ok _ hst
      rcases List.mem_cons.mp h with rfl | h
      · exact y4
      · cases h
    · rcases List.mem_cons.mp h with rfl | h
      · exact y1
      · exact h
  have hpre : PreS s H (j_Pc G As M) (As.map (j_v G)) := ⟨j_blind G _ M, fun U hU hW => ⟨rfl, j_pre_of K E hB hI0 hz hU hW⟩⟩
  by_cases h0 : m_hh y = []
  · have hcw : j_ws y = Cond.code (m_y y) (m_cd y) (m_mx y) (m_rt y) :: m_ws := by unfold j_ws; rw [j_cw h0]
    exact vx_runS (As := As.map (j_v G)) ⟨hx, hb', hml, ho, hw⟩ Mt (va_cwS As.length hw (j_gi hws) hcw rfl rfl ⟨by rw [y2]; exact n1, by rw [y2]; exact n2, hp⟩ ⟨r1, by show 8 + (m_mx y + 11) + 40 * d ≤ _; omega⟩) hpre rfl (by rw [List.length_map]) hL.1.1 rfl (lv_room (by rw [i_cats]; exact hs)) hd ⟨by omega, by omega⟩
  · have hcw : j_ws y = Cond.codeWith (m_y y) (m_cd y) (m_mx y) (m_rt y) (m_hh y) :: m_ws := by
      unfold j_ws m_cw
      cases hq : m_hh y with
      | nil => exact absurd hq h0
      | cons a b => rfl
    exact vx_runSX (As := As.map (j_v G)) ⟨hx, hb', hml, ho, hw⟩ Mt (vx_cwSW As.length hw (j_gi hws) hcw rfl rfl ⟨by rw [y2]; exact n1, by rw [y2]; exact n2, hp⟩ ⟨r1, by show 8 + (m_mx y + 11) + 40 * d ≤ _; omega⟩) hpre rfl (by rw [List.length_map]) hL.1.1 rfl (lv_room (by rw [i_cats]; exact hs)) hd ⟨by omega, by omega⟩
theorem i_callI (F : j_F p l s mid args meth c own cd nL rt ini hh) (K : j_K G s) (E : j_E G s) (hB : G.1 ≤ s.heap.size ∧ s.heap.size ≤ G.1 + c0) {ix y b d : Nat} {Bs : List Value} {r : m_R} (hd : m_dc cd (m_pc L i) (.invokespecial ix) 3) (hn : m_pc L (i + 1) = m_pc L i + 3) (hl : (own, (ix, y)) ∈ m_ml) (hin : y ∈ m_inl) (hy1 : (m_y y).name = "<init>") (h0 : m_hh y = []) (hrt : m_rt y = none) (Y : j_y y)
    (hp : (parseMethodDescriptor (m_y y).desc).map (fun d => d.parameters.length) = some Bs.length) (hs : m_cats st ≤ 8) (hR : j_RC R d r c0 s0) (hm : m_le M r.2) (Mt : j_Met l G d y (.ref b :: Bs) M r)
    (kx : ∀ x : Nat, r.1 = .inr x → j_X p l e R s mid args below meth c Q G nL c0 s0 L i ls st r.2 x)
    (kk : ∀ v : Option Value, r.1 = .inl v → j_P p l e R s mid args below meth c Q G nL c0 s0 L (i + 1) ls (v.toList ++ st) r.2) : j_P p l e R s mid args below meth c Q G nL c0 s0 L i ls ((.ref b :: Bs).reverse ++ st) M := by
  obtain ⟨hx, hb', hml, ho, hw, -⟩ := F
  obtain ⟨r1, r2, r3, r4⟩ := hR
  obtain ⟨y1, y2, y3, y4, y5⟩ := Y
  obtain ⟨n1, n2, -⟩ := j_plain _ y3
  obtain ⟨m1, m2⟩ := id hm
  refine i_run (a := (Value.ref (j_ad G b) :: Bs.map (j_v G)).toArray) hm hn (fun JL H locs cells slots hI hL hz => ?_) kx kk
  have hI0 := hI
  obtain ⟨i1, i2, i3, i4, i5⟩ := hI
  have hst : (((.ref b :: Bs).reverse ++ st).map (j_v G)) = (Bs.map (j_v G)).reverse ++ .ref (j_ad G b) :: st.map (j_v G) := by
    rw [List.reverse_cons, List.append_assoc, List.map_append, List.map_reverse]
    rfl
  rw [hst]
  have hws : ∀ w ∈ j_ws y, w ∈ m_ws := by
    intro w h
    rcases List.mem_cons.mp h with rfl | h
    · exact y1
    · exact h
  have hcw : j_ws y = Cond.code (m_y y) (m_cd y) (m_mx y) none :: m_ws := by unfold j_ws; rw [j_cw h0, hrt]
  exact vx_runI (As := Bs.map (j_v G)) ⟨hx, hb', hml, ho, hw⟩ Mt (cwI Bs.length hw (j_gi hws) hcw rfl rfl (hw _ y4) (hw _ (m_ml_ok _ hl)) (hw _ (m_in_ok _ hin)) hy1 ⟨by rw [y2]; exact n1, by rw [y2]; exact n2, hp⟩ ⟨r1, by show 8 + (m_mx y + 11) + 40 * d ≤ _; omega⟩) ⟨j_blind G _ M, fun U hU hW => ⟨rfl, j_pre_of K E hB hI0 hz hU hW⟩⟩ rfl (by rw [List.length_map]) hL.1.1 rfl (lv_room (by rw [i_cats]; exact hs)) hd ⟨by omega, by omega⟩
theorem i_callIN (F : j_F p l s mid args meth c own cd nL rt ini hh) (K : j_K G s) (E : j_E G s) (hB : G.1 ≤ s.heap.size ∧ s.heap.size ≤ G.1 + c0) {ix y b d : Nat} {Bs : List Value} {r : m_R} (hd : m_dc cd (m_pc L i) (.invokespecial ix) 3) (hn : m_pc L (i + 1) = m_pc L i + 3) (hl : (own, (ix, y)) ∈ m_nl) (hin : y ∈ m_inl) (hy1 : (m_y y).name = "<init>") (h0 : m_hh y = []) (hrt : m_rt y = none) (Y : j_y y)
    (hp : (parseMethodDescriptor (m_y y).desc).map (fun d => d.parameters.length) = some Bs.length) (hs : m_cats st ≤ 8) (hR : j_RC R d r c0 s0) (hm : m_le M r.2) (Mt : j_Met l G d y (.ref b :: Bs) M r)
    (kx : ∀ x : Nat, r.1 = .inr x → j_X p l e R s mid args below meth c Q G nL c0 s0 L i ls st r.2 x)
    (kk : ∀ v : Option Value, r.1 = .inl v → j_P p l e R s mid args below meth c Q G nL c0 s0 L (i + 1) ls (v.toList ++ st) r.2) : j_P p l e R s mid args below meth c Q G nL c0 s0 L i ls ((.ref b :: Bs).reverse ++ st) M := by
  obtain ⟨hx, hb', hml, ho, hw, -⟩ := F
  obtain ⟨r1, r2, r3, r4⟩ := hR
  obtain ⟨y1, y2, y3, y4, y5⟩ := Y
  obtain ⟨n1, n2, -⟩ := j_plain _ y3
  obtain ⟨m1, m2⟩ := id hm
  refine i_run (a := (Value.ref (j_ad G b) :: Bs.map (j_v G)).toArray) hm hn (fun JL H locs cells slots hI hL hz => ?_) kx kk
  have hI0 := hI
  obtain ⟨i1, i2, i3, i4, i5⟩ := hI
  have hst : (((.ref b :: Bs).reverse ++ st).map (j_v G)) = (Bs.map (j_v G)).reverse ++ .ref (j_ad G b) :: st.map (j_v G) := by
    rw [List.reverse_cons, List.append_assoc, List.map_append, List.map_reverse]
    rfl
  rw [hst]
  have hws : ∀ w ∈ j_ws y, w ∈ m_ws := by
    intro w h
    rcases List.mem_cons.mp h with rfl | h
    · exact y1
    · exact h
  have hcw : j_ws y = Cond.code (m_y y) (m_cd y) (m_mx y) none :: m_ws := by unfold j_ws; rw [j_cw h0, hrt]
  have hne : va_Nw (.methodLinkNest (m_cn own) ix (m_y y) RX7) s := E.2.2.2.1 (own, (ix, y)) hl
  exact vx_runIN (As := Bs.map (j_v G)) ⟨hx, hb', hml, ho, hw⟩ Mt ⟨va_cnB Bs.length hw (j_gi hws) hcw rfl rfl hne (hw _ y4) ⟨by rw [y2]; exact n1, by rw [y2]; exact n2, hp⟩ ⟨r1, by show 8 + (m_mx y + 11) + 40 * d ≤ _; omega⟩, hy1, hw _ (m_in_ok _ hin)⟩ ⟨j_blind G _ M, fun U hU hW => ⟨rfl, j_pre_of K E hB hI0 hz hU hW⟩⟩ rfl (by rw [List.length_map]) hL.1.1 rfl (lv_room (by rw [i_cats]; exact hs)) hd ⟨by omega, by omega⟩
theorem i_callSN (F : j_F p l s mid args meth c own cd nL rt ini hh) (K : j_K G s) (E : j_E G s) (hB : G.1 ≤ s.heap.size ∧ s.heap.size ≤ G.1 + c0) {ix y d : Nat} {As : List Value} {r : m_R} (hd : m_dc cd (m_pc L i) (.invokestatic ix) 3) (hn : m_pc L (i + 1) = m_pc L i + 3) (hl : (own, (ix, y)) ∈ m_nl) (hst : y ∈ m_stl) (h0 : m_hh y = []) (Y : j_y y)
    (hp : (parseMethodDescriptor (m_y y).desc).map (fun d => d.parameters.length) = some As.length) (hs : m_cats st ≤ 8) (hR : j_RC R d r c0 s0) (hm : m_le M r.2) (Mt : j_Met l G d y As M r)
    (kx : ∀ x : Nat, r.1 = .inr x → j_X p l e R s mid args below meth c Q G nL c0 s0 L i ls st r.2 x)
    (kk : ∀ v : Option Value, r.1 = .inl v → j_P p l e R s mid args below meth c Q G nL c0 s0 L (i + 1) ls (v.toList ++ st) r.2) : j_P p l e R s mid args below meth c Q G nL c0 s0 L i ls (As.reverse ++ st) M := by
  obtain ⟨hx, hb', hml, ho, hw, -⟩ := F
  obtain ⟨r1, r2, r3, r4⟩ := hR
  obtain ⟨y1, y2, y3, y4, y5⟩ := Y
  obtain ⟨n1, n2, -⟩ := j_plain _ y3
  obtain ⟨m1, m2⟩ := id hm
  refine i_run (a := (As.map (j_v G)).toArray) hm hn (fun JL H locs cells slots hI hL hz => ?_) kx kk
  have hI0 := hI
  obtain ⟨i1, i2, i3, i4, i5⟩ := hI
  rw [j_st]
  have hws : ∀ w ∈ j_ws y, w ∈ m_ws := by
    intro w h
    rcases List.mem_cons.mp h with rfl | h
    · exact y1
    · exact h
  have hcw : j_ws y = Cond.code (m_y y) (m_cd y) (m_mx y) (m_rt y) :: m_ws := by unfold j_ws; rw [j_cw h0]
  have hne : va_Nw (.methodLinkNest (m_cn own) ix (m_y y) RX7) s := E.2.2.2.1 (own, (ix, y)) hl
  exact vx_runSN (As := As.map (j_v G)) ⟨hx, hb', hml, ho, hw⟩ Mt ⟨va_cnB As.length hw (j_gi hws) hcw rfl rfl hne (hw _ y4) ⟨by rw [y2]; exact n1, by rw [y2]; exact n2, hp⟩ ⟨r1, by show 8 + (m_mx y + 11) + 40 * d ≤ _; omega⟩, hw _ (m_st_ok _ hst), trivial⟩ ⟨j_blind G _ M, fun U hU hW => ⟨rfl, j_pre_of K E hB hI0 hz hU hW⟩⟩ rfl (by rw [List.length_map]) hL.1.1 rfl (lv_room (by rw [i_cats]; exact hs)) hd ⟨by omega, by omega⟩
end J4
end
section
/-! ENDS of a method: it returns, it throws, it catches. -/
/-- what the words of a throw are -/
theorem t_at0 : ∀ w ∈ vx_atS RX7 298 "java/lang/IllegalArgumentException" ["java/lang/RuntimeException", "java/lang/Exception"], w ∈ lw_tbl := by decide +kernel
def t_odd (x : Nat) : List Cond := .castable (m_ex x) (m_ex x) :: (["java/lang/RuntimeException", "java/lang/Exception", Bundle.tN].map fun Y => .declares (Bundle.initS Y))
theorem t_od0 : ∀ w ∈ vx_atS RX7 298 "java/lang/IllegalArgumentException" ["java/lang/RuntimeException", "java/lang/Exception"], goodWord w = true ∨ w ∈ t_odd 0 := by decide +kernel
theorem t_ot0 : ∀ w ∈ Cond.classLink RX7 294 "java/lang/IllegalArgumentException" :: Cond.initialized "java/lang/IllegalArgumentException" :: vx_atS RX7 298 "java/lang/IllegalArgumentException" ["java/lang/RuntimeException", "java/lang/Exception"], vx_ot w = true := by decide +kernel
theorem t_k0 : Cond.classLink RX7 294 "java/lang/IllegalArgumentException" ∈ m_ws ∧ Cond.initialized "java/lang/IllegalArgumentException" ∈ m_ws := by
  have h : ∀ w ∈ [Cond.classLink RX7 294 "java/lang/IllegalArgumentException", Cond.initialized "java/lang/IllegalArgumentException"], w ∈ lw_tbl ∧ goodWord w = true := by decide +kernel
  exact ⟨List.mem_filter.mpr (h _ (by simp)), List.mem_filter.mpr (h _ (by simp))⟩
theorem t_k1 : Cond.classLink RX7 234 "java/util/NoSuchElementException" ∈ m_ws ∧ Cond.initialized "java/util/NoSuchElementException" ∈ m_ws := by
  have h : ∀ w ∈ [Cond.classLink RX7 234 "java/util/NoSuchElementException", Cond.initialized "java/util/NoSuchElementException"], w ∈ lw_tbl ∧ goodWord w = true := by decide +kernel
  exact ⟨List.mem_filter.mpr (h _ (by simp)), List.mem_filter.mpr (h _ (by simp))⟩
/-- what a method's body owes at its end, where the run's result is r -/
def j_Q (below : List Frame) (args : Array Value) (s : State) (G : j_G) (r : m_R) : Nat → Nat → State → Prop := fun c0 s0 => vx_MQ below (j_Qc G r) (j_XC G r) args s (r.2.2.2.1 - c0) (r.2.2.2.2 - s0) (j_A G)
section J5
variable {p : Program} {l : Launch} {e : Env} {R : Room} {s : State} {mid : MethodId} {args : Array Value} {below : List Frame} {meth : Method} {c : Code}
variable {G : j_G} {nL c0 s0 i own : Nat} {cd : ByteArray} {rt : Option FieldType} {ini : Bool} {hh : List (Nat × Nat × Nat × Nat)} {L : List (Nat × m_I)} {ls : m_L} {st : List Value} {M : m_M}
theorem t_int {x : Int32} {a pc : Nat} {JL : Array Slot} {H : Heap} {locs : List Loc} {cells slots : Nat} (F : j_F p l s mid args meth c own cd nL rt ini hh) (hd : m_dc cd pc .ireturn 1) (hrt : (a = 0 ∧ rt = some .int) ∨ (a = 1 ∧ rt = some .boolean)) (hv : a = 0 ∨ m_isb x = true) (hI : j_I G s M c0 s0 H locs cells slots) :
    W p l e R s mid args below meth c H locs cells slots (j_Q below args s G (.inl (some (.int x)), M) c0 s0) (F0 mid pc JL [.int x]) := by
  obtain ⟨hx, hb, hml, ho, hw, hr, hlk, -⟩ := F
  obtain ⟨i1, i2, i3, i4, i5⟩ := hI
  have e1 : M.2.2.1 - c0 = cells := by omega
  have e2 : M.2.2.2 - s0 = slots := by omega
  show W p l e R s mid args below meth c H locs cells slots (vx_MQ below _ _ args s (M.2.2.1 - c0) (M.2.2.2 - s0) (j_A G)) (F0 mid pc JL [.int x])
  rw [e1, e2]
  refine vx_ret ?_
  have hq : ∀ t : State, t.heap = H → s.WarmedH t.vm → j_Qc G (.inl (some (.int x)), M) args s (.returned (some (.int x))) t := fun t ht hW => ⟨⟨some (.int x), rfl, rfl⟩, by rw [ht]; exact i1, i3, i2.F ht⟩
  rcases hrt with ⟨h0, rfl⟩ | ⟨h1, rfl⟩
  · exact W.iret hx hb hr hq i2.2.2 hd hlk
  · have hn : narrow .boolean (.int x) = .int x := by
      rcases hv with h | h
      · omega
      · simp only [m_isb, Bool.or_eq_true, beq_iff_eq] at h
        rcases h with rfl | rfl <;> rfl
    exact W.zret hx hb hr hn hq i2.2.2 hd hlk
theorem i_iret (F : j_F p l s mid args meth c own cd nL rt ini hh) {x : Int32} {a : Nat} (hd : m_dc cd (m_pc L i) .ireturn 1) (hrt : (a = 0 ∧ rt = some .int) ∨ (a = 1 ∧ rt = some .boolean)) (hv : a = 0 ∨ m_isb x = true) :
    j_P p l e R s mid args below meth c (j_Q below args s G (.inl (some (.int x)), M)) G nL c0 s0 L i ls [.int x] M := by
  intro JL H locs cells slots hI hL
  exact t_int F hd hrt hv hI
theorem i_aret (F : j_F p l s mid args meth c own cd nL rt ini hh) {k : Nat} (hd : m_dc cd (m_pc L i) .areturn 1) (hrt : rt = some (.object RX4)) :
    j_P p l e R s mid args below meth c (j_Q below args s G (.inl (some (.ref k)), M)) G nL c0 s0 L i ls [.ref k] M := by
  intro JL H locs cells slots hI hL
  obtain ⟨hx, hb, hml, ho, hw, hr, hlk, -⟩ := F
  obtain ⟨i1, i2, i3, i4, i5⟩ := hI
  have e1 : M.2.2.1 - c0 = cells := by omega
  have e2 : M.2.2.2 - s0 = slots := by omega
  show W p l e R s mid args below meth c H locs cells slots (vx_MQ below _ _ args s (M.2.2.1 - c0) (M.2.2.2 - s0) (j_A G)) (F0 mid (m_pc L i) JL [.ref (j_ad G k)])
  rw [e1, e2]
  refine vx_ret ?_
  rw [hrt] at hr
  exact W.aret hx hb hr (Or.inl ⟨_, rfl⟩) (Or.inr ⟨_, rfl⟩) (fun t ht hW => ⟨⟨some (.ref k), rfl, rfl⟩, by rw [ht]; exact i1, i3, i2.F ht⟩) i2.2.2 hd hlk
theorem i_ret (F : j_F p l s mid args meth c own cd nL rt ini hh) (hd : m_dc cd (m_pc L i) .return_ 1) (hrt : rt = none) :
    j_P p l e R s mid args below meth c (j_Q below args s G (.inl none, M)) G nL c0 s0 L i ls [] M := by
  intro JL H locs cells slots hI hL
  obtain ⟨hx, hb, hml, ho, hw, hr, hlk, -⟩ := F
  obtain ⟨i1, i2, i3, i4, i5⟩ := hI
  have e1 : M.2.2.1 - c0 = cells := by omega
  have e2 : M.2.2.2 - s0 = slots := by omega
  show W p l e R s mid args below meth c H locs cells slots (vx_MQ below _ _ args s (M.2.2.1 - c0) (M.2.2.2 - s0) (j_A G)) (F0 mid (m_pc L i) JL [])
  rw [e1, e2]
  refine vx_ret ?_
  exact W.vret hx hb (by rw [hr, hrt]) (fun t ht hW => ⟨⟨none, rfl, rfl⟩, by rw [ht]; exact i1, i3, i2.F ht⟩) i2.2.2 hd hlk
/-- nothing was thrown in vain: x leaves this method -/
theorem t_out (F : j_F p l s mid args meth c own cd nL rt ini hh) {pc x : Nat} {JL : Array Slot} {H : Heap} {locs : List Loc} {cells slots : Nat} {ce : Cell} {q9 : Addr} {rest : List Value} (hI : j_I G s M c0 s0 H locs cells slots) (hce : H[q9]? = some ce) (hcv : ce.vm = .none) (hcl : s.vm.findClass (m_ex x) = some ce.cls)
    (hp : ∀ z ∈ hh, covers ⟨z.1, z.2.1, z.2.2.1, z.2.2.2⟩ pc = false ∨ (z.2.2.2 ≠ 0 ∧ ∃ nm : String, (Cond.classLink (m_cn own) z.2.2.2 nm).before args s = true ∧ va_Nc (m_ex x) nm s)) :
    vx_W p l e R s mid args below meth c H locs cells slots (j_Q below args s G (.inr x, M) c0 s0) (F0 mid pc JL rest) q9 := by
  obtain ⟨hx, hb, hml, ho, hw, hr, hlk, htb, -⟩ := F
  obtain ⟨i1, i2, i3, i4, i5⟩ := hI
  refine vx_outP ho hlk (fun z hz => ?_) hce hcv hcl (fun t ht hW => ⟨⟨x, rfl, rfl⟩, by rw [ht]; exact i1, i3, i2.F ht⟩) i2.2.2 (by show cells ≤ M.2.2.1 - c0; omega) (by show slots ≤ M.2.2.2 - s0; omega)
  rw [htb] at hz
  obtain ⟨y, hy, rfl⟩ := List.mem_map.mp hz
  exact hp y hy
theorem t_cov {a b c d pc : Nat} : covers ⟨a, b, c, d⟩ pc = true ↔ a ≤ pc ∧ pc < b := by
  simp [covers]
theorem t_links : Cond.classLink RL 13 (m_ex 0) ∈ m_ws ∧ Cond.classLink RL 34 (m_ex 1) ∈ m_ws := by
  have h : ∀ w ∈ [Cond.classLink RL 13 (m_ex 0), Cond.classLink RL 34 (m_ex 1)], w ∈ lw_tbl ∧ goodWord w = true := by decide +kernel
  exact ⟨List.mem_filter.mpr (h _ (by simp)), List.mem_filter.mpr (h _ (by simp))⟩
/-- x, thrown at pc by a callee: by the handlers hs, or to the caller -/
theorem t_hand (F : j_F p l s mid args meth c own cd nL rt ini hh) (E : j_E G s) (hrt : hh = [] ∨ rt = some .int) {pc x : Nat} {JL : Array Slot} {H : Heap} {locs : List Loc} {cells slots : Nat} {ce : Cell} {q9 : Addr} {rest : List Value} (hI : j_I G s M c0 s0 H locs cells slots) (hL : j_LS G ls nL JL) (hx2 : x < 2) (hce : H[q9]? = some ce) (hcv : ce.vm = .none) (hcl : s.vm.findClass (m_ex x) = some ce.cls) :
    ∀ (hs : List (Nat × (Nat × (Nat × Int32)))) (h2 h1 : List (Nat × Nat × Nat × Nat)) (r : m_R), hh = h1 ++ h2 → h2.length = hs.length → (h2.zip hs).all (fun q => decide (m_hd cd own q.1 q.2)) = true → (∀ q ∈ h2, ∀ k : Nat, m_dc cd q.2.2.1 (.astore k) 2 → k < nL) → (∀ q ∈ h2, ∀ k : Fin 4, m_dc cd q.2.2.1 (.astore_n k) 1 → k.val < nL) → (∀ z ∈ h1, covers ⟨z.1, z.2.1, z.2.2.1, z.2.2.2⟩ pc = false ∨ (z.2.2.2 ≠ 0 ∧ ∃ nm : String, (Cond.classLink (m_cn own) z.2.2.2 nm).before args s = true ∧ va_Nc (m_ex x) nm s)) → m_thr pc x M hs = some (.inr r) →
      vx_W p l e R s mid args below meth c H locs cells slots (j_Q below args s G r c0 s0) (F0 mid pc JL rest) q9
  | [], h2, h1, r, he, hlen, hz, hk, hk2, hp, hr => by
    have h0 : h2 = [] := List.length_eq_zero_iff.mp hlen
    subst h0
    rw [List.append_nil] at he
    subst he
    simp only [m_thr, m_end, Option.some.injEq, Sum.inr.injEq] at hr
    subst hr
    exact t_out F hI hce hcv hcl hp
  | h :: hs, [], h1, r, he, hlen, hz, hk, hk2, hp, hr => by simp at hlen
  | h :: hs, q :: h2, h1, r, he, hlen, hz, hk, hk2, hp, hr => by
    simp only [List.zip_cons_cons, List.all_cons, Bool.and_eq_true, decide_eq_true_eq] at hz
    obtain ⟨⟨d1, d2, d3, d4, d5⟩, hz2⟩ := hz
    have F0' := F
    obtain ⟨hx, hb, hml, ho, hw, hrr, hlk, htb, -⟩ := F
    -- the type of the row: its link, and that x is of it or not
    have hlink : ∃ tx : Nat, tx < 2 ∧ h.2.2.1 = tx ∧ q.2.2.2 ≠ 0 ∧ (Cond.classLink (m_cn own) q.2.2.2 (m_ex tx)).before args s = true := by
      rw [d3]
      rcases d4 with ⟨g1, g2⟩ | ⟨g1, g2⟩
      · exact ⟨0, by decide, g1, by rw [g2]; decide, by rw [g2]; exact hw _ t_links.1⟩
      · exact ⟨1, by decide, g1, by rw [g2]; decide, by rw [g2]; exact hw _ t_links.2⟩
    obtain ⟨tx, htx, e1, e2, e3⟩ := hlink
    have hor : tx = x ∨ va_Nc (m_ex x) (m_ex tx) s := by
      obtain ⟨-, -, -, -, ⟨-, -, n1, n0, -⟩, -⟩ := E
      match x, tx, hx2, htx with
      | 0, 0, _, _ => exact Or.inl rfl
      | 1, 1, _, _ => exact Or.inl rfl
      | 0, 1, _, _ => exact Or.inr n0
      | 1, 0, _, _ => exact Or.inr n1
    have hrt2 : rt = some .int := by
      rcases hrt with h | h
      · rw [he] at h
        simp at h
      · exact h
    by_cases hc : h.1 ≤ pc ∧ pc < h.2.1 ∧ h.2.2.1 = x
    · -- this row takes it
      rw [m_thr, if_pos hc] at hr
      simp only [m_end, Option.some.injEq, Sum.inr.injEq] at hr
      subst hr
      obtain ⟨c1, c2, c3⟩ := hc
      have etx : tx = x := by omega
      subst etx
      have hcast : (Cond.castable (m_ex tx) (m_ex tx)).before args s = true := by
        obtain ⟨-, -, -, -, ⟨k0, k1, -⟩, -⟩ := E
        match tx, hx2 with
        | 0, _ => exact va_Nw.use rfl k0
        | 1, _ => exact va_Nw.use rfl k1
      have hsp : c.exceptionTable.toList = (tableOf h1) ++ ⟨q.1, q.2.1, q.2.2.1, q.2.2.2⟩ :: (tableOf h2) := by
        rw [htb, he]
        simp [tableOf]
      refine vx_catch ho (tableOf h1) ⟨q.1, q.2.1, q.2.2.1, q.2.2.2⟩ (tableOf h2) hsp (fun z hz => ?_) (t_cov.mpr ⟨by omega, by omega⟩) e2 e3 hcast hce hcv hcl ?_
      · obtain ⟨y, hy, rfl⟩ := List.mem_map.mp hz
        exact hp y hy
      · show W p l e R s mid args below meth c H locs cells slots _ (F0 mid q.2.2.1 JL [.ref q9])
        rcases d5 with ⟨k, g1, -, g2, g3⟩ | ⟨k, g1, g2, g3⟩
        · refine lv_astore_n hx hb g1 rfl hL.1 (hk2 q List.mem_cons_self k g1) rfl fun JL' hs' => ?_
          refine lv_iconst hx hb g2 (Int32.ofInt_toInt _) ?_
          exact t_int (a := 0) F0' g3 (Or.inl ⟨rfl, hrt2⟩) (Or.inl rfl) hI
        · refine lv_astore hx hb g1 hL.1 (hk q List.mem_cons_self k.val g1) rfl fun JL' hs' => ?_
          refine lv_iconst hx hb g2 (Int32.ofInt_toInt _) ?_
          exact t_int (a := 0) F0' g3 (Or.inl ⟨rfl, hrt2⟩) (Or.inl rfl) hI
    · -- it passes this row
      rw [m_thr, if_neg hc] at hr
      refine t_hand F0' E hrt hI hL hx2 hce hcv hcl hs h2 (h1 ++ [q]) r (by rw [he]; simp) (by simpa using hlen) hz2 (fun q' hq' => hk q' (List.mem_cons_of_mem _ hq')) (fun q' hq' => hk2 q' (List.mem_cons_of_mem _ hq')) (fun z hz => ?_) hr
      rcases List.mem_append.mp hz with hz | hz
      · exact hp z hz
      · simp only [List.mem_singleton] at hz
        subst hz
        rcases hor with h | h
        · left
          cases hcv2 : covers ⟨z.1, z.2.1, z.2.2.1, z.2.2.2⟩ pc with
          | false => rfl
          | true =>
            obtain ⟨a1, a2⟩ := t_cov.mp hcv2
            exact absurd ⟨by omega, by omega, by omega⟩ hc
        · exact Or.inr ⟨e2, _, e3, h⟩
end J5
end
