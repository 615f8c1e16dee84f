-- ===== PART A: goes FIRST, ahead of the names: the tables' words, and 'selects' of the private methods out of them =====
/-- a private method of a class that the tables say can be made, by its rows of tables_1 -/
def lw_okq (q : MethodName × Nat) : Prop := (q.1.cls ≠ "java/lang/invoke/MethodHandle" ∧ q.1.cls ≠ "java/lang/invoke/VarHandle") ∧ Cond.instantiable q.1.cls q.2 ∈ tables_1 ∧ Cond.privateMethod q.1 ∈ tables_1 ∧ Cond.instanceMethod q.1 ∈ tables_1
theorem lw_p0 : lw_okq (⟨"KeepingHands", "layOnTape", "(I)V"⟩, 14) := ⟨⟨by decide +kernel, by decide +kernel⟩, List.mem_of_getElem? (i := 22) (by decide +kernel), List.mem_of_getElem? (i := 330) (by decide +kernel), List.mem_of_getElem? (i := 331) (by decide +kernel)⟩
theorem lw_p1 : lw_okq (⟨"KeepingHands", "reckonCases", "()V"⟩, 14) := ⟨⟨by decide +kernel, by decide +kernel⟩, List.mem_of_getElem? (i := 22) (by decide +kernel), List.mem_of_getElem? (i := 350) (by decide +kernel), List.mem_of_getElem? (i := 351) (by decide +kernel)⟩
theorem lw_p2 : lw_okq (⟨"KeepingHands", "allCases", "()I"⟩, 14) := ⟨⟨by decide +kernel, by decide +kernel⟩, List.mem_of_getElem? (i := 22) (by decide +kernel), List.mem_of_getElem? (i := 373) (by decide +kernel), List.mem_of_getElem? (i := 374) (by decide +kernel)⟩
theorem lw_p3 : lw_okq (⟨"KeepingHands", "lawInForce", "()LKeepingHands$Law;"⟩, 14) := ⟨⟨by decide +kernel, by decide +kernel⟩, List.mem_of_getElem? (i := 22) (by decide +kernel), List.mem_of_getElem? (i := 392) (by decide +kernel), List.mem_of_getElem? (i := 393) (by decide +kernel)⟩
theorem lw_p4 : lw_okq (⟨"KeepingHands", "isLaw", "(I)Z"⟩, 14) := ⟨⟨by decide +kernel, by decide +kernel⟩, List.mem_of_getElem? (i := 22) (by decide +kernel), List.mem_of_getElem? (i := 396) (by decide +kernel), List.mem_of_getElem? (i := 397) (by decide +kernel)⟩
theorem lw_p5 : lw_okq (⟨"KeepingHands$End", "clear", "()V"⟩, 8) := ⟨⟨by decide +kernel, by decide +kernel⟩, List.mem_of_getElem? (i := 246) (by decide +kernel), List.mem_of_getElem? (i := 405) (by decide +kernel), List.mem_of_getElem? (i := 406) (by decide +kernel)⟩
theorem lw_p6 : lw_okq (⟨"KeepingHands$End", "claimOn", "(ILKeepingHands$Chain;LKeepingHands$Law;)V"⟩, 8) := ⟨⟨by decide +kernel, by decide +kernel⟩, List.mem_of_getElem? (i := 246) (by decide +kernel), List.mem_of_getElem? (i := 410) (by decide +kernel), List.mem_of_getElem? (i := 411) (by decide +kernel)⟩
theorem lw_p7 : lw_okq (⟨"KeepingHands$Law", "isFor", "(III)Z"⟩, 10) := ⟨⟨by decide +kernel, by decide +kernel⟩, List.mem_of_getElem? (i := 31) (by decide +kernel), List.mem_of_getElem? (i := 430) (by decide +kernel), List.mem_of_getElem? (i := 431) (by decide +kernel)⟩
theorem lw_p8 : lw_okq (⟨"KeepingHands$Law", "work", "(I[I)I"⟩, 10) := ⟨⟨by decide +kernel, by decide +kernel⟩, List.mem_of_getElem? (i := 31) (by decide +kernel), List.mem_of_getElem? (i := 441) (by decide +kernel), List.mem_of_getElem? (i := 442) (by decide +kernel)⟩
theorem lw_p9 : lw_okq (⟨"KeepingHands$End", "payUp", "(LKeepingHands$Chain;)V"⟩, 8) := ⟨⟨by decide +kernel, by decide +kernel⟩, List.mem_of_getElem? (i := 246) (by decide +kernel), List.mem_of_getElem? (i := 460) (by decide +kernel), List.mem_of_getElem? (i := 461) (by decide +kernel)⟩
theorem lw_p10 : lw_okq (⟨"KeepingHands$End", "payOwner", "(I)V"⟩, 8) := ⟨⟨by decide +kernel, by decide +kernel⟩, List.mem_of_getElem? (i := 246) (by decide +kernel), List.mem_of_getElem? (i := 465) (by decide +kernel), List.mem_of_getElem? (i := 466) (by decide +kernel)⟩
theorem lw_p11 : lw_okq (⟨"KeepingHands", "matters", "(I)Z"⟩, 14) := ⟨⟨by decide +kernel, by decide +kernel⟩, List.mem_of_getElem? (i := 22) (by decide +kernel), List.mem_of_getElem? (i := 470) (by decide +kernel), List.mem_of_getElem? (i := 471) (by decide +kernel)⟩
theorem lw_p12 : lw_okq (⟨"KeepingHands", "areBorneAlike", "(II)Z"⟩, 14) := ⟨⟨by decide +kernel, by decide +kernel⟩, List.mem_of_getElem? (i := 22) (by decide +kernel), List.mem_of_getElem? (i := 474) (by decide +kernel), List.mem_of_getElem? (i := 475) (by decide +kernel)⟩
theorem lw_p13 : lw_okq (⟨"java/lang/Throwable", "fillInStackTrace", "(I)Ljava/lang/Throwable;"⟩, 6) := ⟨⟨by decide +kernel, by decide +kernel⟩, List.mem_of_getElem? (i := 554) (by decide +kernel), List.mem_of_getElem? (i := 552) (by decide +kernel), List.mem_of_getElem? (i := 553) (by decide +kernel)⟩
theorem lw_p14 : lw_okq (⟨"KeepingHands$LawReader", "nextToken", "()V"⟩, 10) := ⟨⟨by decide +kernel, by decide +kernel⟩, List.mem_of_getElem? (i := 71) (by decide +kernel), List.mem_of_getElem? (i := 593) (by decide +kernel), List.mem_of_getElem? (i := 594) (by decide +kernel)⟩
theorem lw_p15 : lw_okq (⟨"KeepingHands$LawReader", "readClause", "()Z"⟩, 10) := ⟨⟨by decide +kernel, by decide +kernel⟩, List.mem_of_getElem? (i := 71) (by decide +kernel), List.mem_of_getElem? (i := 603) (by decide +kernel), List.mem_of_getElem? (i := 604) (by decide +kernel)⟩
def lw_privs_1 : List (MethodName × Nat) := [(⟨"KeepingHands", "layOnTape", "(I)V"⟩, 14), (⟨"KeepingHands", "reckonCases", "()V"⟩, 14), (⟨"KeepingHands", "allCases", "()I"⟩, 14), (⟨"KeepingHands", "lawInForce", "()LKeepingHands$Law;"⟩, 14), (⟨"KeepingHands", "isLaw", "(I)Z"⟩, 14), (⟨"KeepingHands$End", "clear", "()V"⟩, 8), (⟨"KeepingHands$End", "claimOn", "(ILKeepingHands$Chain;LKeepingHands$Law;)V"⟩, 8), (⟨"KeepingHands$Law", "isFor", "(III)Z"⟩, 10), (⟨"KeepingHands$Law", "work", "(I[I)I"⟩, 10), (⟨"KeepingHands$End", "payUp", "(LKeepingHands$Chain;)V"⟩, 8), (⟨"KeepingHands$End", "payOwner", "(I)V"⟩, 8), (⟨"KeepingHands", "matters", "(I)Z"⟩, 14), (⟨"KeepingHands", "areBorneAlike", "(II)Z"⟩, 14), (⟨"java/lang/Throwable", "fillInStackTrace", "(I)Ljava/lang/Throwable;"⟩, 6), (⟨"KeepingHands$LawReader", "nextToken", "()V"⟩, 10), (⟨"KeepingHands$LawReader", "readClause", "()Z"⟩, 10)]
theorem lw_r1 : ∀ q ∈ lw_privs_1, lw_okq q := List.forall_mem_cons.mpr ⟨lw_p0, List.forall_mem_cons.mpr ⟨lw_p1, List.forall_mem_cons.mpr ⟨lw_p2, List.forall_mem_cons.mpr ⟨lw_p3, List.forall_mem_cons.mpr ⟨lw_p4, List.forall_mem_cons.mpr ⟨lw_p5, List.forall_mem_cons.mpr ⟨lw_p6, List.forall_mem_cons.mpr ⟨lw_p7, List.forall_mem_cons.mpr ⟨lw_p8, List.forall_mem_cons.mpr ⟨lw_p9, List.forall_mem_cons.mpr ⟨lw_p10, List.forall_mem_cons.mpr ⟨lw_p11, List.forall_mem_cons.mpr ⟨lw_p12, List.forall_mem_cons.mpr ⟨lw_p13, List.forall_mem_cons.mpr ⟨lw_p14, List.forall_mem_cons.mpr ⟨lw_p15, fun _ h => absurd h List.not_mem_nil⟩⟩⟩⟩⟩⟩⟩⟩⟩⟩⟩⟩⟩⟩⟩⟩
theorem lw_p16 : lw_okq (⟨"KeepingHands$LawReader", "wordOf", "(Ljava/lang/String;)I"⟩, 10) := ⟨⟨by decide +kernel, by decide +kernel⟩, List.mem_of_getElem? (i := 71) (by decide +kernel), List.mem_of_getElem? (i := 608) (by decide +kernel), List.mem_of_getElem? (i := 609) (by decide +kernel)⟩
theorem lw_p17 : lw_okq (⟨"KeepingHands$LawReader", "isSame", "(Ljava/lang/String;II)Z"⟩, 10) := ⟨⟨by decide +kernel, by decide +kernel⟩, List.mem_of_getElem? (i := 71) (by decide +kernel), List.mem_of_getElem? (i := 660) (by decide +kernel), List.mem_of_getElem? (i := 661) (by decide +kernel)⟩
theorem lw_p18 : lw_okq (⟨"KeepingHands$LawReader", "isWord", "(Ljava/lang/String;)Z"⟩, 10) := ⟨⟨by decide +kernel, by decide +kernel⟩, List.mem_of_getElem? (i := 71) (by decide +kernel), List.mem_of_getElem? (i := 665) (by decide +kernel), List.mem_of_getElem? (i := 666) (by decide +kernel)⟩
theorem lw_p19 : lw_okq (⟨"KeepingHands$LawReader", "fail", "(I)Z"⟩, 10) := ⟨⟨by decide +kernel, by decide +kernel⟩, List.mem_of_getElem? (i := 71) (by decide +kernel), List.mem_of_getElem? (i := 669) (by decide +kernel), List.mem_of_getElem? (i := 670) (by decide +kernel)⟩
theorem lw_p20 : lw_okq (⟨"KeepingHands$LawReader", "readMixing", "()Z"⟩, 10) := ⟨⟨by decide +kernel, by decide +kernel⟩, List.mem_of_getElem? (i := 71) (by decide +kernel), List.mem_of_getElem? (i := 677) (by decide +kernel), List.mem_of_getElem? (i := 678) (by decide +kernel)⟩
theorem lw_p21 : lw_okq (⟨"KeepingHands$LawReader", "readSum", "()Z"⟩, 10) := ⟨⟨by decide +kernel, by decide +kernel⟩, List.mem_of_getElem? (i := 71) (by decide +kernel), List.mem_of_getElem? (i := 691) (by decide +kernel), List.mem_of_getElem? (i := 692) (by decide +kernel)⟩
theorem lw_p22 : lw_okq (⟨"KeepingHands$LawReader", "readProduct", "()Z"⟩, 10) := ⟨⟨by decide +kernel, by decide +kernel⟩, List.mem_of_getElem? (i := 71) (by decide +kernel), List.mem_of_getElem? (i := 695) (by decide +kernel), List.mem_of_getElem? (i := 696) (by decide +kernel)⟩
theorem lw_p23 : lw_okq (⟨"KeepingHands$LawReader", "readUnit", "()Z"⟩, 10) := ⟨⟨by decide +kernel, by decide +kernel⟩, List.mem_of_getElem? (i := 71) (by decide +kernel), List.mem_of_getElem? (i := 699) (by decide +kernel), List.mem_of_getElem? (i := 700) (by decide +kernel)⟩
theorem lw_p24 : lw_okq (⟨"KeepingHands$LawReader", "enter", "()Z"⟩, 10) := ⟨⟨by decide +kernel, by decide +kernel⟩, List.mem_of_getElem? (i := 71) (by decide +kernel), List.mem_of_getElem? (i := 703) (by decide +kernel), List.mem_of_getElem? (i := 704) (by decide +kernel)⟩
theorem lw_p25 : lw_okq (⟨"KeepingHands$LawReader", "leave", "(I)Z"⟩, 10) := ⟨⟨by decide +kernel, by decide +kernel⟩, List.mem_of_getElem? (i := 71) (by decide +kernel), List.mem_of_getElem? (i := 707) (by decide +kernel), List.mem_of_getElem? (i := 708) (by decide +kernel)⟩
theorem lw_p26 : lw_okq (⟨"KeepingHands$LawReader", "readNumber", "()Z"⟩, 10) := ⟨⟨by decide +kernel, by decide +kernel⟩, List.mem_of_getElem? (i := 71) (by decide +kernel), List.mem_of_getElem? (i := 711) (by decide +kernel), List.mem_of_getElem? (i := 712) (by decide +kernel)⟩
theorem lw_p27 : lw_okq (⟨"KeepingHands$LawReader", "isNumber", "(II)Z"⟩, 10) := ⟨⟨by decide +kernel, by decide +kernel⟩, List.mem_of_getElem? (i := 71) (by decide +kernel), List.mem_of_getElem? (i := 715) (by decide +kernel), List.mem_of_getElem? (i := 716) (by decide +kernel)⟩
theorem lw_p28 : lw_okq (⟨"KeepingHands$LawReader", "readChoice", "(I)Z"⟩, 10) := ⟨⟨by decide +kernel, by decide +kernel⟩, List.mem_of_getElem? (i := 71) (by decide +kernel), List.mem_of_getElem? (i := 724) (by decide +kernel), List.mem_of_getElem? (i := 725) (by decide +kernel)⟩
theorem lw_p29 : lw_okq (⟨"KeepingHands$LawReader", "take", "(I)Z"⟩, 10) := ⟨⟨by decide +kernel, by decide +kernel⟩, List.mem_of_getElem? (i := 71) (by decide +kernel), List.mem_of_getElem? (i := 728) (by decide +kernel), List.mem_of_getElem? (i := 729) (by decide +kernel)⟩
theorem lw_p30 : lw_okq (⟨"KeepingHands$LawReader", "readTerms", "()Z"⟩, 10) := ⟨⟨by decide +kernel, by decide +kernel⟩, List.mem_of_getElem? (i := 71) (by decide +kernel), List.mem_of_getElem? (i := 733) (by decide +kernel), List.mem_of_getElem? (i := 734) (by decide +kernel)⟩
theorem lw_p31 : lw_okq (⟨"KeepingHands$LawReader", "readTerm", "()Z"⟩, 10) := ⟨⟨by decide +kernel, by decide +kernel⟩, List.mem_of_getElem? (i := 71) (by decide +kernel), List.mem_of_getElem? (i := 737) (by decide +kernel), List.mem_of_getElem? (i := 738) (by decide +kernel)⟩
def lw_privs_2 : List (MethodName × Nat) := [(⟨"KeepingHands$LawReader", "wordOf", "(Ljava/lang/String;)I"⟩, 10), (⟨"KeepingHands$LawReader", "isSame", "(Ljava/lang/String;II)Z"⟩, 10), (⟨"KeepingHands$LawReader", "isWord", "(Ljava/lang/String;)Z"⟩, 10), (⟨"KeepingHands$LawReader", "fail", "(I)Z"⟩, 10), (⟨"KeepingHands$LawReader", "readMixing", "()Z"⟩, 10), (⟨"KeepingHands$LawReader", "readSum", "()Z"⟩, 10), (⟨"KeepingHands$LawReader", "readProduct", "()Z"⟩, 10), (⟨"KeepingHands$LawReader", "readUnit", "()Z"⟩, 10), (⟨"KeepingHands$LawReader", "enter", "()Z"⟩, 10), (⟨"KeepingHands$LawReader", "leave", "(I)Z"⟩, 10), (⟨"KeepingHands$LawReader", "readNumber", "()Z"⟩, 10), (⟨"KeepingHands$LawReader", "isNumber", "(II)Z"⟩, 10), (⟨"KeepingHands$LawReader", "readChoice", "(I)Z"⟩, 10), (⟨"KeepingHands$LawReader", "take", "(I)Z"⟩, 10), (⟨"KeepingHands$LawReader", "readTerms", "()Z"⟩, 10), (⟨"KeepingHands$LawReader", "readTerm", "()Z"⟩, 10)]
theorem lw_r2 : ∀ q ∈ lw_privs_2, lw_okq q := List.forall_mem_cons.mpr ⟨lw_p16, List.forall_mem_cons.mpr ⟨lw_p17, List.forall_mem_cons.mpr ⟨lw_p18, List.forall_mem_cons.mpr ⟨lw_p19, List.forall_mem_cons.mpr ⟨lw_p20, List.forall_mem_cons.mpr ⟨lw_p21, List.forall_mem_cons.mpr ⟨lw_p22, List.forall_mem_cons.mpr ⟨lw_p23, List.forall_mem_cons.mpr ⟨lw_p24, List.forall_mem_cons.mpr ⟨lw_p25, List.forall_mem_cons.mpr ⟨lw_p26, List.forall_mem_cons.mpr ⟨lw_p27, List.forall_mem_cons.mpr ⟨lw_p28, List.forall_mem_cons.mpr ⟨lw_p29, List.forall_mem_cons.mpr ⟨lw_p30, List.forall_mem_cons.mpr ⟨lw_p31, fun _ h => absurd h List.not_mem_nil⟩⟩⟩⟩⟩⟩⟩⟩⟩⟩⟩⟩⟩⟩⟩⟩
theorem lw_p32 : lw_okq (⟨"KeepingHands$LawReader", "readHarms", "()Z"⟩, 10) := ⟨⟨by decide +kernel, by decide +kernel⟩, List.mem_of_getElem? (i := 71) (by decide +kernel), List.mem_of_getElem? (i := 745) (by decide +kernel), List.mem_of_getElem? (i := 746) (by decide +kernel)⟩
theorem lw_p33 : lw_okq (⟨"KeepingHands$LawReader", "readHarm", "()Z"⟩, 10) := ⟨⟨by decide +kernel, by decide +kernel⟩, List.mem_of_getElem? (i := 71) (by decide +kernel), List.mem_of_getElem? (i := 749) (by decide +kernel), List.mem_of_getElem? (i := 750) (by decide +kernel)⟩
theorem lw_p34 : lw_okq (⟨"KeepingHands$LawReader", "takeWord", "(Ljava/lang/String;)Z"⟩, 10) := ⟨⟨by decide +kernel, by decide +kernel⟩, List.mem_of_getElem? (i := 71) (by decide +kernel), List.mem_of_getElem? (i := 755) (by decide +kernel), List.mem_of_getElem? (i := 756) (by decide +kernel)⟩
theorem lw_p35 : lw_okq (⟨"KeepingHands$LawReader", "readEither", "()Z"⟩, 10) := ⟨⟨by decide +kernel, by decide +kernel⟩, List.mem_of_getElem? (i := 71) (by decide +kernel), List.mem_of_getElem? (i := 759) (by decide +kernel), List.mem_of_getElem? (i := 760) (by decide +kernel)⟩
theorem lw_p36 : lw_okq (⟨"KeepingHands$LawReader", "readBoth", "()Z"⟩, 10) := ⟨⟨by decide +kernel, by decide +kernel⟩, List.mem_of_getElem? (i := 71) (by decide +kernel), List.mem_of_getElem? (i := 763) (by decide +kernel), List.mem_of_getElem? (i := 764) (by decide +kernel)⟩
theorem lw_p37 : lw_okq (⟨"KeepingHands$LawReader", "readCondition", "()Z"⟩, 10) := ⟨⟨by decide +kernel, by decide +kernel⟩, List.mem_of_getElem? (i := 71) (by decide +kernel), List.mem_of_getElem? (i := 767) (by decide +kernel), List.mem_of_getElem? (i := 768) (by decide +kernel)⟩
theorem lw_p38 : lw_okq (⟨"KeepingHands$LawReader", "readNot", "()Z"⟩, 10) := ⟨⟨by decide +kernel, by decide +kernel⟩, List.mem_of_getElem? (i := 71) (by decide +kernel), List.mem_of_getElem? (i := 772) (by decide +kernel), List.mem_of_getElem? (i := 773) (by decide +kernel)⟩
theorem lw_p39 : lw_okq (⟨"KeepingHands$LawReader", "takeComparison", "()Z"⟩, 10) := ⟨⟨by decide +kernel, by decide +kernel⟩, List.mem_of_getElem? (i := 71) (by decide +kernel), List.mem_of_getElem? (i := 776) (by decide +kernel), List.mem_of_getElem? (i := 777) (by decide +kernel)⟩
theorem lw_p40 : lw_okq (⟨"KeepingHands", "nameCase", "(IIII)V"⟩, 14) := ⟨⟨by decide +kernel, by decide +kernel⟩, List.mem_of_getElem? (i := 22) (by decide +kernel), List.mem_of_getElem? (i := 796) (by decide +kernel), List.mem_of_getElem? (i := 797) (by decide +kernel)⟩
theorem lw_p41 : lw_okq (⟨"KeepingHands", "needHand", "(I)V"⟩, 14) := ⟨⟨by decide +kernel, by decide +kernel⟩, List.mem_of_getElem? (i := 22) (by decide +kernel), List.mem_of_getElem? (i := 836) (by decide +kernel), List.mem_of_getElem? (i := 837) (by decide +kernel)⟩
theorem lw_p42 : lw_okq (⟨"KeepingHands", "burdenedCases", "(I)I"⟩, 14) := ⟨⟨by decide +kernel, by decide +kernel⟩, List.mem_of_getElem? (i := 22) (by decide +kernel), List.mem_of_getElem? (i := 965) (by decide +kernel), List.mem_of_getElem? (i := 966) (by decide +kernel)⟩
theorem lw_p43 : lw_okq (⟨"KeepingHands", "isBurdened", "(II)Z"⟩, 14) := ⟨⟨by decide +kernel, by decide +kernel⟩, List.mem_of_getElem? (i := 22) (by decide +kernel), List.mem_of_getElem? (i := 969) (by decide +kernel), List.mem_of_getElem? (i := 970) (by decide +kernel)⟩
theorem lw_p44 : lw_okq (⟨"KeepingHands", "casesLikeBit", "(II)I"⟩, 14) := ⟨⟨by decide +kernel, by decide +kernel⟩, List.mem_of_getElem? (i := 22) (by decide +kernel), List.mem_of_getElem? (i := 987) (by decide +kernel), List.mem_of_getElem? (i := 988) (by decide +kernel)⟩
theorem lw_p45 : lw_okq (⟨"KeepingHandsModel", "bad", "(ZI)Z"⟩, 54) := ⟨⟨by decide +kernel, by decide +kernel⟩, List.mem_of_getElem? (i := 1067) (by decide +kernel), List.mem_of_getElem? (i := 1255) (by decide +kernel), List.mem_of_getElem? (i := 1256) (by decide +kernel)⟩
theorem lw_p46 : lw_okq (⟨"KeepingHandsModel", "walks", "()V"⟩, 54) := ⟨⟨by decide +kernel, by decide +kernel⟩, List.mem_of_getElem? (i := 1067) (by decide +kernel), List.mem_of_getElem? (i := 1259) (by decide +kernel), List.mem_of_getElem? (i := 1260) (by decide +kernel)⟩
theorem lw_p47 : lw_okq (⟨"KeepingHandsModel", "blanks", "()V"⟩, 54) := ⟨⟨by decide +kernel, by decide +kernel⟩, List.mem_of_getElem? (i := 1067) (by decide +kernel), List.mem_of_getElem? (i := 1263) (by decide +kernel), List.mem_of_getElem? (i := 1264) (by decide +kernel)⟩
def lw_privs_3 : List (MethodName × Nat) := [(⟨"KeepingHands$LawReader", "readHarms", "()Z"⟩, 10), (⟨"KeepingHands$LawReader", "readHarm", "()Z"⟩, 10), (⟨"KeepingHands$LawReader", "takeWord", "(Ljava/lang/String;)Z"⟩, 10), (⟨"KeepingHands$LawReader", "readEither", "()Z"⟩, 10), (⟨"KeepingHands$LawReader", "readBoth", "()Z"⟩, 10), (⟨"KeepingHands$LawReader", "readCondition", "()Z"⟩, 10), (⟨"KeepingHands$LawReader", "readNot", "()Z"⟩, 10), (⟨"KeepingHands$LawReader", "takeComparison", "()Z"⟩, 10), (⟨"KeepingHands", "nameCase", "(IIII)V"⟩, 14), (⟨"KeepingHands", "needHand", "(I)V"⟩, 14), (⟨"KeepingHands", "burdenedCases", "(I)I"⟩, 14), (⟨"KeepingHands", "isBurdened", "(II)Z"⟩, 14), (⟨"KeepingHands", "casesLikeBit", "(II)I"⟩, 14), (⟨"KeepingHandsModel", "bad", "(ZI)Z"⟩, 54), (⟨"KeepingHandsModel", "walks", "()V"⟩, 54), (⟨"KeepingHandsModel", "blanks", "()V"⟩, 54)]
theorem lw_r3 : ∀ q ∈ lw_privs_3, lw_okq q := List.forall_mem_cons.mpr ⟨lw_p32, List.forall_mem_cons.mpr ⟨lw_p33, List.forall_mem_cons.mpr ⟨lw_p34, List.forall_mem_cons.mpr ⟨lw_p35, List.forall_mem_cons.mpr ⟨lw_p36, List.forall_mem_cons.mpr ⟨lw_p37, List.forall_mem_cons.mpr ⟨lw_p38, List.forall_mem_cons.mpr ⟨lw_p39, List.forall_mem_cons.mpr ⟨lw_p40, List.forall_mem_cons.mpr ⟨lw_p41, List.forall_mem_cons.mpr ⟨lw_p42, List.forall_mem_cons.mpr ⟨lw_p43, List.forall_mem_cons.mpr ⟨lw_p44, List.forall_mem_cons.mpr ⟨lw_p45, List.forall_mem_cons.mpr ⟨lw_p46, List.forall_mem_cons.mpr ⟨lw_p47, fun _ h => absurd h List.not_mem_nil⟩⟩⟩⟩⟩⟩⟩⟩⟩⟩⟩⟩⟩⟩⟩⟩
theorem lw_p48 : lw_okq (⟨"KeepingHandsModel", "byteAt", "(I)I"⟩, 54) := ⟨⟨by decide +kernel, by decide +kernel⟩, List.mem_of_getElem? (i := 1067) (by decide +kernel), List.mem_of_getElem? (i := 1267) (by decide +kernel), List.mem_of_getElem? (i := 1268) (by decide +kernel)⟩
theorem lw_p49 : lw_okq (⟨"KeepingHandsModel", "clause", "()V"⟩, 54) := ⟨⟨by decide +kernel, by decide +kernel⟩, List.mem_of_getElem? (i := 1067) (by decide +kernel), List.mem_of_getElem? (i := 1271) (by decide +kernel), List.mem_of_getElem? (i := 1272) (by decide +kernel)⟩
theorem lw_p50 : lw_okq (⟨"KeepingHandsModel", "keepingHere", "()I"⟩, 54) := ⟨⟨by decide +kernel, by decide +kernel⟩, List.mem_of_getElem? (i := 1067) (by decide +kernel), List.mem_of_getElem? (i := 1275) (by decide +kernel), List.mem_of_getElem? (i := 1276) (by decide +kernel)⟩
theorem lw_p51 : lw_okq (⟨"KeepingHandsModel", "isWord", "(IIIIII)Z"⟩, 54) := ⟨⟨by decide +kernel, by decide +kernel⟩, List.mem_of_getElem? (i := 1067) (by decide +kernel), List.mem_of_getElem? (i := 1279) (by decide +kernel), List.mem_of_getElem? (i := 1280) (by decide +kernel)⟩
theorem lw_p52 : lw_okq (⟨"KeepingHandsModel", "wordHere", "()I"⟩, 54) := ⟨⟨by decide +kernel, by decide +kernel⟩, List.mem_of_getElem? (i := 1067) (by decide +kernel), List.mem_of_getElem? (i := 1283) (by decide +kernel), List.mem_of_getElem? (i := 1284) (by decide +kernel)⟩
theorem lw_p53 : lw_okq (⟨"KeepingHandsModel", "isAnswers", "()Z"⟩, 54) := ⟨⟨by decide +kernel, by decide +kernel⟩, List.mem_of_getElem? (i := 1067) (by decide +kernel), List.mem_of_getElem? (i := 1287) (by decide +kernel), List.mem_of_getElem? (i := 1288) (by decide +kernel)⟩
theorem lw_p54 : lw_okq (⟨"KeepingHandsModel", "wrongAt", "(II)V"⟩, 54) := ⟨⟨by decide +kernel, by decide +kernel⟩, List.mem_of_getElem? (i := 1067) (by decide +kernel), List.mem_of_getElem? (i := 1294) (by decide +kernel), List.mem_of_getElem? (i := 1295) (by decide +kernel)⟩
theorem lw_p55 : lw_okq (⟨"KeepingHandsModel", "skipWord", "()V"⟩, 54) := ⟨⟨by decide +kernel, by decide +kernel⟩, List.mem_of_getElem? (i := 1067) (by decide +kernel), List.mem_of_getElem? (i := 1298) (by decide +kernel), List.mem_of_getElem? (i := 1299) (by decide +kernel)⟩
theorem lw_p56 : lw_okq (⟨"KeepingHandsModel", "mixes", "()V"⟩, 54) := ⟨⟨by decide +kernel, by decide +kernel⟩, List.mem_of_getElem? (i := 1067) (by decide +kernel), List.mem_of_getElem? (i := 1302) (by decide +kernel), List.mem_of_getElem? (i := 1303) (by decide +kernel)⟩
theorem lw_p57 : lw_okq (⟨"KeepingHandsModel", "says", "(Z)V"⟩, 54) := ⟨⟨by decide +kernel, by decide +kernel⟩, List.mem_of_getElem? (i := 1067) (by decide +kernel), List.mem_of_getElem? (i := 1306) (by decide +kernel), List.mem_of_getElem? (i := 1307) (by decide +kernel)⟩
theorem lw_p58 : lw_okq (⟨"KeepingHandsModel", "harms", "()Z"⟩, 54) := ⟨⟨by decide +kernel, by decide +kernel⟩, List.mem_of_getElem? (i := 1067) (by decide +kernel), List.mem_of_getElem? (i := 1310) (by decide +kernel), List.mem_of_getElem? (i := 1311) (by decide +kernel)⟩
theorem lw_p59 : lw_okq (⟨"KeepingHandsModel", "harmHere", "()I"⟩, 54) := ⟨⟨by decide +kernel, by decide +kernel⟩, List.mem_of_getElem? (i := 1067) (by decide +kernel), List.mem_of_getElem? (i := 1314) (by decide +kernel), List.mem_of_getElem? (i := 1315) (by decide +kernel)⟩
theorem lw_p60 : lw_okq (⟨"KeepingHandsModel", "ors", "()Z"⟩, 54) := ⟨⟨by decide +kernel, by decide +kernel⟩, List.mem_of_getElem? (i := 1067) (by decide +kernel), List.mem_of_getElem? (i := 1318) (by decide +kernel), List.mem_of_getElem? (i := 1319) (by decide +kernel)⟩
theorem lw_p61 : lw_okq (⟨"KeepingHandsModel", "ands", "()Z"⟩, 54) := ⟨⟨by decide +kernel, by decide +kernel⟩, List.mem_of_getElem? (i := 1067) (by decide +kernel), List.mem_of_getElem? (i := 1322) (by decide +kernel), List.mem_of_getElem? (i := 1323) (by decide +kernel)⟩
theorem lw_p62 : lw_okq (⟨"KeepingHandsModel", "test", "()Z"⟩, 54) := ⟨⟨by decide +kernel, by decide +kernel⟩, List.mem_of_getElem? (i := 1067) (by decide +kernel), List.mem_of_getElem? (i := 1326) (by decide +kernel), List.mem_of_getElem? (i := 1327) (by decide +kernel)⟩
theorem lw_p63 : lw_okq (⟨"KeepingHandsModel", "opens", "(I)V"⟩, 54) := ⟨⟨by decide +kernel, by decide +kernel⟩, List.mem_of_getElem? (i := 1067) (by decide +kernel), List.mem_of_getElem? (i := 1330) (by decide +kernel), List.mem_of_getElem? (i := 1331) (by decide +kernel)⟩
def lw_privs_4 : List (MethodName × Nat) := [(⟨"KeepingHandsModel", "byteAt", "(I)I"⟩, 54), (⟨"KeepingHandsModel", "clause", "()V"⟩, 54), (⟨"KeepingHandsModel", "keepingHere", "()I"⟩, 54), (⟨"KeepingHandsModel", "isWord", "(IIIIII)Z"⟩, 54), (⟨"KeepingHandsModel", "wordHere", "()I"⟩, 54), (⟨"KeepingHandsModel", "isAnswers", "()Z"⟩, 54), (⟨"KeepingHandsModel", "wrongAt", "(II)V"⟩, 54), (⟨"KeepingHandsModel", "skipWord", "()V"⟩, 54), (⟨"KeepingHandsModel", "mixes", "()V"⟩, 54), (⟨"KeepingHandsModel", "says", "(Z)V"⟩, 54), (⟨"KeepingHandsModel", "harms", "()Z"⟩, 54), (⟨"KeepingHandsModel", "harmHere", "()I"⟩, 54), (⟨"KeepingHandsModel", "ors", "()Z"⟩, 54), (⟨"KeepingHandsModel", "ands", "()Z"⟩, 54), (⟨"KeepingHandsModel", "test", "()Z"⟩, 54), (⟨"KeepingHandsModel", "opens", "(I)V"⟩, 54)]
theorem lw_r4 : ∀ q ∈ lw_privs_4, lw_okq q := List.forall_mem_cons.mpr ⟨lw_p48, List.forall_mem_cons.mpr ⟨lw_p49, List.forall_mem_cons.mpr ⟨lw_p50, List.forall_mem_cons.mpr ⟨lw_p51, List.forall_mem_cons.mpr ⟨lw_p52, List.forall_mem_cons.mpr ⟨lw_p53, List.forall_mem_cons.mpr ⟨lw_p54, List.forall_mem_cons.mpr ⟨lw_p55, List.forall_mem_cons.mpr ⟨lw_p56, List.forall_mem_cons.mpr ⟨lw_p57, List.forall_mem_cons.mpr ⟨lw_p58, List.forall_mem_cons.mpr ⟨lw_p59, List.forall_mem_cons.mpr ⟨lw_p60, List.forall_mem_cons.mpr ⟨lw_p61, List.forall_mem_cons.mpr ⟨lw_p62, List.forall_mem_cons.mpr ⟨lw_p63, fun _ h => absurd h List.not_mem_nil⟩⟩⟩⟩⟩⟩⟩⟩⟩⟩⟩⟩⟩⟩⟩⟩
theorem lw_p64 : lw_okq (⟨"KeepingHandsModel", "sign", "(I)V"⟩, 54) := ⟨⟨by decide +kernel, by decide +kernel⟩, List.mem_of_getElem? (i := 1067) (by decide +kernel), List.mem_of_getElem? (i := 1334) (by decide +kernel), List.mem_of_getElem? (i := 1335) (by decide +kernel)⟩
theorem lw_p65 : lw_okq (⟨"KeepingHandsModel", "sum", "()I"⟩, 54) := ⟨⟨by decide +kernel, by decide +kernel⟩, List.mem_of_getElem? (i := 1067) (by decide +kernel), List.mem_of_getElem? (i := 1338) (by decide +kernel), List.mem_of_getElem? (i := 1339) (by decide +kernel)⟩
theorem lw_p66 : lw_okq (⟨"KeepingHandsModel", "product", "()I"⟩, 54) := ⟨⟨by decide +kernel, by decide +kernel⟩, List.mem_of_getElem? (i := 1067) (by decide +kernel), List.mem_of_getElem? (i := 1342) (by decide +kernel), List.mem_of_getElem? (i := 1343) (by decide +kernel)⟩
theorem lw_p67 : lw_okq (⟨"KeepingHandsModel", "unit", "()I"⟩, 54) := ⟨⟨by decide +kernel, by decide +kernel⟩, List.mem_of_getElem? (i := 1067) (by decide +kernel), List.mem_of_getElem? (i := 1346) (by decide +kernel), List.mem_of_getElem? (i := 1347) (by decide +kernel)⟩
theorem lw_p68 : lw_okq (⟨"KeepingHandsModel", "number", "(II)I"⟩, 54) := ⟨⟨by decide +kernel, by decide +kernel⟩, List.mem_of_getElem? (i := 1067) (by decide +kernel), List.mem_of_getElem? (i := 1353) (by decide +kernel), List.mem_of_getElem? (i := 1354) (by decide +kernel)⟩
theorem lw_p69 : lw_okq (⟨"KeepingHandsModel", "nameHere", "()I"⟩, 54) := ⟨⟨by decide +kernel, by decide +kernel⟩, List.mem_of_getElem? (i := 1067) (by decide +kernel), List.mem_of_getElem? (i := 1358) (by decide +kernel), List.mem_of_getElem? (i := 1359) (by decide +kernel)⟩
theorem lw_p70 : lw_okq (⟨"KeepingHandsModel", "terms", "()Z"⟩, 54) := ⟨⟨by decide +kernel, by decide +kernel⟩, List.mem_of_getElem? (i := 1067) (by decide +kernel), List.mem_of_getElem? (i := 1362) (by decide +kernel), List.mem_of_getElem? (i := 1363) (by decide +kernel)⟩
theorem lw_p71 : lw_okq (⟨"KeepingHandsModel", "tellsBits", "(I)V"⟩, 54) := ⟨⟨by decide +kernel, by decide +kernel⟩, List.mem_of_getElem? (i := 1067) (by decide +kernel), List.mem_of_getElem? (i := 1378) (by decide +kernel), List.mem_of_getElem? (i := 1379) (by decide +kernel)⟩
theorem lw_p72 : lw_okq (⟨"KeepingHandsModel", "asks", "(IIII)V"⟩, 54) := ⟨⟨by decide +kernel, by decide +kernel⟩, List.mem_of_getElem? (i := 1067) (by decide +kernel), List.mem_of_getElem? (i := 1382) (by decide +kernel), List.mem_of_getElem? (i := 1383) (by decide +kernel)⟩
theorem lw_p73 : lw_okq (⟨"KeepingHandsModel", "isHand", "(I)Z"⟩, 54) := ⟨⟨by decide +kernel, by decide +kernel⟩, List.mem_of_getElem? (i := 1067) (by decide +kernel), List.mem_of_getElem? (i := 1401) (by decide +kernel), List.mem_of_getElem? (i := 1402) (by decide +kernel)⟩
theorem lw_p74 : lw_okq (⟨"KeepingHandsModel", "findHolder", "()V"⟩, 54) := ⟨⟨by decide +kernel, by decide +kernel⟩, List.mem_of_getElem? (i := 1067) (by decide +kernel), List.mem_of_getElem? (i := 1425) (by decide +kernel), List.mem_of_getElem? (i := 1426) (by decide +kernel)⟩
theorem lw_p75 : lw_okq (⟨"KeepingHandsModel", "ends", "(I)V"⟩, 54) := ⟨⟨by decide +kernel, by decide +kernel⟩, List.mem_of_getElem? (i := 1067) (by decide +kernel), List.mem_of_getElem? (i := 1433) (by decide +kernel), List.mem_of_getElem? (i := 1434) (by decide +kernel)⟩
theorem lw_p76 : lw_okq (⟨"KeepingHandsModel", "tellsNames", "(II)V"⟩, 54) := ⟨⟨by decide +kernel, by decide +kernel⟩, List.mem_of_getElem? (i := 1067) (by decide +kernel), List.mem_of_getElem? (i := 1437) (by decide +kernel), List.mem_of_getElem? (i := 1438) (by decide +kernel)⟩
theorem lw_p77 : lw_okq (⟨"KeepingHandsModel", "hasPassed", "(I)Z"⟩, 54) := ⟨⟨by decide +kernel, by decide +kernel⟩, List.mem_of_getElem? (i := 1067) (by decide +kernel), List.mem_of_getElem? (i := 1441) (by decide +kernel), List.mem_of_getElem? (i := 1442) (by decide +kernel)⟩
theorem lw_p78 : lw_okq (⟨"KeepingHandsModel", "isWithin", "(I)Z"⟩, 54) := ⟨⟨by decide +kernel, by decide +kernel⟩, List.mem_of_getElem? (i := 1067) (by decide +kernel), List.mem_of_getElem? (i := 1445) (by decide +kernel), List.mem_of_getElem? (i := 1446) (by decide +kernel)⟩
theorem lw_p79 : lw_okq (⟨"KeepingHandsModel", "caseMany", "()I"⟩, 54) := ⟨⟨by decide +kernel, by decide +kernel⟩, List.mem_of_getElem? (i := 1067) (by decide +kernel), List.mem_of_getElem? (i := 1481) (by decide +kernel), List.mem_of_getElem? (i := 1482) (by decide +kernel)⟩
def lw_privs_5 : List (MethodName × Nat) := [(⟨"KeepingHandsModel", "sign", "(I)V"⟩, 54), (⟨"KeepingHandsModel", "sum", "()I"⟩, 54), (⟨"KeepingHandsModel", "product", "()I"⟩, 54), (⟨"KeepingHandsModel", "unit", "()I"⟩, 54), (⟨"KeepingHandsModel", "number", "(II)I"⟩, 54), (⟨"KeepingHandsModel", "nameHere", "()I"⟩, 54), (⟨"KeepingHandsModel", "terms", "()Z"⟩, 54), (⟨"KeepingHandsModel", "tellsBits", "(I)V"⟩, 54), (⟨"KeepingHandsModel", "asks", "(IIII)V"⟩, 54), (⟨"KeepingHandsModel", "isHand", "(I)Z"⟩, 54), (⟨"KeepingHandsModel", "findHolder", "()V"⟩, 54), (⟨"KeepingHandsModel", "ends", "(I)V"⟩, 54), (⟨"KeepingHandsModel", "tellsNames", "(II)V"⟩, 54), (⟨"KeepingHandsModel", "hasPassed", "(I)Z"⟩, 54), (⟨"KeepingHandsModel", "isWithin", "(I)Z"⟩, 54), (⟨"KeepingHandsModel", "caseMany", "()I"⟩, 54)]
theorem lw_r5 : ∀ q ∈ lw_privs_5, lw_okq q := List.forall_mem_cons.mpr ⟨lw_p64, List.forall_mem_cons.mpr ⟨lw_p65, List.forall_mem_cons.mpr ⟨lw_p66, List.forall_mem_cons.mpr ⟨lw_p67, List.forall_mem_cons.mpr ⟨lw_p68, List.forall_mem_cons.mpr ⟨lw_p69, List.forall_mem_cons.mpr ⟨lw_p70, List.forall_mem_cons.mpr ⟨lw_p71, List.forall_mem_cons.mpr ⟨lw_p72, List.forall_mem_cons.mpr ⟨lw_p73, List.forall_mem_cons.mpr ⟨lw_p74, List.forall_mem_cons.mpr ⟨lw_p75, List.forall_mem_cons.mpr ⟨lw_p76, List.forall_mem_cons.mpr ⟨lw_p77, List.forall_mem_cons.mpr ⟨lw_p78, List.forall_mem_cons.mpr ⟨lw_p79, fun _ h => absurd h List.not_mem_nil⟩⟩⟩⟩⟩⟩⟩⟩⟩⟩⟩⟩⟩⟩⟩⟩
theorem lw_p80 : lw_okq (⟨"KeepingHandsModel", "findCases", "()V"⟩, 54) := ⟨⟨by decide +kernel, by decide +kernel⟩, List.mem_of_getElem? (i := 1067) (by decide +kernel), List.mem_of_getElem? (i := 1485) (by decide +kernel), List.mem_of_getElem? (i := 1486) (by decide +kernel)⟩
theorem lw_p81 : lw_okq (⟨"KeepingHandsModel", "goesInto", "(I)V"⟩, 54) := ⟨⟨by decide +kernel, by decide +kernel⟩, List.mem_of_getElem? (i := 1067) (by decide +kernel), List.mem_of_getElem? (i := 1489) (by decide +kernel), List.mem_of_getElem? (i := 1490) (by decide +kernel)⟩
theorem lw_p82 : lw_okq (⟨"KeepingHandsModel", "comesBack", "()V"⟩, 54) := ⟨⟨by decide +kernel, by decide +kernel⟩, List.mem_of_getElem? (i := 1067) (by decide +kernel), List.mem_of_getElem? (i := 1493) (by decide +kernel), List.mem_of_getElem? (i := 1494) (by decide +kernel)⟩
theorem lw_p83 : lw_okq (⟨"KeepingHandsModel", "casesOf", "(I)I"⟩, 54) := ⟨⟨by decide +kernel, by decide +kernel⟩, List.mem_of_getElem? (i := 1067) (by decide +kernel), List.mem_of_getElem? (i := 1501) (by decide +kernel), List.mem_of_getElem? (i := 1502) (by decide +kernel)⟩
theorem lw_p84 : lw_okq (⟨"KeepingHandsModel", "settles", "(I)Z"⟩, 54) := ⟨⟨by decide +kernel, by decide +kernel⟩, List.mem_of_getElem? (i := 1067) (by decide +kernel), List.mem_of_getElem? (i := 1520) (by decide +kernel), List.mem_of_getElem? (i := 1521) (by decide +kernel)⟩
theorem lw_p85 : lw_okq (⟨"KeepingHandsModel", "areAlike", "(II)Z"⟩, 54) := ⟨⟨by decide +kernel, by decide +kernel⟩, List.mem_of_getElem? (i := 1067) (by decide +kernel), List.mem_of_getElem? (i := 1524) (by decide +kernel), List.mem_of_getElem? (i := 1525) (by decide +kernel)⟩
theorem lw_p86 : lw_okq (⟨"KeepingHandsModel", "titleNow", "()I"⟩, 54) := ⟨⟨by decide +kernel, by decide +kernel⟩, List.mem_of_getElem? (i := 1067) (by decide +kernel), List.mem_of_getElem? (i := 1536) (by decide +kernel), List.mem_of_getElem? (i := 1537) (by decide +kernel)⟩
theorem lw_p87 : lw_okq (⟨"KeepingHandsModel", "claimIn", "(II)I"⟩, 54) := ⟨⟨by decide +kernel, by decide +kernel⟩, List.mem_of_getElem? (i := 1067) (by decide +kernel), List.mem_of_getElem? (i := 1564) (by decide +kernel), List.mem_of_getElem? (i := 1565) (by decide +kernel)⟩
theorem lw_p88 : lw_okq (⟨"KeepingHandsModel", "movesAll", "(IZ)V"⟩, 54) := ⟨⟨by decide +kernel, by decide +kernel⟩, List.mem_of_getElem? (i := 1067) (by decide +kernel), List.mem_of_getElem? (i := 1576) (by decide +kernel), List.mem_of_getElem? (i := 1577) (by decide +kernel)⟩
theorem lw_p89 : lw_okq (⟨"KeepingHandsModel", "moves", "(IIIZ)I"⟩, 54) := ⟨⟨by decide +kernel, by decide +kernel⟩, List.mem_of_getElem? (i := 1067) (by decide +kernel), List.mem_of_getElem? (i := 1580) (by decide +kernel), List.mem_of_getElem? (i := 1581) (by decide +kernel)⟩
def lw_privs_6 : List (MethodName × Nat) := [(⟨"KeepingHandsModel", "findCases", "()V"⟩, 54), (⟨"KeepingHandsModel", "goesInto", "(I)V"⟩, 54), (⟨"KeepingHandsModel", "comesBack", "()V"⟩, 54), (⟨"KeepingHandsModel", "casesOf", "(I)I"⟩, 54), (⟨"KeepingHandsModel", "settles", "(I)Z"⟩, 54), (⟨"KeepingHandsModel", "areAlike", "(II)Z"⟩, 54), (⟨"KeepingHandsModel", "titleNow", "()I"⟩, 54), (⟨"KeepingHandsModel", "claimIn", "(II)I"⟩, 54), (⟨"KeepingHandsModel", "movesAll", "(IZ)V"⟩, 54), (⟨"KeepingHandsModel", "moves", "(IIIZ)I"⟩, 54)]
theorem lw_r6 : ∀ q ∈ lw_privs_6, lw_okq q := List.forall_mem_cons.mpr ⟨lw_p80, List.forall_mem_cons.mpr ⟨lw_p81, List.forall_mem_cons.mpr ⟨lw_p82, List.forall_mem_cons.mpr ⟨lw_p83, List.forall_mem_cons.mpr ⟨lw_p84, List.forall_mem_cons.mpr ⟨lw_p85, List.forall_mem_cons.mpr ⟨lw_p86, List.forall_mem_cons.mpr ⟨lw_p87, List.forall_mem_cons.mpr ⟨lw_p88, List.forall_mem_cons.mpr ⟨lw_p89, fun _ h => absurd h List.not_mem_nil⟩⟩⟩⟩⟩⟩⟩⟩⟩⟩
def lw_privs : List (MethodName × Nat) := lw_privs_1 ++ (lw_privs_2 ++ (lw_privs_3 ++ (lw_privs_4 ++ (lw_privs_5 ++ (lw_privs_6)))))
def lw_tbl : List Cond := k2_sels lw_privs ++ tables_1
theorem lw_privs_ok : ∀ q ∈ lw_privs, lw_okq q := by
  show ∀ q ∈ lw_privs_1 ++ (lw_privs_2 ++ (lw_privs_3 ++ (lw_privs_4 ++ (lw_privs_5 ++ (lw_privs_6))))), lw_okq q
  exact List.forall_mem_append.mpr ⟨lw_r1, List.forall_mem_append.mpr ⟨lw_r2, List.forall_mem_append.mpr ⟨lw_r3, List.forall_mem_append.mpr ⟨lw_r4, List.forall_mem_append.mpr ⟨lw_r5, lw_r6⟩⟩⟩⟩⟩
def RX0 : String := "KeepingHands$Chain"
def TX0 : u_T := fun k => match k with
  | 0 => ("KeepingHands$Chain", "hands", "[LKeepingHands$Hand;", true)
  | 1 => ("KeepingHands$Chain", "handCount", "I", false)
  | 2 => ("KeepingHands$Chain", "value", "I", false)
  | 3 => ("KeepingHands$Chain", "harm", "I", false)
  | 4 => ("KeepingHands$Chain", "harmDay", "I", false)
  | 5 => ("KeepingHands$Chain", "inForce", "I", false)
  | 6 => ("KeepingHands$Chain", "questions", "[LKeepingHands$Question;", true)
  | 7 => ("KeepingHands$Chain", "questionCount", "I", false)
  | _ => ("KeepingHands$Chain", "goods", "LKeepingHands$Goods;", true)
def tyX0 : Nat → FieldType := fun k => match k with
  | 0 => .array (.object "KeepingHands$Hand")
  | 1 => .int
  | 2 => .int
  | 3 => .int
  | 4 => .int
  | 5 => .int
  | 6 => .array (.object "KeepingHands$Question")
  | 7 => .int
  | _ => .object "KeepingHands$Goods"
abbrev wsX00 : List Cond := u_ws RX0 TX0 9
theorem nmX0 : ∀ a, a < 9 → ∀ b, b < 9 → a ≠ b → (TX0 a).2.1 ≠ (TX0 b).2.1 := by decide +kernel
theorem tyX0_ok : ∀ k, k < 9 → parseFieldDescriptor (TX0 k).2.2.1 = some (tyX0 k) := by decide +kernel
abbrev cX0_init : ByteArray := prog_2_method_1_code
def yX0_init : MethodName := ⟨RX0, "<init>", "()V"⟩
abbrev cX0_setTo : ByteArray := prog_2_method_2_code
def yX0_setTo : MethodName := ⟨RX0, "setTo", "(LKeepingHands$Chain;)V"⟩
abbrev cX0_latestHolder : ByteArray := prog_2_method_3_code
def yX0_latestHolder : MethodName := ⟨RX0, "latestHolder", "()I"⟩
abbrev cX0_hasPassed : ByteArray := prog_2_method_4_code
def yX0_hasPassed : MethodName := ⟨RX0, "hasPassed", "(II)Z"⟩
abbrev cX0_nameHand : ByteArray := prog_2_method_5_code
def yX0_nameHand : MethodName := ⟨RX0, "nameHand", "(IILKeepingHands$Law;[I)V"⟩
abbrev cX0_ask : ByteArray := prog_2_method_6_code
def yX0_ask : MethodName := ⟨RX0, "ask", "(III)I"⟩
abbrev cX0_dropQuestion : ByteArray := prog_2_method_7_code
def yX0_dropQuestion : MethodName := ⟨RX0, "dropQuestion", "(I)V"⟩
abbrev cX0_suppose : ByteArray := prog_2_method_8_code
def yX0_suppose : MethodName := ⟨RX0, "suppose", "(LKeepingHands$Chain;I)V"⟩
abbrev cX0_tell : ByteArray := prog_2_method_9_code
def yX0_tell : MethodName := ⟨RX0, "tell", "(LKeepingHands$Question;ZLKeepingHands$Chain;)V"⟩
def RX1 : String := "KeepingHands$End"
def TX1 : u_T := fun k => match k with
  | 0 => ("KeepingHands$End", "claims", "[I", true)
  | 1 => ("KeepingHands$End", "whoms", "[I", true)
  | 2 => ("KeepingHands$End", "payments", "[I", true)
  | 3 => ("KeepingHands$End", "burdens", "[I", true)
  | 4 => ("KeepingHands$End", "mustSwear", "[Z", true)
  | 5 => ("KeepingHands$End", "gains", "[I", true)
  | 6 => ("KeepingHands$End", "names", "[I", true)
  | _ => ("KeepingHands$End", "holder", "I", false)
def tyX1 : Nat → FieldType := fun k => match k with
  | 0 => .array .int
  | 1 => .array .int
  | 2 => .array .int
  | 3 => .array .int
  | 4 => .array .boolean
  | 5 => .array .int
  | 6 => .array .int
  | _ => .int
abbrev wsX10 : List Cond := u_ws RX1 TX1 8
theorem nmX1 : ∀ a, a < 8 → ∀ b, b < 8 → a ≠ b → (TX1 a).2.1 ≠ (TX1 b).2.1 := by decide +kernel
theorem tyX1_ok : ∀ k, k < 8 → parseFieldDescriptor (TX1 k).2.2.1 = some (tyX1 k) := by decide +kernel
abbrev cX1_init : ByteArray := prog_3_method_1_code
def yX1_init : MethodName := ⟨RX1, "<init>", "()V"⟩
abbrev cX1_reckon : ByteArray := prog_3_method_2_code
def yX1_reckon : MethodName := ⟨RX1, "reckon", "(LKeepingHands$Chain;LKeepingHands$Law;)V"⟩
abbrev cX1_clear : ByteArray := prog_3_method_3_code
def yX1_clear : MethodName := ⟨RX1, "clear", "()V"⟩
abbrev cX1_claimOn : ByteArray := prog_3_method_4_code
def yX1_claimOn : MethodName := ⟨RX1, "claimOn", "(ILKeepingHands$Chain;LKeepingHands$Law;)V"⟩
abbrev cX1_payUp : ByteArray := prog_3_method_5_code
def yX1_payUp : MethodName := ⟨RX1, "payUp", "(LKeepingHands$Chain;)V"⟩
abbrev cX1_payOwner : ByteArray := prog_3_method_6_code
def yX1_payOwner : MethodName := ⟨RX1, "payOwner", "(I)V"⟩
abbrev cX1_titleFor : ByteArray := prog_3_method_7_code
def yX1_titleFor : MethodName := ⟨RX1, "titleFor", "(I)I"⟩
def RX2 : String := "KeepingHands$Goods"
def TX2 : u_T := fun k => match k with
  | 0 => ("KeepingHands$Goods", "puttings", "I", false)
  | 1 => ("KeepingHands$Goods", "owners", "[I", true)
  | _ => ("KeepingHands$Goods", "many", "[I", true)
def tyX2 : Nat → FieldType := fun k => match k with
  | 0 => .int
  | 1 => .array .int
  | _ => .array .int
abbrev wsX20 : List Cond := u_ws RX2 TX2 3
theorem nmX2 : ∀ a, a < 3 → ∀ b, b < 3 → a ≠ b → (TX2 a).2.1 ≠ (TX2 b).2.1 := by decide +kernel
theorem tyX2_ok : ∀ k, k < 3 → parseFieldDescriptor (TX2 k).2.2.1 = some (tyX2 k) := by decide +kernel
abbrev cX2_init : ByteArray := prog_4_method_1_code
def yX2_init : MethodName := ⟨RX2, "<init>", "()V"⟩
abbrev cX2_setTo : ByteArray := prog_4_method_2_code
def yX2_setTo : MethodName := ⟨RX2, "setTo", "(LKeepingHands$Goods;)V"⟩
abbrev cX2_add : ByteArray := prog_4_method_3_code
def yX2_add : MethodName := ⟨RX2, "add", "(II)Z"⟩
abbrev cX2_all : ByteArray := prog_4_method_4_code
def yX2_all : MethodName := ⟨RX2, "all", "()I"⟩
abbrev cX2_allOf : ByteArray := prog_4_method_5_code
def yX2_allOf : MethodName := ⟨RX2, "allOf", "(I)I"⟩
abbrev cX2_lostLast : ByteArray := prog_4_method_6_code
def yX2_lostLast : MethodName := ⟨RX2, "lostLast", "(II)I"⟩
def RX3 : String := "KeepingHands$Hand"
def TX3 : u_T := fun k => match k with
  | 0 => ("KeepingHands$Hand", "keeping", "I", false)
  | 1 => ("KeepingHands$Hand", "day", "I", false)
  | 2 => ("KeepingHands$Hand", "till", "I", false)
  | 3 => ("KeepingHands$Hand", "term", "I", false)
  | 4 => ("KeepingHands$Hand", "leave", "I", false)
  | 5 => ("KeepingHands$Hand", "purse", "I", false)
  | 6 => ("KeepingHands$Hand", "judged", "I", false)
  | _ => ("KeepingHands$Hand", "facts", "I", false)
def tyX3 : Nat → FieldType := fun k => match k with
  | 0 => .int
  | 1 => .int
  | 2 => .int
  | 3 => .int
  | 4 => .int
  | 5 => .int
  | 6 => .int
  | _ => .int
abbrev wsX30 : List Cond := u_ws RX3 TX3 8
theorem nmX3 : ∀ a, a < 8 → ∀ b, b < 8 → a ≠ b → (TX3 a).2.1 ≠ (TX3 b).2.1 := by decide +kernel
theorem tyX3_ok : ∀ k, k < 8 → parseFieldDescriptor (TX3 k).2.2.1 = some (tyX3 k) := by decide +kernel
abbrev cX3_init : ByteArray := prog_5_method_1_code
def yX3_init : MethodName := ⟨RX3, "<init>", "()V"⟩
abbrev cX3_clear : ByteArray := prog_5_method_2_code
def yX3_clear : MethodName := ⟨RX3, "clear", "()V"⟩
abbrev cX3_setTo : ByteArray := prog_5_method_3_code
def yX3_setTo : MethodName := ⟨RX3, "setTo", "(LKeepingHands$Hand;)V"⟩
abbrev cX3_entry : ByteArray := prog_5_method_4_code
def yX3_entry : MethodName := ⟨RX3, "entry", "(I)I"⟩
abbrev cX3_hasFact : ByteArray := prog_5_method_5_code
def yX3_hasFact : MethodName := ⟨RX3, "hasFact", "(I)Z"⟩
abbrev cX3_tellFact : ByteArray := prog_5_method_6_code
def yX3_tellFact : MethodName := ⟨RX3, "tellFact", "(IZ)V"⟩
def RX4 : String := "KeepingHands$Law"
def TX4 : u_T := fun k => match k with
  | 0 => ("KeepingHands$Law", "mixing", "I", false)
  | 1 => ("KeepingHands$Law", "clauses", "I", false)
  | 2 => ("KeepingHands$Law", "sorts", "[I", true)
  | 3 => ("KeepingHands$Law", "keepings", "[I", true)
  | 4 => ("KeepingHands$Law", "things", "[I", true)
  | 5 => ("KeepingHands$Law", "starts", "[I", true)
  | 6 => ("KeepingHands$Law", "ends", "[I", true)
  | 7 => ("KeepingHands$Law", "steps", "[I", true)
  | 8 => ("KeepingHands$Law", "stepCount", "I", false)
  | _ => ("KeepingHands$Law", "stack", "[I", true)
def tyX4 : Nat → FieldType := fun k => match k with
  | 0 => .int
  | 1 => .int
  | 2 => .array .int
  | 3 => .array .int
  | 4 => .array .int
  | 5 => .array .int
  | 6 => .array .int
  | 7 => .array .int
  | 8 => .int
  | _ => .array .int
abbrev wsX40 : List Cond := u_ws RX4 TX4 10
theorem nmX4 : ∀ a, a < 10 → ∀ b, b < 10 → a ≠ b → (TX4 a).2.1 ≠ (TX4 b).2.1 := by decide +kernel
theorem tyX4_ok : ∀ k, k < 10 → parseFieldDescriptor (TX4 k).2.2.1 = some (tyX4 k) := by decide +kernel
abbrev cX4_init : ByteArray := prog_6_method_1_code
def yX4_init : MethodName := ⟨RX4, "<init>", "()V"⟩
abbrev cX4_clear : ByteArray := prog_6_method_2_code
def yX4_clear : MethodName := ⟨RX4, "clear", "()V"⟩
abbrev cX4_isFull : ByteArray := prog_6_method_3_code
def yX4_isFull : MethodName := ⟨RX4, "isFull", "()Z"⟩
abbrev cX4_beginClause : ByteArray := prog_6_method_4_code
def yX4_beginClause : MethodName := ⟨RX4, "beginClause", "(II)V"⟩
abbrev cX4_include : ByteArray := prog_6_method_5_code
def yX4_include : MethodName := ⟨RX4, "include", "(I)V"⟩
abbrev cX4_addStep : ByteArray := prog_6_method_6_code
def yX4_addStep : MethodName := ⟨RX4, "addStep", "(I)V"⟩
abbrev cX4_holdsFor : ByteArray := prog_6_method_7_code
def yX4_holdsFor : MethodName := ⟨RX4, "holdsFor", "(III[I)Z"⟩
abbrev cX4_owedFor : ByteArray := prog_6_method_8_code
def yX4_owedFor : MethodName := ⟨RX4, "owedFor", "(I[I)I"⟩
abbrev cX4_claimFor : ByteArray := prog_6_method_9_code
def yX4_claimFor : MethodName := ⟨RX4, "claimFor", "(II[I)I"⟩
abbrev cX4_allows : ByteArray := prog_6_method_10_code
def yX4_allows : MethodName := ⟨RX4, "allows", "(II)Z"⟩
abbrev cX4_doubles : ByteArray := prog_6_method_11_code
def yX4_doubles : MethodName := ⟨RX4, "doubles", "(I)Z"⟩
abbrev cX4_isFor : ByteArray := prog_6_method_12_code
def yX4_isFor : MethodName := ⟨RX4, "isFor", "(III)Z"⟩
abbrev cX4_has : ByteArray := prog_6_method_13_code
def yX4_has : MethodName := ⟨RX4, "has", "(II)Z"⟩
abbrev cX4_work : ByteArray := prog_6_method_14_code
def yX4_work : MethodName := ⟨RX4, "work", "(I[I)I"⟩
abbrev cX4_join : ByteArray := prog_6_method_15_code
def yX4_join : MethodName := ⟨RX4, "join", "(III)I"⟩
def RX5 : String := "KeepingHands$LawReader"
def TX5 : u_T := fun k => match k with
  | 0 => ("KeepingHands$LawReader", "place", "I", false)
  | 1 => ("KeepingHands$LawReader", "fault", "I", false)
  | 2 => ("KeepingHands$LawReader", "text", "[I", false)
  | 3 => ("KeepingHands$LawReader", "length", "I", false)
  | 4 => ("KeepingHands$LawReader", "law", "LKeepingHands$Law;", false)
  | 5 => ("KeepingHands$LawReader", "kind", "I", false)
  | 6 => ("KeepingHands$LawReader", "from", "I", false)
  | 7 => ("KeepingHands$LawReader", "to", "I", false)
  | 8 => ("KeepingHands$LawReader", "number", "I", false)
  | _ => ("KeepingHands$LawReader", "open", "I", false)
def tyX5 : Nat → FieldType := fun k => match k with
  | 0 => .int
  | 1 => .int
  | 2 => .array .int
  | 3 => .int
  | 4 => .object "KeepingHands$Law"
  | 5 => .int
  | 6 => .int
  | 7 => .int
  | 8 => .int
  | _ => .int
abbrev wsX50 : List Cond := u_ws RX5 TX5 10
theorem nmX5 : ∀ a, a < 10 → ∀ b, b < 10 → a ≠ b → (TX5 a).2.1 ≠ (TX5 b).2.1 := by decide +kernel
theorem tyX5_ok : ∀ k, k < 10 → parseFieldDescriptor (TX5 k).2.2.1 = some (tyX5 k) := by decide +kernel
abbrev cX5_init : ByteArray := prog_7_method_1_code
def yX5_init : MethodName := ⟨RX5, "<init>", "()V"⟩
abbrev cX5_readLaw : ByteArray := prog_7_method_2_code
def yX5_readLaw : MethodName := ⟨RX5, "readLaw", "([IILKeepingHands$Law;)I"⟩
abbrev cX5_readClause : ByteArray := prog_7_method_3_code
def yX5_readClause : MethodName := ⟨RX5, "readClause", "()Z"⟩
abbrev cX5_readMixing : ByteArray := prog_7_method_4_code
def yX5_readMixing : MethodName := ⟨RX5, "readMixing", "()Z"⟩
abbrev cX5_readHarms : ByteArray := prog_7_method_5_code
def yX5_readHarms : MethodName := ⟨RX5, "readHarms", "()Z"⟩
abbrev cX5_readHarm : ByteArray := prog_7_method_6_code
def yX5_readHarm : MethodName := ⟨RX5, "readHarm", "()Z"⟩
abbrev cX5_readTerms : ByteArray := prog_7_method_7_code
def yX5_readTerms : MethodName := ⟨RX5, "readTerms", "()Z"⟩
abbrev cX5_readTerm : ByteArray := prog_7_method_8_code
def yX5_readTerm : MethodName := ⟨RX5, "readTerm", "()Z"⟩
abbrev cX5_readEither : ByteArray := prog_7_method_9_code
def yX5_readEither : MethodName := ⟨RX5, "readEither", "()Z"⟩
abbrev cX5_readBoth : ByteArray := prog_7_method_10_code
def yX5_readBoth : MethodName := ⟨RX5, "readBoth", "()Z"⟩
abbrev cX5_readCondition : ByteArray := prog_7_method_11_code
def yX5_readCondition : MethodName := ⟨RX5, "readCondition", "()Z"⟩
abbrev cX5_readNot : ByteArray := prog_7_method_12_code
def yX5_readNot : MethodName := ⟨RX5, "readNot", "()Z"⟩
abbrev cX5_takeComparison : ByteArray := prog_7_method_13_code
def yX5_takeComparison : MethodName := ⟨RX5, "takeComparison", "()Z"⟩
abbrev cX5_readSum : ByteArray := prog_7_method_14_code
def yX5_readSum : MethodName := ⟨RX5, "readSum", "()Z"⟩
abbrev cX5_readProduct : ByteArray := prog_7_method_15_code
def yX5_readProduct : MethodName := ⟨RX5, "readProduct", "()Z"⟩
abbrev cX5_readUnit : ByteArray := prog_7_method_16_code
def yX5_readUnit : MethodName := ⟨RX5, "readUnit", "()Z"⟩
abbrev cX5_readNumber : ByteArray := prog_7_method_17_code
def yX5_readNumber : MethodName := ⟨RX5, "readNumber", "()Z"⟩
abbrev cX5_readChoice : ByteArray := prog_7_method_18_code
def yX5_readChoice : MethodName := ⟨RX5, "readChoice", "(I)Z"⟩
abbrev cX5_enter : ByteArray := prog_7_method_19_code
def yX5_enter : MethodName := ⟨RX5, "enter", "()Z"⟩
abbrev cX5_leave : ByteArray := prog_7_method_20_code
def yX5_leave : MethodName := ⟨RX5, "leave", "(I)Z"⟩
abbrev cX5_take : ByteArray := prog_7_method_21_code
def yX5_take : MethodName := ⟨RX5, "take", "(I)Z"⟩
abbrev cX5_takeWord : ByteArray := prog_7_method_22_code
def yX5_takeWord : MethodName := ⟨RX5, "takeWord", "(Ljava/lang/String;)Z"⟩
abbrev cX5_isNumber : ByteArray := prog_7_method_23_code
def yX5_isNumber : MethodName := ⟨RX5, "isNumber", "(II)Z"⟩
abbrev cX5_fail : ByteArray := prog_7_method_24_code
def yX5_fail : MethodName := ⟨RX5, "fail", "(I)Z"⟩
abbrev cX5_nextToken : ByteArray := prog_7_method_25_code
def yX5_nextToken : MethodName := ⟨RX5, "nextToken", "()V"⟩
abbrev cX5_isLetter : ByteArray := prog_7_method_26_code
def yX5_isLetter : MethodName := ⟨RX5, "isLetter", "(I)Z"⟩
abbrev cX5_isDigit : ByteArray := prog_7_method_27_code
def yX5_isDigit : MethodName := ⟨RX5, "isDigit", "(I)Z"⟩
abbrev cX5_isWord : ByteArray := prog_7_method_28_code
def yX5_isWord : MethodName := ⟨RX5, "isWord", "(Ljava/lang/String;)Z"⟩
abbrev cX5_wordOf : ByteArray := prog_7_method_29_code
def yX5_wordOf : MethodName := ⟨RX5, "wordOf", "(Ljava/lang/String;)I"⟩
abbrev cX5_isSame : ByteArray := prog_7_method_30_code
def yX5_isSame : MethodName := ⟨RX5, "isSame", "(Ljava/lang/String;II)Z"⟩
abbrev cX5_bitsOf : ByteArray := prog_7_method_31_code
def yX5_bitsOf : MethodName := ⟨RX5, "bitsOf", "(II)I"⟩
def RX6 : String := "KeepingHands$Question"
def TX6 : u_T := fun k => match k with
  | 0 => ("KeepingHands$Question", "sort", "I", false)
  | 1 => ("KeepingHands$Question", "hand", "I", false)
  | _ => ("KeepingHands$Question", "other", "I", false)
def tyX6 : Nat → FieldType := fun k => match k with
  | 0 => .int
  | 1 => .int
  | _ => .int
abbrev wsX60 : List Cond := u_ws RX6 TX6 3
theorem nmX6 : ∀ a, a < 3 → ∀ b, b < 3 → a ≠ b → (TX6 a).2.1 ≠ (TX6 b).2.1 := by decide +kernel
theorem tyX6_ok : ∀ k, k < 3 → parseFieldDescriptor (TX6 k).2.2.1 = some (tyX6 k) := by decide +kernel
abbrev cX6_init : ByteArray := prog_8_method_1_code
def yX6_init : MethodName := ⟨RX6, "<init>", "()V"⟩
abbrev cX6_setTo : ByteArray := prog_8_method_2_code
def yX6_setTo : MethodName := ⟨RX6, "setTo", "(LKeepingHands$Question;)V"⟩
def RX7 : String := "KeepingHands"
def TX7 : u_T := fun k => match k with
  | 0 => ("KeepingHands", "tape", "[I", true)
  | 1 => ("KeepingHands", "tapeLength", "I", false)
  | 2 => ("KeepingHands", "laws", "[LKeepingHands$Law;", true)
  | 3 => ("KeepingHands", "lawCount", "I", false)
  | 4 => ("KeepingHands", "noLaw", "LKeepingHands$Law;", true)
  | 5 => ("KeepingHands", "reader", "LKeepingHands$LawReader;", true)
  | 6 => ("KeepingHands", "faultPlace", "I", false)
  | 7 => ("KeepingHands", "names", "[I", true)
  | 8 => ("KeepingHands", "chain", "LKeepingHands$Chain;", true)
  | 9 => ("KeepingHands", "trial", "LKeepingHands$Chain;", true)
  | 10 => ("KeepingHands", "images", "[LKeepingHands$Chain;", true)
  | 11 => ("KeepingHands", "imageCount", "I", false)
  | 12 => ("KeepingHands", "end", "LKeepingHands$End;", true)
  | _ => ("KeepingHands", "caseBears", "[I", true)
def tyX7 : Nat → FieldType := fun k => match k with
  | 0 => .array .int
  | 1 => .int
  | 2 => .array (.object "KeepingHands$Law")
  | 3 => .int
  | 4 => .object "KeepingHands$Law"
  | 5 => .object "KeepingHands$LawReader"
  | 6 => .int
  | 7 => .array .int
  | 8 => .object "KeepingHands$Chain"
  | 9 => .object "KeepingHands$Chain"
  | 10 => .array (.object "KeepingHands$Chain")
  | 11 => .int
  | 12 => .object "KeepingHands$End"
  | _ => .array .int
abbrev wsX70 : List Cond := u_ws RX7 TX7 14
theorem nmX7 : ∀ a, a < 14 → ∀ b, b < 14 → a ≠ b → (TX7 a).2.1 ≠ (TX7 b).2.1 := by decide +kernel
theorem tyX7_ok : ∀ k, k < 14 → parseFieldDescriptor (TX7 k).2.2.1 = some (tyX7 k) := by decide +kernel
abbrev cX7_init : ByteArray := prog_1_method_1_code
def yX7_init : MethodName := ⟨RX7, "<init>", "()V"⟩
abbrev cX7_feed : ByteArray := prog_1_method_2_code
def yX7_feed : MethodName := ⟨RX7, "feed", "(IIIII)I"⟩
abbrev cX7_law : ByteArray := prog_1_method_3_code
def yX7_law : MethodName := ⟨RX7, "law", "(I)I"⟩
abbrev cX7_fault : ByteArray := prog_1_method_4_code
def yX7_fault : MethodName := ⟨RX7, "fault", "()I"⟩
abbrev cX7_force : ByteArray := prog_1_method_5_code
def yX7_force : MethodName := ⟨RX7, "force", "(I)I"⟩
abbrev cX7_words : ByteArray := prog_1_method_6_code
def yX7_words : MethodName := ⟨RX7, "words", "(IIIIII)I"⟩
abbrev cX7_lets : ByteArray := prog_1_method_7_code
def yX7_lets : MethodName := ⟨RX7, "lets", "(III)Z"⟩
abbrev cX7_pass : ByteArray := prog_1_method_8_code
def yX7_pass : MethodName := ⟨RX7, "pass", "(IIIIZ)I"⟩
abbrev cX7_hand : ByteArray := prog_1_method_9_code
def yX7_hand : MethodName := ⟨RX7, "hand", "(II)I"⟩
abbrev cX7_value : ByteArray := prog_1_method_10_code
def yX7_value : MethodName := ⟨RX7, "value", "(I)I"⟩
abbrev cX7_purse : ByteArray := prog_1_method_11_code
def yX7_purse : MethodName := ⟨RX7, "purse", "(II)I"⟩
abbrev cX7_fact : ByteArray := prog_1_method_12_code
def yX7_fact : MethodName := ⟨RX7, "fact", "(IIZ)Z"⟩
abbrev cX7_harm : ByteArray := prog_1_method_13_code
def yX7_harm : MethodName := ⟨RX7, "harm", "(II)I"⟩
abbrev cX7_holder : ByteArray := prog_1_method_14_code
def yX7_holder : MethodName := ⟨RX7, "holder", "()I"⟩
abbrev cX7_name : ByteArray := prog_1_method_15_code
def yX7_name : MethodName := ⟨RX7, "name", "(II)I"⟩
abbrev cX7_claim : ByteArray := prog_1_method_16_code
def yX7_claim : MethodName := ⟨RX7, "claim", "(I)I"⟩
abbrev cX7_whom : ByteArray := prog_1_method_17_code
def yX7_whom : MethodName := ⟨RX7, "whom", "(I)I"⟩
abbrev cX7_pays : ByteArray := prog_1_method_18_code
def yX7_pays : MethodName := ⟨RX7, "pays", "(I)I"⟩
abbrev cX7_bears : ByteArray := prog_1_method_19_code
def yX7_bears : MethodName := ⟨RX7, "bears", "(I)I"⟩
abbrev cX7_must : ByteArray := prog_1_method_20_code
def yX7_must : MethodName := ⟨RX7, "must", "(I)Z"⟩
abbrev cX7_frees : ByteArray := prog_1_method_21_code
def yX7_frees : MethodName := ⟨RX7, "frees", "(I)I"⟩
abbrev cX7_question : ByteArray := prog_1_method_22_code
def yX7_question : MethodName := ⟨RX7, "question", "(III)I"⟩
abbrev cX7_inCase : ByteArray := prog_1_method_23_code
def yX7_inCase : MethodName := ⟨RX7, "inCase", "(II)I"⟩
abbrev cX7_sure : ByteArray := prog_1_method_24_code
def yX7_sure : MethodName := ⟨RX7, "sure", "(I)I"⟩
abbrev cX7_cases : ByteArray := prog_1_method_25_code
def yX7_cases : MethodName := ⟨RX7, "cases", "(I)I"⟩
abbrev cX7_hangs : ByteArray := prog_1_method_26_code
def yX7_hangs : MethodName := ⟨RX7, "hangs", "(I)I"⟩
abbrev cX7_least : ByteArray := prog_1_method_27_code
def yX7_least : MethodName := ⟨RX7, "least", "()I"⟩
abbrev cX7_find : ByteArray := prog_1_method_28_code
def yX7_find : MethodName := ⟨RX7, "find", "(IZ)I"⟩
abbrev cX7_title : ByteArray := prog_1_method_29_code
def yX7_title : MethodName := ⟨RX7, "title", "()I"⟩
abbrev cX7_found : ByteArray := prog_1_method_30_code
def yX7_found : MethodName := ⟨RX7, "found", "(II)I"⟩
abbrev cX7_put : ByteArray := prog_1_method_31_code
def yX7_put : MethodName := ⟨RX7, "put", "(II)I"⟩
abbrev cX7_share : ByteArray := prog_1_method_32_code
def yX7_share : MethodName := ⟨RX7, "share", "(II)I"⟩
abbrev cX7_judge : ByteArray := prog_1_method_33_code
def yX7_judge : MethodName := ⟨RX7, "judge", "(II)I"⟩
abbrev cX7_wrong : ByteArray := prog_1_method_34_code
def yX7_wrong : MethodName := ⟨RX7, "wrong", "()I"⟩
abbrev cX7_parting : ByteArray := prog_1_method_35_code
def yX7_parting : MethodName := ⟨RX7, "parting", "(II)I"⟩
abbrev cX7_beside : ByteArray := prog_1_method_36_code
def yX7_beside : MethodName := ⟨RX7, "beside", "(II)I"⟩
abbrev cX7_image : ByteArray := prog_1_method_37_code
def yX7_image : MethodName := ⟨RX7, "image", "()I"⟩
abbrev cX7_restore : ByteArray := prog_1_method_38_code
def yX7_restore : MethodName := ⟨RX7, "restore", "()I"⟩
abbrev cX7_count : ByteArray := prog_1_method_39_code
def yX7_count : MethodName := ⟨RX7, "count", "(I)I"⟩
abbrev cX7_need : ByteArray := prog_1_method_40_code
def yX7_need : MethodName := ⟨RX7, "need", "(Z)V"⟩
abbrev cX7_needHand : ByteArray := prog_1_method_41_code
def yX7_needHand : MethodName := ⟨RX7, "needHand", "(I)V"⟩
abbrev cX7_isWithin : ByteArray := prog_1_method_42_code
def yX7_isWithin : MethodName := ⟨RX7, "isWithin", "(II)Z"⟩
abbrev cX7_isLaw : ByteArray := prog_1_method_43_code
def yX7_isLaw : MethodName := ⟨RX7, "isLaw", "(I)Z"⟩
abbrev cX7_lawInForce : ByteArray := prog_1_method_44_code
def yX7_lawInForce : MethodName := ⟨RX7, "lawInForce", "()LKeepingHands$Law;"⟩
abbrev cX7_layOnTape : ByteArray := prog_1_method_45_code
def yX7_layOnTape : MethodName := ⟨RX7, "layOnTape", "(I)V"⟩
abbrev cX7_keepingOfCase : ByteArray := prog_1_method_46_code
def yX7_keepingOfCase : MethodName := ⟨RX7, "keepingOfCase", "(I)I"⟩
abbrev cX7_harmOfCase : ByteArray := prog_1_method_47_code
def yX7_harmOfCase : MethodName := ⟨RX7, "harmOfCase", "(I)I"⟩
abbrev cX7_nameCase : ByteArray := prog_1_method_48_code
def yX7_nameCase : MethodName := ⟨RX7, "nameCase", "(IIII)V"⟩
abbrev cX7_allCases : ByteArray := prog_1_method_49_code
def yX7_allCases : MethodName := ⟨RX7, "allCases", "()I"⟩
abbrev cX7_reckonCases : ByteArray := prog_1_method_50_code
def yX7_reckonCases : MethodName := ⟨RX7, "reckonCases", "()V"⟩
abbrev cX7_isBurdened : ByteArray := prog_1_method_51_code
def yX7_isBurdened : MethodName := ⟨RX7, "isBurdened", "(II)Z"⟩
abbrev cX7_burdenedCases : ByteArray := prog_1_method_52_code
def yX7_burdenedCases : MethodName := ⟨RX7, "burdenedCases", "(I)I"⟩
abbrev cX7_casesLikeBit : ByteArray := prog_1_method_53_code
def yX7_casesLikeBit : MethodName := ⟨RX7, "casesLikeBit", "(II)I"⟩
abbrev cX7_matters : ByteArray := prog_1_method_54_code
def yX7_matters : MethodName := ⟨RX7, "matters", "(I)Z"⟩
abbrev cX7_areBorneAlike : ByteArray := prog_1_method_55_code
def yX7_areBorneAlike : MethodName := ⟨RX7, "areBorneAlike", "(II)Z"⟩
def RX8 : String := "KeepingHandsModel"
def TX8 : u_T := fun k => match k with
  | 0 => ("KeepingHandsModel", "thrown", "I", false)
  | 1 => ("KeepingHandsModel", "tape", "I", false)
  | 2 => ("KeepingHandsModel", "size", "I", false)
  | 3 => ("KeepingHandsModel", "place", "I", false)
  | 4 => ("KeepingHandsModel", "at", "I", false)
  | 5 => ("KeepingHandsModel", "open", "I", false)
  | 6 => ("KeepingHandsModel", "fault", "I", false)
  | 7 => ("KeepingHandsModel", "faultAt", "I", false)
  | 8 => ("KeepingHandsModel", "which", "I", false)
  | 9 => ("KeepingHandsModel", "fed", "[I", true)
  | 10 => ("KeepingHandsModel", "text", "[[I", true)
  | 11 => ("KeepingHandsModel", "textSize", "[I", true)
  | 12 => ("KeepingHandsModel", "laws", "I", false)
  | 13 => ("KeepingHandsModel", "inForce", "I", false)
  | 14 => ("KeepingHandsModel", "names", "[I", true)
  | 15 => ("KeepingHandsModel", "keeping", "I", false)
  | 16 => ("KeepingHandsModel", "harmAsked", "I", false)
  | 17 => ("KeepingHandsModel", "termAsked", "I", false)
  | 18 => ("KeepingHandsModel", "clauses", "I", false)
  | 19 => ("KeepingHandsModel", "owed", "I", false)
  | 20 => ("KeepingHandsModel", "mixed", "I", false)
  | 21 => ("KeepingHandsModel", "answers", "Z", false)
  | 22 => ("KeepingHandsModel", "swears", "Z", false)
  | 23 => ("KeepingHandsModel", "isOwed", "Z", false)
  | 24 => ("KeepingHandsModel", "isLet", "Z", false)
  | 25 => ("KeepingHandsModel", "isTwice", "Z", false)
  | 26 => ("KeepingHandsModel", "hands", "I", false)
  | 27 => ("KeepingHandsModel", "value", "I", false)
  | 28 => ("KeepingHandsModel", "harm", "I", false)
  | 29 => ("KeepingHandsModel", "harmDay", "I", false)
  | 30 => ("KeepingHandsModel", "hand", "[[I", true)
  | 31 => ("KeepingHandsModel", "purse", "[I", true)
  | 32 => ("KeepingHandsModel", "judged", "[I", true)
  | 33 => ("KeepingHandsModel", "fact", "[[Z", true)
  | 34 => ("KeepingHandsModel", "holder", "I", false)
  | 35 => ("KeepingHandsModel", "claim", "[I", true)
  | 36 => ("KeepingHandsModel", "whom", "[I", true)
  | 37 => ("KeepingHandsModel", "pays", "[I", true)
  | 38 => ("KeepingHandsModel", "gets", "[I", true)
  | 39 => ("KeepingHandsModel", "bears", "[I", true)
  | 40 => ("KeepingHandsModel", "byOath", "[Z", true)
  | 41 => ("KeepingHandsModel", "isTwiceOf", "[Z", true)
  | 42 => ("KeepingHandsModel", "nameOf", "[[I", true)
  | 43 => ("KeepingHandsModel", "questions", "I", false)
  | 44 => ("KeepingHandsModel", "question", "[[I", true)
  | 45 => ("KeepingHandsModel", "keptFact", "[[Z", true)
  | 46 => ("KeepingHandsModel", "keptHarm", "I", false)
  | 47 => ("KeepingHandsModel", "keptDay", "I", false)
  | 48 => ("KeepingHandsModel", "inCases", "[[I", true)
  | 49 => ("KeepingHandsModel", "puttings", "I", false)
  | 50 => ("KeepingHandsModel", "goods", "I", false)
  | 51 => ("KeepingHandsModel", "putting", "[[I", true)
  | 52 => ("KeepingHandsModel", "images", "I", false)
  | _ => ("KeepingHandsModel", "kept", "[[I", true)
def tyX8 : Nat → FieldType := fun k => match k with
  | 0 => .int
  | 1 => .int
  | 2 => .int
  | 3 => .int
  | 4 => .int
  | 5 => .int
  | 6 => .int
  | 7 => .int
  | 8 => .int
  | 9 => .array .int
  | 10 => .array (.array .int)
  | 11 => .array .int
  | 12 => .int
  | 13 => .int
  | 14 => .array .int
  | 15 => .int
  | 16 => .int
  | 17 => .int
  | 18 => .int
  | 19 => .int
  | 20 => .int
  | 21 => .boolean
  | 22 => .boolean
  | 23 => .boolean
  | 24 => .boolean
  | 25 => .boolean
  | 26 => .int
  | 27 => .int
  | 28 => .int
  | 29 => .int
  | 30 => .array (.array .int)
  | 31 => .array .int
  | 32 => .array .int
  | 33 => .array (.array .boolean)
  | 34 => .int
  | 35 => .array .int
  | 36 => .array .int
  | 37 => .array .int
  | 38 => .array .int
  | 39 => .array .int
  | 40 => .array .boolean
  | 41 => .array .boolean
  | 42 => .array (.array .int)
  | 43 => .int
  | 44 => .array (.array .int)
  | 45 => .array (.array .boolean)
  | 46 => .int
  | 47 => .int
  | 48 => .array (.array .int)
  | 49 => .int
  | 50 => .int
  | 51 => .array (.array .int)
  | 52 => .int
  | _ => .array (.array .int)
abbrev wsX80 : List Cond := u_ws RX8 TX8 54
theorem nmX8 : ∀ a, a < 54 → ∀ b, b < 54 → a ≠ b → (TX8 a).2.1 ≠ (TX8 b).2.1 := by decide +kernel
theorem tyX8_ok : ∀ k, k < 54 → parseFieldDescriptor (TX8 k).2.2.1 = some (tyX8 k) := by decide +kernel
abbrev cX8_init : ByteArray := prog_10_method_1_code
def yX8_init : MethodName := ⟨RX8, "<init>", "()V"⟩
abbrev cX8_thrown : ByteArray := prog_10_method_2_code
def yX8_thrown : MethodName := ⟨RX8, "thrown", "()I"⟩
abbrev cX8_bad : ByteArray := prog_10_method_3_code
def yX8_bad : MethodName := ⟨RX8, "bad", "(ZI)Z"⟩
abbrev cX8_in : ByteArray := prog_10_method_4_code
def yX8_in : MethodName := ⟨RX8, "in", "(III)Z"⟩
abbrev cX8_less : ByteArray := prog_10_method_5_code
def yX8_less : MethodName := ⟨RX8, "less", "(II)I"⟩
abbrev cX8_feed : ByteArray := prog_10_method_6_code
def yX8_feed : MethodName := ⟨RX8, "feed", "(IIIII)I"⟩
abbrev cX8_byteAt : ByteArray := prog_10_method_7_code
def yX8_byteAt : MethodName := ⟨RX8, "byteAt", "(I)I"⟩
abbrev cX8_blanks : ByteArray := prog_10_method_8_code
def yX8_blanks : MethodName := ⟨RX8, "blanks", "()V"⟩
abbrev cX8_wrongAt : ByteArray := prog_10_method_9_code
def yX8_wrongAt : MethodName := ⟨RX8, "wrongAt", "(II)V"⟩
abbrev cX8_isDigit : ByteArray := prog_10_method_10_code
def yX8_isDigit : MethodName := ⟨RX8, "isDigit", "(I)Z"⟩
abbrev cX8_number : ByteArray := prog_10_method_11_code
def yX8_number : MethodName := ⟨RX8, "number", "(II)I"⟩
abbrev cX8_wordHere : ByteArray := prog_10_method_12_code
def yX8_wordHere : MethodName := ⟨RX8, "wordHere", "()I"⟩
abbrev cX8_isAnswers : ByteArray := prog_10_method_13_code
def yX8_isAnswers : MethodName := ⟨RX8, "isAnswers", "()Z"⟩
abbrev cX8_word : ByteArray := prog_10_method_14_code
def yX8_word : MethodName := ⟨RX8, "word", "(IIIIII)I"⟩
abbrev cX8_isWord : ByteArray := prog_10_method_15_code
def yX8_isWord : MethodName := ⟨RX8, "isWord", "(IIIIII)Z"⟩
abbrev cX8_skipWord : ByteArray := prog_10_method_16_code
def yX8_skipWord : MethodName := ⟨RX8, "skipWord", "()V"⟩
abbrev cX8_sign : ByteArray := prog_10_method_17_code
def yX8_sign : MethodName := ⟨RX8, "sign", "(I)V"⟩
abbrev cX8_opens : ByteArray := prog_10_method_18_code
def yX8_opens : MethodName := ⟨RX8, "opens", "(I)V"⟩
abbrev cX8_nameHere : ByteArray := prog_10_method_19_code
def yX8_nameHere : MethodName := ⟨RX8, "nameHere", "()I"⟩
abbrev cX8_unit : ByteArray := prog_10_method_20_code
def yX8_unit : MethodName := ⟨RX8, "unit", "()I"⟩
abbrev cX8_product : ByteArray := prog_10_method_21_code
def yX8_product : MethodName := ⟨RX8, "product", "()I"⟩
abbrev cX8_sum : ByteArray := prog_10_method_22_code
def yX8_sum : MethodName := ⟨RX8, "sum", "()I"⟩
abbrev cX8_test : ByteArray := prog_10_method_23_code
def yX8_test : MethodName := ⟨RX8, "test", "()Z"⟩
abbrev cX8_ands : ByteArray := prog_10_method_24_code
def yX8_ands : MethodName := ⟨RX8, "ands", "()Z"⟩
abbrev cX8_ors : ByteArray := prog_10_method_25_code
def yX8_ors : MethodName := ⟨RX8, "ors", "()Z"⟩
abbrev cX8_keepingHere : ByteArray := prog_10_method_26_code
def yX8_keepingHere : MethodName := ⟨RX8, "keepingHere", "()I"⟩
abbrev cX8_harmHere : ByteArray := prog_10_method_27_code
def yX8_harmHere : MethodName := ⟨RX8, "harmHere", "()I"⟩
abbrev cX8_harms : ByteArray := prog_10_method_28_code
def yX8_harms : MethodName := ⟨RX8, "harms", "()Z"⟩
abbrev cX8_terms : ByteArray := prog_10_method_29_code
def yX8_terms : MethodName := ⟨RX8, "terms", "()Z"⟩
abbrev cX8_clause : ByteArray := prog_10_method_30_code
def yX8_clause : MethodName := ⟨RX8, "clause", "()V"⟩
abbrev cX8_mixes : ByteArray := prog_10_method_31_code
def yX8_mixes : MethodName := ⟨RX8, "mixes", "()V"⟩
abbrev cX8_says : ByteArray := prog_10_method_32_code
def yX8_says : MethodName := ⟨RX8, "says", "(Z)V"⟩
abbrev cX8_walks : ByteArray := prog_10_method_33_code
def yX8_walks : MethodName := ⟨RX8, "walks", "()V"⟩
abbrev cX8_law : ByteArray := prog_10_method_34_code
def yX8_law : MethodName := ⟨RX8, "law", "(I)I"⟩
abbrev cX8_fault : ByteArray := prog_10_method_35_code
def yX8_fault : MethodName := ⟨RX8, "fault", "()I"⟩
abbrev cX8_force : ByteArray := prog_10_method_36_code
def yX8_force : MethodName := ⟨RX8, "force", "(I)I"⟩
abbrev cX8_asks : ByteArray := prog_10_method_37_code
def yX8_asks : MethodName := ⟨RX8, "asks", "(IIII)V"⟩
abbrev cX8_tellsBits : ByteArray := prog_10_method_38_code
def yX8_tellsBits : MethodName := ⟨RX8, "tellsBits", "(I)V"⟩
abbrev cX8_words : ByteArray := prog_10_method_39_code
def yX8_words : MethodName := ⟨RX8, "words", "(IIIIII)I"⟩
abbrev cX8_lets : ByteArray := prog_10_method_40_code
def yX8_lets : MethodName := ⟨RX8, "lets", "(III)Z"⟩
abbrev cX8_pass : ByteArray := prog_10_method_41_code
def yX8_pass : MethodName := ⟨RX8, "pass", "(IIIIZ)I"⟩
abbrev cX8_isHand : ByteArray := prog_10_method_42_code
def yX8_isHand : MethodName := ⟨RX8, "isHand", "(I)Z"⟩
abbrev cX8_hand : ByteArray := prog_10_method_43_code
def yX8_hand : MethodName := ⟨RX8, "hand", "(II)I"⟩
abbrev cX8_value : ByteArray := prog_10_method_44_code
def yX8_value : MethodName := ⟨RX8, "value", "(I)I"⟩
abbrev cX8_purse : ByteArray := prog_10_method_45_code
def yX8_purse : MethodName := ⟨RX8, "purse", "(II)I"⟩
abbrev cX8_fact : ByteArray := prog_10_method_46_code
def yX8_fact : MethodName := ⟨RX8, "fact", "(IIZ)Z"⟩
abbrev cX8_harm : ByteArray := prog_10_method_47_code
def yX8_harm : MethodName := ⟨RX8, "harm", "(II)I"⟩
abbrev cX8_findHolder : ByteArray := prog_10_method_48_code
def yX8_findHolder : MethodName := ⟨RX8, "findHolder", "()V"⟩
abbrev cX8_hasPassed : ByteArray := prog_10_method_49_code
def yX8_hasPassed : MethodName := ⟨RX8, "hasPassed", "(I)Z"⟩
abbrev cX8_tellsNames : ByteArray := prog_10_method_50_code
def yX8_tellsNames : MethodName := ⟨RX8, "tellsNames", "(II)V"⟩
abbrev cX8_ends : ByteArray := prog_10_method_51_code
def yX8_ends : MethodName := ⟨RX8, "ends", "(I)V"⟩
abbrev cX8_holder : ByteArray := prog_10_method_52_code
def yX8_holder : MethodName := ⟨RX8, "holder", "()I"⟩
abbrev cX8_isWithin : ByteArray := prog_10_method_53_code
def yX8_isWithin : MethodName := ⟨RX8, "isWithin", "(I)Z"⟩
abbrev cX8_name : ByteArray := prog_10_method_54_code
def yX8_name : MethodName := ⟨RX8, "name", "(II)I"⟩
abbrev cX8_claim : ByteArray := prog_10_method_55_code
def yX8_claim : MethodName := ⟨RX8, "claim", "(I)I"⟩
abbrev cX8_whom : ByteArray := prog_10_method_56_code
def yX8_whom : MethodName := ⟨RX8, "whom", "(I)I"⟩
abbrev cX8_pays : ByteArray := prog_10_method_57_code
def yX8_pays : MethodName := ⟨RX8, "pays", "(I)I"⟩
abbrev cX8_bears : ByteArray := prog_10_method_58_code
def yX8_bears : MethodName := ⟨RX8, "bears", "(I)I"⟩
abbrev cX8_must : ByteArray := prog_10_method_59_code
def yX8_must : MethodName := ⟨RX8, "must", "(I)Z"⟩
abbrev cX8_frees : ByteArray := prog_10_method_60_code
def yX8_frees : MethodName := ⟨RX8, "frees", "(I)I"⟩
abbrev cX8_question : ByteArray := prog_10_method_61_code
def yX8_question : MethodName := ⟨RX8, "question", "(III)I"⟩
abbrev cX8_goesInto : ByteArray := prog_10_method_62_code
def yX8_goesInto : MethodName := ⟨RX8, "goesInto", "(I)V"⟩
abbrev cX8_comesBack : ByteArray := prog_10_method_63_code
def yX8_comesBack : MethodName := ⟨RX8, "comesBack", "()V"⟩
abbrev cX8_caseMany : ByteArray := prog_10_method_64_code
def yX8_caseMany : MethodName := ⟨RX8, "caseMany", "()I"⟩
abbrev cX8_findCases : ByteArray := prog_10_method_65_code
def yX8_findCases : MethodName := ⟨RX8, "findCases", "()V"⟩
abbrev cX8_inCase : ByteArray := prog_10_method_66_code
def yX8_inCase : MethodName := ⟨RX8, "inCase", "(II)I"⟩
abbrev cX8_casesOf : ByteArray := prog_10_method_67_code
def yX8_casesOf : MethodName := ⟨RX8, "casesOf", "(I)I"⟩
abbrev cX8_sure : ByteArray := prog_10_method_68_code
def yX8_sure : MethodName := ⟨RX8, "sure", "(I)I"⟩
abbrev cX8_cases : ByteArray := prog_10_method_69_code
def yX8_cases : MethodName := ⟨RX8, "cases", "(I)I"⟩
abbrev cX8_hangs : ByteArray := prog_10_method_70_code
def yX8_hangs : MethodName := ⟨RX8, "hangs", "(I)I"⟩
abbrev cX8_ones : ByteArray := prog_10_method_71_code
def yX8_ones : MethodName := ⟨RX8, "ones", "(I)I"⟩
abbrev cX8_areAlike : ByteArray := prog_10_method_72_code
def yX8_areAlike : MethodName := ⟨RX8, "areAlike", "(II)Z"⟩
abbrev cX8_settles : ByteArray := prog_10_method_73_code
def yX8_settles : MethodName := ⟨RX8, "settles", "(I)Z"⟩
abbrev cX8_least : ByteArray := prog_10_method_74_code
def yX8_least : MethodName := ⟨RX8, "least", "()I"⟩
abbrev cX8_find : ByteArray := prog_10_method_75_code
def yX8_find : MethodName := ⟨RX8, "find", "(IZ)I"⟩
abbrev cX8_titleNow : ByteArray := prog_10_method_76_code
def yX8_titleNow : MethodName := ⟨RX8, "titleNow", "()I"⟩
abbrev cX8_title : ByteArray := prog_10_method_77_code
def yX8_title : MethodName := ⟨RX8, "title", "()I"⟩
abbrev cX8_found : ByteArray := prog_10_method_78_code
def yX8_found : MethodName := ⟨RX8, "found", "(II)I"⟩
abbrev cX8_put : ByteArray := prog_10_method_79_code
def yX8_put : MethodName := ⟨RX8, "put", "(II)I"⟩
abbrev cX8_share : ByteArray := prog_10_method_80_code
def yX8_share : MethodName := ⟨RX8, "share", "(II)I"⟩
abbrev cX8_judge : ByteArray := prog_10_method_81_code
def yX8_judge : MethodName := ⟨RX8, "judge", "(II)I"⟩
abbrev cX8_wrong : ByteArray := prog_10_method_82_code
def yX8_wrong : MethodName := ⟨RX8, "wrong", "()I"⟩
abbrev cX8_claimIn : ByteArray := prog_10_method_83_code
def yX8_claimIn : MethodName := ⟨RX8, "claimIn", "(II)I"⟩
abbrev cX8_parting : ByteArray := prog_10_method_84_code
def yX8_parting : MethodName := ⟨RX8, "parting", "(II)I"⟩
abbrev cX8_beside : ByteArray := prog_10_method_85_code
def yX8_beside : MethodName := ⟨RX8, "beside", "(II)I"⟩
abbrev cX8_moves : ByteArray := prog_10_method_86_code
def yX8_moves : MethodName := ⟨RX8, "moves", "(IIIZ)I"⟩
abbrev cX8_movesAll : ByteArray := prog_10_method_87_code
def yX8_movesAll : MethodName := ⟨RX8, "movesAll", "(IZ)V"⟩
abbrev cX8_image : ByteArray := prog_10_method_88_code
def yX8_image : MethodName := ⟨RX8, "image", "()I"⟩
abbrev cX8_restore : ByteArray := prog_10_method_89_code
def yX8_restore : MethodName := ⟨RX8, "restore", "()I"⟩
abbrev cX8_count : ByteArray := prog_10_method_90_code
def yX8_count : MethodName := ⟨RX8, "count", "(I)I"⟩
def RJx145de : String := "java/io/Serializable"
def TJx145de : u_T := fun k => match k with
  | _ => ("", "", "", false)
def tyJx145de : Nat → FieldType := fun k => match k with
  | _ => .int
abbrev wsJx145de0 : List Cond := u_ws RJx145de TJx145de 0
theorem nmJx145de : ∀ a, a < 0 → ∀ b, b < 0 → a ≠ b → (TJx145de a).2.1 ≠ (TJx145de b).2.1 := by decide +kernel
theorem tyJx145de_ok : ∀ k, k < 0 → parseFieldDescriptor (TJx145de k).2.2.1 = some (tyJx145de k) := by decide +kernel
def RJx9f9b0 : String := "java/lang/CharSequence"
def TJx9f9b0 : u_T := fun k => match k with
  | _ => ("", "", "", false)
def tyJx9f9b0 : Nat → FieldType := fun k => match k with
  | _ => .int
abbrev wsJx9f9b00 : List Cond := u_ws RJx9f9b0 TJx9f9b0 0
theorem nmJx9f9b0 : ∀ a, a < 0 → ∀ b, b < 0 → a ≠ b → (TJx9f9b0 a).2.1 ≠ (TJx9f9b0 b).2.1 := by decide +kernel
theorem tyJx9f9b0_ok : ∀ k, k < 0 → parseFieldDescriptor (TJx9f9b0 k).2.2.1 = some (tyJx9f9b0 k) := by decide +kernel
def RJxb160c : String := "java/lang/Comparable"
def TJxb160c : u_T := fun k => match k with
  | _ => ("", "", "", false)
def tyJxb160c : Nat → FieldType := fun k => match k with
  | _ => .int
abbrev wsJxb160c0 : List Cond := u_ws RJxb160c TJxb160c 0
theorem nmJxb160c : ∀ a, a < 0 → ∀ b, b < 0 → a ≠ b → (TJxb160c a).2.1 ≠ (TJxb160c b).2.1 := by decide +kernel
theorem tyJxb160c_ok : ∀ k, k < 0 → parseFieldDescriptor (TJxb160c k).2.2.1 = some (tyJxb160c k) := by decide +kernel
def RJ9 : String := "java/lang/Math"
def TJ9 : u_T := fun k => match k with
  | _ => ("", "", "", false)
def tyJ9 : Nat → FieldType := fun k => match k with
  | _ => .int
abbrev wsJ90 : List Cond := u_ws RJ9 TJ9 0
theorem nmJ9 : ∀ a, a < 0 → ∀ b, b < 0 → a ≠ b → (TJ9 a).2.1 ≠ (TJ9 b).2.1 := by decide +kernel
theorem tyJ9_ok : ∀ k, k < 0 → parseFieldDescriptor (TJ9 k).2.2.1 = some (tyJ9 k) := by decide +kernel
abbrev cJ9_max_7cf53 : ByteArray := prog_16_method_65_code
def yJ9_max_7cf53 : MethodName := ⟨RJ9, "max", "(II)I"⟩
abbrev cJ9_min_7cf53 : ByteArray := prog_16_method_69_code
def yJ9_min_7cf53 : MethodName := ⟨RJ9, "min", "(II)I"⟩
def RJ0 : String := "java/lang/String"
def TJ0 : u_T := fun k => match k with
  | _ => ("", "", "", false)
def tyJ0 : Nat → FieldType := fun k => match k with
  | _ => .int
abbrev wsJ00 : List Cond := u_ws RJ0 TJ0 0
theorem nmJ0 : ∀ a, a < 0 → ∀ b, b < 0 → a ≠ b → (TJ0 a).2.1 ≠ (TJ0 b).2.1 := by decide +kernel
theorem tyJ0_ok : ∀ k, k < 0 → parseFieldDescriptor (TJ0 k).2.2.1 = some (tyJ0 k) := by decide +kernel
abbrev cJ0_length_8abf5 : ByteArray := prog_18_method_54_code
def yJ0_length_8abf5 : MethodName := ⟨RJ0, "length", "()I"⟩
abbrev cJ0_charAt_5068e : ByteArray := prog_18_method_56_code
def yJ0_charAt_5068e : MethodName := ⟨RJ0, "charAt", "(I)C"⟩
abbrev cJ0_coder_7d493 : ByteArray := prog_18_method_152_code
def yJ0_coder_7d493 : MethodName := ⟨RJ0, "coder", "()B"⟩
abbrev cJ0_isLatin1_aae02 : ByteArray := prog_18_method_154_code
def yJ0_isLatin1_aae02 : MethodName := ⟨RJ0, "isLatin1", "()Z"⟩
abbrev cJ0_checkIndex_df160 : ByteArray := prog_18_method_155_code
def yJ0_checkIndex_df160 : MethodName := ⟨RJ0, "checkIndex", "(II)V"⟩
def RJ1 : String := "java/lang/StringLatin1"
def TJ1 : u_T := fun k => match k with
  | _ => ("", "", "", false)
def tyJ1 : Nat → FieldType := fun k => match k with
  | _ => .int
abbrev wsJ10 : List Cond := u_ws RJ1 TJ1 0
theorem nmJ1 : ∀ a, a < 0 → ∀ b, b < 0 → a ≠ b → (TJ1 a).2.1 ≠ (TJ1 b).2.1 := by decide +kernel
theorem tyJ1_ok : ∀ k, k < 0 → parseFieldDescriptor (TJ1 k).2.2.1 = some (tyJ1 k) := by decide +kernel
abbrev cJ1_charAt_3b067 : ByteArray := prog_19_method_2_code
def yJ1_charAt_3b067 : MethodName := ⟨RJ1, "charAt", "([BI)C"⟩
def RJ2 : String := "java/lang/StringUTF16"
def TJ2 : u_T := fun k => match k with
  | _ => ("", "", "", false)
def tyJ2 : Nat → FieldType := fun k => match k with
  | _ => .int
abbrev wsJ20 : List Cond := u_ws RJ2 TJ2 0
theorem nmJ2 : ∀ a, a < 0 → ∀ b, b < 0 → a ≠ b → (TJ2 a).2.1 ≠ (TJ2 b).2.1 := by decide +kernel
theorem tyJ2_ok : ∀ k, k < 0 → parseFieldDescriptor (TJ2 k).2.2.1 = some (tyJ2 k) := by decide +kernel
abbrev cJ2_getChar_3b067 : ByteArray := prog_20_method_5_code
def yJ2_getChar_3b067 : MethodName := ⟨RJ2, "getChar", "([BI)C"⟩
abbrev cJ2_length_9d52b : ByteArray := prog_20_method_6_code
def yJ2_length_9d52b : MethodName := ⟨RJ2, "length", "([B)I"⟩
abbrev cJ2_charAt_3b067 : ByteArray := prog_20_method_83_code
def yJ2_charAt_3b067 : MethodName := ⟨RJ2, "charAt", "([BI)C"⟩
abbrev cJ2_checkIndex_2214a : ByteArray := prog_20_method_91_code
def yJ2_checkIndex_2214a : MethodName := ⟨RJ2, "checkIndex", "(I[B)V"⟩
def RJ10 : String := "java/lang/System"
def TJ10 : u_T := fun k => match k with
  | _ => ("", "", "", false)
def tyJ10 : Nat → FieldType := fun k => match k with
  | _ => .int
abbrev wsJ100 : List Cond := u_ws RJ10 TJ10 0
theorem nmJ10 : ∀ a, a < 0 → ∀ b, b < 0 → a ≠ b → (TJ10 a).2.1 ≠ (TJ10 b).2.1 := by decide +kernel
theorem tyJ10_ok : ∀ k, k < 0 → parseFieldDescriptor (TJ10 k).2.2.1 = some (tyJ10 k) := by decide +kernel
def RJxfd54e : String := "java/lang/constant/Constable"
def TJxfd54e : u_T := fun k => match k with
  | _ => ("", "", "", false)
def tyJxfd54e : Nat → FieldType := fun k => match k with
  | _ => .int
abbrev wsJxfd54e0 : List Cond := u_ws RJxfd54e TJxfd54e 0
theorem nmJxfd54e : ∀ a, a < 0 → ∀ b, b < 0 → a ≠ b → (TJxfd54e a).2.1 ≠ (TJxfd54e b).2.1 := by decide +kernel
theorem tyJxfd54e_ok : ∀ k, k < 0 → parseFieldDescriptor (TJxfd54e k).2.2.1 = some (tyJxfd54e k) := by decide +kernel
def RJx3cf43 : String := "java/lang/constant/ConstantDesc"
def TJx3cf43 : u_T := fun k => match k with
  | _ => ("", "", "", false)
def tyJx3cf43 : Nat → FieldType := fun k => match k with
  | _ => .int
abbrev wsJx3cf430 : List Cond := u_ws RJx3cf43 TJx3cf43 0
theorem nmJx3cf43 : ∀ a, a < 0 → ∀ b, b < 0 → a ≠ b → (TJx3cf43 a).2.1 ≠ (TJx3cf43 b).2.1 := by decide +kernel
theorem tyJx3cf43_ok : ∀ k, k < 0 → parseFieldDescriptor (TJx3cf43 k).2.2.1 = some (tyJx3cf43 k) := by decide +kernel
def RJ3 : String := "jdk/internal/util/Preconditions"
def TJ3 : u_T := fun k => match k with
  | _ => ("", "", "", false)
def tyJ3 : Nat → FieldType := fun k => match k with
  | _ => .int
abbrev wsJ30 : List Cond := u_ws RJ3 TJ3 0
theorem nmJ3 : ∀ a, a < 0 → ∀ b, b < 0 → a ≠ b → (TJ3 a).2.1 ≠ (TJ3 b).2.1 := by decide +kernel
theorem tyJ3_ok : ∀ k, k < 0 → parseFieldDescriptor (TJ3 k).2.2.1 = some (tyJ3 k) := by decide +kernel
abbrev cJ3_checkIndex_8e157 : ByteArray := prog_26_method_11_code
def yJ3_checkIndex_8e157 : MethodName := ⟨RJ3, "checkIndex", "(IILjava/util/function/BiFunction;)I"⟩
def RL : String := "KeepingHandsLaw"
abbrev cL_law : ByteArray := method_3_code
def yL_law : MethodName := ⟨RL, "law", "(LKeepingHands;I[J)I"⟩
abbrev cL_force : ByteArray := method_4_code
def yL_force : MethodName := ⟨RL, "force", "(LKeepingHands;I[J)I"⟩
abbrev cL_words : ByteArray := method_5_code
def yL_words : MethodName := ⟨RL, "words", "(LKeepingHands;IIIIII[J)I"⟩
abbrev cL_lets : ByteArray := method_6_code
def yL_lets : MethodName := ⟨RL, "lets", "(LKeepingHands;III[J)I"⟩
abbrev cL_pass : ByteArray := method_7_code
def yL_pass : MethodName := ⟨RL, "pass", "(LKeepingHands;IIIIZ[J)I"⟩
abbrev cL_hand : ByteArray := method_8_code
def yL_hand : MethodName := ⟨RL, "hand", "(LKeepingHands;II[J)I"⟩
abbrev cL_value : ByteArray := method_9_code
def yL_value : MethodName := ⟨RL, "value", "(LKeepingHands;I[J)I"⟩
abbrev cL_purse : ByteArray := method_10_code
def yL_purse : MethodName := ⟨RL, "purse", "(LKeepingHands;II[J)I"⟩
abbrev cL_fact : ByteArray := method_11_code
def yL_fact : MethodName := ⟨RL, "fact", "(LKeepingHands;IIZ[J)I"⟩
abbrev cL_harm : ByteArray := method_12_code
def yL_harm : MethodName := ⟨RL, "harm", "(LKeepingHands;II[J)I"⟩
abbrev cL_name : ByteArray := method_13_code
def yL_name : MethodName := ⟨RL, "name", "(LKeepingHands;II[J)I"⟩
abbrev cL_claim : ByteArray := method_14_code
def yL_claim : MethodName := ⟨RL, "claim", "(LKeepingHands;I[J)I"⟩
abbrev cL_whom : ByteArray := method_15_code
def yL_whom : MethodName := ⟨RL, "whom", "(LKeepingHands;I[J)I"⟩
abbrev cL_pays : ByteArray := method_16_code
def yL_pays : MethodName := ⟨RL, "pays", "(LKeepingHands;I[J)I"⟩
abbrev cL_bears : ByteArray := method_17_code
def yL_bears : MethodName := ⟨RL, "bears", "(LKeepingHands;I[J)I"⟩
abbrev cL_must : ByteArray := method_18_code
def yL_must : MethodName := ⟨RL, "must", "(LKeepingHands;I[J)I"⟩
abbrev cL_frees : ByteArray := method_19_code
def yL_frees : MethodName := ⟨RL, "frees", "(LKeepingHands;I[J)I"⟩
abbrev cL_question : ByteArray := method_20_code
def yL_question : MethodName := ⟨RL, "question", "(LKeepingHands;III[J)I"⟩
abbrev cL_inCase : ByteArray := method_21_code
def yL_inCase : MethodName := ⟨RL, "inCase", "(LKeepingHands;II[J)I"⟩
abbrev cL_sure : ByteArray := method_22_code
def yL_sure : MethodName := ⟨RL, "sure", "(LKeepingHands;I[J)I"⟩
abbrev cL_cases : ByteArray := method_23_code
def yL_cases : MethodName := ⟨RL, "cases", "(LKeepingHands;I[J)I"⟩
abbrev cL_hangs : ByteArray := method_24_code
def yL_hangs : MethodName := ⟨RL, "hangs", "(LKeepingHands;I[J)I"⟩
abbrev cL_find : ByteArray := method_25_code
def yL_find : MethodName := ⟨RL, "find", "(LKeepingHands;IZ[J)I"⟩
abbrev cL_found : ByteArray := method_26_code
def yL_found : MethodName := ⟨RL, "found", "(LKeepingHands;II[J)I"⟩
abbrev cL_put : ByteArray := method_27_code
def yL_put : MethodName := ⟨RL, "put", "(LKeepingHands;II[J)I"⟩
abbrev cL_share : ByteArray := method_28_code
def yL_share : MethodName := ⟨RL, "share", "(LKeepingHands;II[J)I"⟩
abbrev cL_judge : ByteArray := method_29_code
def yL_judge : MethodName := ⟨RL, "judge", "(LKeepingHands;II[J)I"⟩
abbrev cL_parting : ByteArray := method_30_code
def yL_parting : MethodName := ⟨RL, "parting", "(LKeepingHands;II[J)I"⟩
abbrev cL_beside : ByteArray := method_31_code
def yL_beside : MethodName := ⟨RL, "beside", "(LKeepingHands;II[J)I"⟩
abbrev cL_law_ : ByteArray := code
def yL_law_ : MethodName := ⟨RL, "law", "([I)Z"⟩
abbrev vwCl : List vw_C := [(RX0, TX0, 9), (RX1, TX1, 8), (RX2, TX2, 3), (RX3, TX3, 8), (RX4, TX4, 10), (RX5, TX5, 10), (RX6, TX6, 3), (RX7, TX7, 14), (RX8, TX8, 54)]
