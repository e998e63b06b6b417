section
-- ===== PART A: goes FIRST, ahead of the names: the tables' words, and 'selects' of the private methods out of them =====
/-- a private method of a class that the tables say can be made, by its rows of tables_1 -/
def lw_okq (q : MethodName × Nat) : Prop := (q.1.cls ≠ "java/lang/invoke/MethodHandle" ∧ q.1.cls ≠ "java/lang/invoke/VarHandle") ∧ Cond.instantiable q.1.cls q.2 ∈ tables_1 ∧ Cond.privateMethod q.1 ∈ tables_1 ∧ Cond.instanceMethod q.1 ∈ tables_1
theorem lw_p0 : lw_okq (⟨"GroundPlan", "endLaying", "()V"⟩, 10) := ⟨⟨by decide +kernel, by decide +kernel⟩, List.mem_of_getElem? (i := 20) (by decide +kernel), List.mem_of_getElem? (i := 347) (by decide +kernel), List.mem_of_getElem? (i := 348) (by decide +kernel)⟩
theorem lw_p1 : lw_okq (⟨"GroundPlan$Ground", "setSides", "(LGroundPlan$Blocks;I)V"⟩, 7) := ⟨⟨by decide +kernel, by decide +kernel⟩, List.mem_of_getElem? (i := 61) (by decide +kernel), List.mem_of_getElem? (i := 384) (by decide +kernel), List.mem_of_getElem? (i := 385) (by decide +kernel)⟩
theorem lw_p2 : lw_okq (⟨"GroundPlan", "layOut", "(LGroundPlan$Telling;II)V"⟩, 10) := ⟨⟨by decide +kernel, by decide +kernel⟩, List.mem_of_getElem? (i := 20) (by decide +kernel), List.mem_of_getElem? (i := 410) (by decide +kernel), List.mem_of_getElem? (i := 411) (by decide +kernel)⟩
theorem lw_p3 : lw_okq (⟨"GroundPlan$Kin", "topUnder", "(LGroundPlan$Ground;II)I"⟩, 6) := ⟨⟨by decide +kernel, by decide +kernel⟩, List.mem_of_getElem? (i := 171) (by decide +kernel), List.mem_of_getElem? (i := 421) (by decide +kernel), List.mem_of_getElem? (i := 422) (by decide +kernel)⟩
theorem lw_p4 : lw_okq (⟨"GroundPlan$Row", "join", "(LGroundPlan$Ground;II)V"⟩, 6) := ⟨⟨by decide +kernel, by decide +kernel⟩, List.mem_of_getElem? (i := 140) (by decide +kernel), List.mem_of_getElem? (i := 439) (by decide +kernel), List.mem_of_getElem? (i := 440) (by decide +kernel)⟩
theorem lw_p5 : lw_okq (⟨"GroundPlan$Ground", "doClash", "(II)Z"⟩, 7) := ⟨⟨by decide +kernel, by decide +kernel⟩, List.mem_of_getElem? (i := 61) (by decide +kernel), List.mem_of_getElem? (i := 490) (by decide +kernel), List.mem_of_getElem? (i := 491) (by decide +kernel)⟩
theorem lw_p6 : lw_okq (⟨"GroundPlan$Orders", "noteAheadInOne", "(LGroundPlan$Ground;)V"⟩, 6) := ⟨⟨by decide +kernel, by decide +kernel⟩, List.mem_of_getElem? (i := 107) (by decide +kernel), List.mem_of_getElem? (i := 503) (by decide +kernel), List.mem_of_getElem? (i := 504) (by decide +kernel)⟩
theorem lw_p7 : lw_okq (⟨"GroundPlan$Orders", "sortOut", "([I)V"⟩, 6) := ⟨⟨by decide +kernel, by decide +kernel⟩, List.mem_of_getElem? (i := 107) (by decide +kernel), List.mem_of_getElem? (i := 509) (by decide +kernel), List.mem_of_getElem? (i := 510) (by decide +kernel)⟩
theorem lw_p8 : lw_okq (⟨"GroundPlan$Orders", "firstFree", "(I)I"⟩, 6) := ⟨⟨by decide +kernel, by decide +kernel⟩, List.mem_of_getElem? (i := 107) (by decide +kernel), List.mem_of_getElem? (i := 513) (by decide +kernel), List.mem_of_getElem? (i := 514) (by decide +kernel)⟩
theorem lw_p9 : lw_okq (⟨"GroundPlan$Orders", "nthOf", "(II)I"⟩, 6) := ⟨⟨by decide +kernel, by decide +kernel⟩, List.mem_of_getElem? (i := 107) (by decide +kernel), List.mem_of_getElem? (i := 518) (by decide +kernel), List.mem_of_getElem? (i := 519) (by decide +kernel)⟩
theorem lw_p10 : lw_okq (⟨"GroundPlan$Orders", "noteAheadInTwo", "(LGroundPlan$Ground;)V"⟩, 6) := ⟨⟨by decide +kernel, by decide +kernel⟩, List.mem_of_getElem? (i := 107) (by decide +kernel), List.mem_of_getElem? (i := 522) (by decide +kernel), List.mem_of_getElem? (i := 523) (by decide +kernel)⟩
theorem lw_p11 : lw_okq (⟨"GroundPlan$Orders", "fill", "([IJ)V"⟩, 6) := ⟨⟨by decide +kernel, by decide +kernel⟩, List.mem_of_getElem? (i := 107) (by decide +kernel), List.mem_of_getElem? (i := 555) (by decide +kernel), List.mem_of_getElem? (i := 556) (by decide +kernel)⟩
theorem lw_p12 : lw_okq (⟨"GroundPlan", "needBlock", "(I)V"⟩, 10) := ⟨⟨by decide +kernel, by decide +kernel⟩, List.mem_of_getElem? (i := 20) (by decide +kernel), List.mem_of_getElem? (i := 567) (by decide +kernel), List.mem_of_getElem? (i := 568) (by decide +kernel)⟩
theorem lw_p13 : lw_okq (⟨"java/lang/Throwable", "fillInStackTrace", "(I)Ljava/lang/Throwable;"⟩, 6) := ⟨⟨by decide +kernel, by decide +kernel⟩, List.mem_of_getElem? (i := 607) (by decide +kernel), List.mem_of_getElem? (i := 605) (by decide +kernel), List.mem_of_getElem? (i := 606) (by decide +kernel)⟩
theorem lw_p14 : lw_okq (⟨"GroundPlan", "needLaying", "()V"⟩, 10) := ⟨⟨by decide +kernel, by decide +kernel⟩, List.mem_of_getElem? (i := 20) (by decide +kernel), List.mem_of_getElem? (i := 674) (by decide +kernel), List.mem_of_getElem? (i := 675) (by decide +kernel)⟩
theorem lw_p15 : lw_okq (⟨"GroundPlan$Ground", "reach", "([I[I)I"⟩, 7) := ⟨⟨by decide +kernel, by decide +kernel⟩, List.mem_of_getElem? (i := 61) (by decide +kernel), List.mem_of_getElem? (i := 683) (by decide +kernel), List.mem_of_getElem? (i := 684) (by decide +kernel)⟩
def lw_privs_1 : List (MethodName × Nat) := [(⟨"GroundPlan", "endLaying", "()V"⟩, 10), (⟨"GroundPlan$Ground", "setSides", "(LGroundPlan$Blocks;I)V"⟩, 7), (⟨"GroundPlan", "layOut", "(LGroundPlan$Telling;II)V"⟩, 10), (⟨"GroundPlan$Kin", "topUnder", "(LGroundPlan$Ground;II)I"⟩, 6), (⟨"GroundPlan$Row", "join", "(LGroundPlan$Ground;II)V"⟩, 6), (⟨"GroundPlan$Ground", "doClash", "(II)Z"⟩, 7), (⟨"GroundPlan$Orders", "noteAheadInOne", "(LGroundPlan$Ground;)V"⟩, 6), (⟨"GroundPlan$Orders", "sortOut", "([I)V"⟩, 6), (⟨"GroundPlan$Orders", "firstFree", "(I)I"⟩, 6), (⟨"GroundPlan$Orders", "nthOf", "(II)I"⟩, 6), (⟨"GroundPlan$Orders", "noteAheadInTwo", "(LGroundPlan$Ground;)V"⟩, 6), (⟨"GroundPlan$Orders", "fill", "([IJ)V"⟩, 6), (⟨"GroundPlan", "needBlock", "(I)V"⟩, 10), (⟨"java/lang/Throwable", "fillInStackTrace", "(I)Ljava/lang/Throwable;"⟩, 6), (⟨"GroundPlan", "needLaying", "()V"⟩, 10), (⟨"GroundPlan$Ground", "reach", "([I[I)I"⟩, 7)]
theorem lw_r1 : ∀ q ∈ lw_privs_1, lw_okq q := List.forall_mem_cons.mpr ⟨lw_p0, List.forall_mem_cons.mpr ⟨lw_p1, List.forall_mem_cons.mpr ⟨lw_p2, List.forall_mem_cons.mpr ⟨lw_p3, List.forall_mem_cons.mpr ⟨lw_p4, List.forall_mem_cons.mpr ⟨lw_p5, List.forall_mem_cons.mpr ⟨lw_p6, List.forall_mem_cons.mpr ⟨lw_p7, List.forall_mem_cons.mpr ⟨lw_p8, List.forall_mem_cons.mpr ⟨lw_p9, List.forall_mem_cons.mpr ⟨lw_p10, List.forall_mem_cons.mpr ⟨lw_p11, List.forall_mem_cons.mpr ⟨lw_p12, List.forall_mem_cons.mpr ⟨lw_p13, List.forall_mem_cons.mpr ⟨lw_p14, List.forall_mem_cons.mpr ⟨lw_p15, fun _ h => absurd h List.not_mem_nil⟩⟩⟩⟩⟩⟩⟩⟩⟩⟩⟩⟩⟩⟩⟩⟩
theorem lw_p16 : lw_okq (⟨"GroundPlan", "needKind", "(I)V"⟩, 10) := ⟨⟨by decide +kernel, by decide +kernel⟩, List.mem_of_getElem? (i := 20) (by decide +kernel), List.mem_of_getElem? (i := 722) (by decide +kernel), List.mem_of_getElem? (i := 723) (by decide +kernel)⟩
theorem lw_p17 : lw_okq (⟨"GroundPlan$Orders", "measureChains", "([IZ)V"⟩, 6) := ⟨⟨by decide +kernel, by decide +kernel⟩, List.mem_of_getElem? (i := 107) (by decide +kernel), List.mem_of_getElem? (i := 743) (by decide +kernel), List.mem_of_getElem? (i := 744) (by decide +kernel)⟩
theorem lw_p18 : lw_okq (⟨"GroundPlan$Ground", "span", "(I[I[I)I"⟩, 7) := ⟨⟨by decide +kernel, by decide +kernel⟩, List.mem_of_getElem? (i := 61) (by decide +kernel), List.mem_of_getElem? (i := 766) (by decide +kernel), List.mem_of_getElem? (i := 767) (by decide +kernel)⟩
theorem lw_p19 : lw_okq (⟨"GroundPlan$Ground", "partOf", "(I)I"⟩, 7) := ⟨⟨by decide +kernel, by decide +kernel⟩, List.mem_of_getElem? (i := 61) (by decide +kernel), List.mem_of_getElem? (i := 785) (by decide +kernel), List.mem_of_getElem? (i := 786) (by decide +kernel)⟩
theorem lw_p20 : lw_okq (⟨"GroundPlan$Ground", "partAt", "(I[I[II)I"⟩, 7) := ⟨⟨by decide +kernel, by decide +kernel⟩, List.mem_of_getElem? (i := 61) (by decide +kernel), List.mem_of_getElem? (i := 789) (by decide +kernel), List.mem_of_getElem? (i := 790) (by decide +kernel)⟩
theorem lw_p21 : lw_okq (⟨"GroundPlan$Row", "firstTwice", "()I"⟩, 6) := ⟨⟨by decide +kernel, by decide +kernel⟩, List.mem_of_getElem? (i := 140) (by decide +kernel), List.mem_of_getElem? (i := 807) (by decide +kernel), List.mem_of_getElem? (i := 808) (by decide +kernel)⟩
theorem lw_p22 : lw_okq (⟨"GroundPlan$Row", "startOfPart", "(I)I"⟩, 6) := ⟨⟨by decide +kernel, by decide +kernel⟩, List.mem_of_getElem? (i := 140) (by decide +kernel), List.mem_of_getElem? (i := 811) (by decide +kernel), List.mem_of_getElem? (i := 812) (by decide +kernel)⟩
theorem lw_p23 : lw_okq (⟨"GroundPlan$Row", "moveForward", "(II)V"⟩, 6) := ⟨⟨by decide +kernel, by decide +kernel⟩, List.mem_of_getElem? (i := 140) (by decide +kernel), List.mem_of_getElem? (i := 815) (by decide +kernel), List.mem_of_getElem? (i := 816) (by decide +kernel)⟩
theorem lw_p24 : lw_okq (⟨"GroundPlan$Row", "countChanged", "()I"⟩, 6) := ⟨⟨by decide +kernel, by decide +kernel⟩, List.mem_of_getElem? (i := 140) (by decide +kernel), List.mem_of_getElem? (i := 819) (by decide +kernel), List.mem_of_getElem? (i := 820) (by decide +kernel)⟩
theorem lw_p25 : lw_okq (⟨"GroundPlan$Outline", "addBlock", "(IIII)V"⟩, 6) := ⟨⟨by decide +kernel, by decide +kernel⟩, List.mem_of_getElem? (i := 203) (by decide +kernel), List.mem_of_getElem? (i := 835) (by decide +kernel), List.mem_of_getElem? (i := 836) (by decide +kernel)⟩
theorem lw_p26 : lw_okq (⟨"GroundPlan$Outline", "addShape", "(II)V"⟩, 6) := ⟨⟨by decide +kernel, by decide +kernel⟩, List.mem_of_getElem? (i := 203) (by decide +kernel), List.mem_of_getElem? (i := 841) (by decide +kernel), List.mem_of_getElem? (i := 842) (by decide +kernel)⟩
theorem lw_p27 : lw_okq (⟨"GroundPlan$Outline", "joinBeside", "(II)I"⟩, 6) := ⟨⟨by decide +kernel, by decide +kernel⟩, List.mem_of_getElem? (i := 203) (by decide +kernel), List.mem_of_getElem? (i := 845) (by decide +kernel), List.mem_of_getElem? (i := 846) (by decide +kernel)⟩
theorem lw_p28 : lw_okq (⟨"GroundPlan$Outline", "takeJoined", "(II)V"⟩, 6) := ⟨⟨by decide +kernel, by decide +kernel⟩, List.mem_of_getElem? (i := 203) (by decide +kernel), List.mem_of_getElem? (i := 849) (by decide +kernel), List.mem_of_getElem? (i := 850) (by decide +kernel)⟩
theorem lw_p29 : lw_okq (⟨"GroundPlan$Outline", "joinAbove", "(II)I"⟩, 6) := ⟨⟨by decide +kernel, by decide +kernel⟩, List.mem_of_getElem? (i := 203) (by decide +kernel), List.mem_of_getElem? (i := 853) (by decide +kernel), List.mem_of_getElem? (i := 854) (by decide +kernel)⟩
theorem lw_p30 : lw_okq (⟨"GroundPlan$Outline", "takeJoinedBackward", "(II)V"⟩, 6) := ⟨⟨by decide +kernel, by decide +kernel⟩, List.mem_of_getElem? (i := 203) (by decide +kernel), List.mem_of_getElem? (i := 857) (by decide +kernel), List.mem_of_getElem? (i := 858) (by decide +kernel)⟩
theorem lw_p31 : lw_okq (⟨"GroundPlan", "drawWith", "(I)V"⟩, 10) := ⟨⟨by decide +kernel, by decide +kernel⟩, List.mem_of_getElem? (i := 20) (by decide +kernel), List.mem_of_getElem? (i := 868) (by decide +kernel), List.mem_of_getElem? (i := 869) (by decide +kernel)⟩
def lw_privs_2 : List (MethodName × Nat) := [(⟨"GroundPlan", "needKind", "(I)V"⟩, 10), (⟨"GroundPlan$Orders", "measureChains", "([IZ)V"⟩, 6), (⟨"GroundPlan$Ground", "span", "(I[I[I)I"⟩, 7), (⟨"GroundPlan$Ground", "partOf", "(I)I"⟩, 7), (⟨"GroundPlan$Ground", "partAt", "(I[I[II)I"⟩, 7), (⟨"GroundPlan$Row", "firstTwice", "()I"⟩, 6), (⟨"GroundPlan$Row", "startOfPart", "(I)I"⟩, 6), (⟨"GroundPlan$Row", "moveForward", "(II)V"⟩, 6), (⟨"GroundPlan$Row", "countChanged", "()I"⟩, 6), (⟨"GroundPlan$Outline", "addBlock", "(IIII)V"⟩, 6), (⟨"GroundPlan$Outline", "addShape", "(II)V"⟩, 6), (⟨"GroundPlan$Outline", "joinBeside", "(II)I"⟩, 6), (⟨"GroundPlan$Outline", "takeJoined", "(II)V"⟩, 6), (⟨"GroundPlan$Outline", "joinAbove", "(II)I"⟩, 6), (⟨"GroundPlan$Outline", "takeJoinedBackward", "(II)V"⟩, 6), (⟨"GroundPlan", "drawWith", "(I)V"⟩, 10)]
theorem lw_r2 : ∀ q ∈ lw_privs_2, lw_okq q := List.forall_mem_cons.mpr ⟨lw_p16, List.forall_mem_cons.mpr ⟨lw_p17, List.forall_mem_cons.mpr ⟨lw_p18, List.forall_mem_cons.mpr ⟨lw_p19, List.forall_mem_cons.mpr ⟨lw_p20, List.forall_mem_cons.mpr ⟨lw_p21, List.forall_mem_cons.mpr ⟨lw_p22, List.forall_mem_cons.mpr ⟨lw_p23, List.forall_mem_cons.mpr ⟨lw_p24, List.forall_mem_cons.mpr ⟨lw_p25, List.forall_mem_cons.mpr ⟨lw_p26, List.forall_mem_cons.mpr ⟨lw_p27, List.forall_mem_cons.mpr ⟨lw_p28, List.forall_mem_cons.mpr ⟨lw_p29, List.forall_mem_cons.mpr ⟨lw_p30, List.forall_mem_cons.mpr ⟨lw_p31, fun _ h => absurd h List.not_mem_nil⟩⟩⟩⟩⟩⟩⟩⟩⟩⟩⟩⟩⟩⟩⟩⟩
theorem lw_p32 : lw_okq (⟨"GroundPlan$Outline", "holds", "(II)Z"⟩, 6) := ⟨⟨by decide +kernel, by decide +kernel⟩, List.mem_of_getElem? (i := 203) (by decide +kernel), List.mem_of_getElem? (i := 886) (by decide +kernel), List.mem_of_getElem? (i := 887) (by decide +kernel)⟩
theorem lw_p33 : lw_okq (⟨"GroundPlan$Search", "prepare", "()V"⟩, 11) := ⟨⟨by decide +kernel, by decide +kernel⟩, List.mem_of_getElem? (i := 231) (by decide +kernel), List.mem_of_getElem? (i := 905) (by decide +kernel), List.mem_of_getElem? (i := 906) (by decide +kernel)⟩
theorem lw_p34 : lw_okq (⟨"GroundPlan$Search", "searchCuts", "()V"⟩, 11) := ⟨⟨by decide +kernel, by decide +kernel⟩, List.mem_of_getElem? (i := 231) (by decide +kernel), List.mem_of_getElem? (i := 916) (by decide +kernel), List.mem_of_getElem? (i := 917) (by decide +kernel)⟩
theorem lw_p35 : lw_okq (⟨"GroundPlan$Search", "extend", "(III)V"⟩, 11) := ⟨⟨by decide +kernel, by decide +kernel⟩, List.mem_of_getElem? (i := 231) (by decide +kernel), List.mem_of_getElem? (i := 920) (by decide +kernel), List.mem_of_getElem? (i := 921) (by decide +kernel)⟩
theorem lw_p36 : lw_okq (⟨"GroundPlan$Search", "tryRow", "()V"⟩, 11) := ⟨⟨by decide +kernel, by decide +kernel⟩, List.mem_of_getElem? (i := 231) (by decide +kernel), List.mem_of_getElem? (i := 924) (by decide +kernel), List.mem_of_getElem? (i := 925) (by decide +kernel)⟩
theorem lw_p37 : lw_okq (⟨"GroundPlan$Search", "isDone", "()Z"⟩, 11) := ⟨⟨by decide +kernel, by decide +kernel⟩, List.mem_of_getElem? (i := 231) (by decide +kernel), List.mem_of_getElem? (i := 928) (by decide +kernel), List.mem_of_getElem? (i := 929) (by decide +kernel)⟩
theorem lw_p38 : lw_okq (⟨"GroundPlan$Search", "comesLower", "(LGroundPlan$Telling;)Z"⟩, 11) := ⟨⟨by decide +kernel, by decide +kernel⟩, List.mem_of_getElem? (i := 231) (by decide +kernel), List.mem_of_getElem? (i := 941) (by decide +kernel), List.mem_of_getElem? (i := 942) (by decide +kernel)⟩
theorem lw_p39 : lw_okq (⟨"GroundPlan$Search", "nextTurned", "(I)I"⟩, 11) := ⟨⟨by decide +kernel, by decide +kernel⟩, List.mem_of_getElem? (i := 231) (by decide +kernel), List.mem_of_getElem? (i := 948) (by decide +kernel), List.mem_of_getElem? (i := 949) (by decide +kernel)⟩
theorem lw_p40 : lw_okq (⟨"GroundPlan$Search", "searchTrees", "()V"⟩, 11) := ⟨⟨by decide +kernel, by decide +kernel⟩, List.mem_of_getElem? (i := 231) (by decide +kernel), List.mem_of_getElem? (i := 952) (by decide +kernel), List.mem_of_getElem? (i := 953) (by decide +kernel)⟩
theorem lw_p41 : lw_okq (⟨"GroundPlan$Kin", "attach", "(II)V"⟩, 6) := ⟨⟨by decide +kernel, by decide +kernel⟩, List.mem_of_getElem? (i := 171) (by decide +kernel), List.mem_of_getElem? (i := 965) (by decide +kernel), List.mem_of_getElem? (i := 966) (by decide +kernel)⟩
theorem lw_p42 : lw_okq (⟨"GroundPlan$Search", "nextOrder", "([I)V"⟩, 11) := ⟨⟨by decide +kernel, by decide +kernel⟩, List.mem_of_getElem? (i := 231) (by decide +kernel), List.mem_of_getElem? (i := 969) (by decide +kernel), List.mem_of_getElem? (i := 970) (by decide +kernel)⟩
theorem lw_p43 : lw_okq (⟨"GroundPlan$Search", "searchPairs", "()V"⟩, 11) := ⟨⟨by decide +kernel, by decide +kernel⟩, List.mem_of_getElem? (i := 231) (by decide +kernel), List.mem_of_getElem? (i := 974) (by decide +kernel), List.mem_of_getElem? (i := 975) (by decide +kernel)⟩
theorem lw_p44 : lw_okq (⟨"GroundPlan$Search", "mayBeFirst", "()Z"⟩, 11) := ⟨⟨by decide +kernel, by decide +kernel⟩, List.mem_of_getElem? (i := 231) (by decide +kernel), List.mem_of_getElem? (i := 978) (by decide +kernel), List.mem_of_getElem? (i := 979) (by decide +kernel)⟩
theorem lw_p45 : lw_okq (⟨"GroundPlan", "layFound", "(ILGroundPlan$Found;)V"⟩, 10) := ⟨⟨by decide +kernel, by decide +kernel⟩, List.mem_of_getElem? (i := 20) (by decide +kernel), List.mem_of_getElem? (i := 983) (by decide +kernel), List.mem_of_getElem? (i := 984) (by decide +kernel)⟩
theorem lw_p46 : lw_okq (⟨"GroundPlan$Orders", "numberOf", "([I)J"⟩, 6) := ⟨⟨by decide +kernel, by decide +kernel⟩, List.mem_of_getElem? (i := 107) (by decide +kernel), List.mem_of_getElem? (i := 1012) (by decide +kernel), List.mem_of_getElem? (i := 1013) (by decide +kernel)⟩
theorem lw_p47 : lw_okq (⟨"GroundPlanModel", "isBlock", "(I)Z"⟩, 50) := ⟨⟨by decide +kernel, by decide +kernel⟩, List.mem_of_getElem? (i := 1016) (by decide +kernel), List.mem_of_getElem? (i := 1191) (by decide +kernel), List.mem_of_getElem? (i := 1192) (by decide +kernel)⟩
def lw_privs_3 : List (MethodName × Nat) := [(⟨"GroundPlan$Outline", "holds", "(II)Z"⟩, 6), (⟨"GroundPlan$Search", "prepare", "()V"⟩, 11), (⟨"GroundPlan$Search", "searchCuts", "()V"⟩, 11), (⟨"GroundPlan$Search", "extend", "(III)V"⟩, 11), (⟨"GroundPlan$Search", "tryRow", "()V"⟩, 11), (⟨"GroundPlan$Search", "isDone", "()Z"⟩, 11), (⟨"GroundPlan$Search", "comesLower", "(LGroundPlan$Telling;)Z"⟩, 11), (⟨"GroundPlan$Search", "nextTurned", "(I)I"⟩, 11), (⟨"GroundPlan$Search", "searchTrees", "()V"⟩, 11), (⟨"GroundPlan$Kin", "attach", "(II)V"⟩, 6), (⟨"GroundPlan$Search", "nextOrder", "([I)V"⟩, 11), (⟨"GroundPlan$Search", "searchPairs", "()V"⟩, 11), (⟨"GroundPlan$Search", "mayBeFirst", "()Z"⟩, 11), (⟨"GroundPlan", "layFound", "(ILGroundPlan$Found;)V"⟩, 10), (⟨"GroundPlan$Orders", "numberOf", "([I)J"⟩, 6), (⟨"GroundPlanModel", "isBlock", "(I)Z"⟩, 50)]
theorem lw_r3 : ∀ q ∈ lw_privs_3, lw_okq q := List.forall_mem_cons.mpr ⟨lw_p32, List.forall_mem_cons.mpr ⟨lw_p33, List.forall_mem_cons.mpr ⟨lw_p34, List.forall_mem_cons.mpr ⟨lw_p35, List.forall_mem_cons.mpr ⟨lw_p36, List.forall_mem_cons.mpr ⟨lw_p37, List.forall_mem_cons.mpr ⟨lw_p38, List.forall_mem_cons.mpr ⟨lw_p39, List.forall_mem_cons.mpr ⟨lw_p40, List.forall_mem_cons.mpr ⟨lw_p41, List.forall_mem_cons.mpr ⟨lw_p42, List.forall_mem_cons.mpr ⟨lw_p43, List.forall_mem_cons.mpr ⟨lw_p44, List.forall_mem_cons.mpr ⟨lw_p45, List.forall_mem_cons.mpr ⟨lw_p46, List.forall_mem_cons.mpr ⟨lw_p47, fun _ h => absurd h List.not_mem_nil⟩⟩⟩⟩⟩⟩⟩⟩⟩⟩⟩⟩⟩⟩⟩⟩
theorem lw_p48 : lw_okq (⟨"GroundPlanModel", "fail", "()I"⟩, 50) := ⟨⟨by decide +kernel, by decide +kernel⟩, List.mem_of_getElem? (i := 1016) (by decide +kernel), List.mem_of_getElem? (i := 1195) (by decide +kernel), List.mem_of_getElem? (i := 1196) (by decide +kernel)⟩
theorem lw_p49 : lw_okq (⟨"GroundPlanModel", "readOrder", "(J[I)Z"⟩, 50) := ⟨⟨by decide +kernel, by decide +kernel⟩, List.mem_of_getElem? (i := 1016) (by decide +kernel), List.mem_of_getElem? (i := 1215) (by decide +kernel), List.mem_of_getElem? (i := 1216) (by decide +kernel)⟩
theorem lw_p50 : lw_okq (⟨"GroundPlanModel", "turnable", "()I"⟩, 50) := ⟨⟨by decide +kernel, by decide +kernel⟩, List.mem_of_getElem? (i := 1016) (by decide +kernel), List.mem_of_getElem? (i := 1223) (by decide +kernel), List.mem_of_getElem? (i := 1224) (by decide +kernel)⟩
theorem lw_p51 : lw_okq (⟨"GroundPlanModel", "layPair", "()V"⟩, 50) := ⟨⟨by decide +kernel, by decide +kernel⟩, List.mem_of_getElem? (i := 1016) (by decide +kernel), List.mem_of_getElem? (i := 1227) (by decide +kernel), List.mem_of_getElem? (i := 1228) (by decide +kernel)⟩
theorem lw_p52 : lw_okq (⟨"GroundPlanModel", "must", "(IIZ)Z"⟩, 50) := ⟨⟨by decide +kernel, by decide +kernel⟩, List.mem_of_getElem? (i := 1016) (by decide +kernel), List.mem_of_getElem? (i := 1231) (by decide +kernel), List.mem_of_getElem? (i := 1232) (by decide +kernel)⟩
theorem lw_p53 : lw_okq (⟨"GroundPlanModel", "wide", "(I)I"⟩, 50) := ⟨⟨by decide +kernel, by decide +kernel⟩, List.mem_of_getElem? (i := 1016) (by decide +kernel), List.mem_of_getElem? (i := 1238) (by decide +kernel), List.mem_of_getElem? (i := 1239) (by decide +kernel)⟩
theorem lw_p54 : lw_okq (⟨"GroundPlanModel", "high", "(I)I"⟩, 50) := ⟨⟨by decide +kernel, by decide +kernel⟩, List.mem_of_getElem? (i := 1016) (by decide +kernel), List.mem_of_getElem? (i := 1243) (by decide +kernel), List.mem_of_getElem? (i := 1244) (by decide +kernel)⟩
theorem lw_p55 : lw_okq (⟨"GroundPlanModel", "rowSize", "()I"⟩, 50) := ⟨⟨by decide +kernel, by decide +kernel⟩, List.mem_of_getElem? (i := 1016) (by decide +kernel), List.mem_of_getElem? (i := 1251) (by decide +kernel), List.mem_of_getElem? (i := 1252) (by decide +kernel)⟩
theorem lw_p56 : lw_okq (⟨"GroundPlanModel", "isRow", "()Z"⟩, 50) := ⟨⟨by decide +kernel, by decide +kernel⟩, List.mem_of_getElem? (i := 1016) (by decide +kernel), List.mem_of_getElem? (i := 1255) (by decide +kernel), List.mem_of_getElem? (i := 1256) (by decide +kernel)⟩
theorem lw_p57 : lw_okq (⟨"GroundPlanModel", "layCuts", "()V"⟩, 50) := ⟨⟨by decide +kernel, by decide +kernel⟩, List.mem_of_getElem? (i := 1016) (by decide +kernel), List.mem_of_getElem? (i := 1259) (by decide +kernel), List.mem_of_getElem? (i := 1260) (by decide +kernel)⟩
theorem lw_p58 : lw_okq (⟨"GroundPlanModel", "makeParts", "([I)V"⟩, 50) := ⟨⟨by decide +kernel, by decide +kernel⟩, List.mem_of_getElem? (i := 1016) (by decide +kernel), List.mem_of_getElem? (i := 1263) (by decide +kernel), List.mem_of_getElem? (i := 1264) (by decide +kernel)⟩
theorem lw_p59 : lw_okq (⟨"GroundPlanModel", "child", "(I)I"⟩, 50) := ⟨⟨by decide +kernel, by decide +kernel⟩, List.mem_of_getElem? (i := 1016) (by decide +kernel), List.mem_of_getElem? (i := 1271) (by decide +kernel), List.mem_of_getElem? (i := 1272) (by decide +kernel)⟩
theorem lw_p60 : lw_okq (⟨"GroundPlanModel", "under", "(I)I"⟩, 50) := ⟨⟨by decide +kernel, by decide +kernel⟩, List.mem_of_getElem? (i := 1016) (by decide +kernel), List.mem_of_getElem? (i := 1275) (by decide +kernel), List.mem_of_getElem? (i := 1276) (by decide +kernel)⟩
theorem lw_p61 : lw_okq (⟨"GroundPlanModel", "layTree", "()V"⟩, 50) := ⟨⟨by decide +kernel, by decide +kernel⟩, List.mem_of_getElem? (i := 1016) (by decide +kernel), List.mem_of_getElem? (i := 1279) (by decide +kernel), List.mem_of_getElem? (i := 1280) (by decide +kernel)⟩
theorem lw_p62 : lw_okq (⟨"GroundPlanModel", "layUnder", "(II)V"⟩, 50) := ⟨⟨by decide +kernel, by decide +kernel⟩, List.mem_of_getElem? (i := 1016) (by decide +kernel), List.mem_of_getElem? (i := 1283) (by decide +kernel), List.mem_of_getElem? (i := 1284) (by decide +kernel)⟩
theorem lw_p63 : lw_okq (⟨"GroundPlanModel", "allWide", "()I"⟩, 50) := ⟨⟨by decide +kernel, by decide +kernel⟩, List.mem_of_getElem? (i := 1016) (by decide +kernel), List.mem_of_getElem? (i := 1291) (by decide +kernel), List.mem_of_getElem? (i := 1292) (by decide +kernel)⟩
def lw_privs_4 : List (MethodName × Nat) := [(⟨"GroundPlanModel", "fail", "()I"⟩, 50), (⟨"GroundPlanModel", "readOrder", "(J[I)Z"⟩, 50), (⟨"GroundPlanModel", "turnable", "()I"⟩, 50), (⟨"GroundPlanModel", "layPair", "()V"⟩, 50), (⟨"GroundPlanModel", "must", "(IIZ)Z"⟩, 50), (⟨"GroundPlanModel", "wide", "(I)I"⟩, 50), (⟨"GroundPlanModel", "high", "(I)I"⟩, 50), (⟨"GroundPlanModel", "rowSize", "()I"⟩, 50), (⟨"GroundPlanModel", "isRow", "()Z"⟩, 50), (⟨"GroundPlanModel", "layCuts", "()V"⟩, 50), (⟨"GroundPlanModel", "makeParts", "([I)V"⟩, 50), (⟨"GroundPlanModel", "child", "(I)I"⟩, 50), (⟨"GroundPlanModel", "under", "(I)I"⟩, 50), (⟨"GroundPlanModel", "layTree", "()V"⟩, 50), (⟨"GroundPlanModel", "layUnder", "(II)V"⟩, 50), (⟨"GroundPlanModel", "allWide", "()I"⟩, 50)]
theorem lw_r4 : ∀ q ∈ lw_privs_4, lw_okq q := List.forall_mem_cons.mpr ⟨lw_p48, List.forall_mem_cons.mpr ⟨lw_p49, List.forall_mem_cons.mpr ⟨lw_p50, List.forall_mem_cons.mpr ⟨lw_p51, List.forall_mem_cons.mpr ⟨lw_p52, List.forall_mem_cons.mpr ⟨lw_p53, List.forall_mem_cons.mpr ⟨lw_p54, List.forall_mem_cons.mpr ⟨lw_p55, List.forall_mem_cons.mpr ⟨lw_p56, List.forall_mem_cons.mpr ⟨lw_p57, List.forall_mem_cons.mpr ⟨lw_p58, List.forall_mem_cons.mpr ⟨lw_p59, List.forall_mem_cons.mpr ⟨lw_p60, List.forall_mem_cons.mpr ⟨lw_p61, List.forall_mem_cons.mpr ⟨lw_p62, List.forall_mem_cons.mpr ⟨lw_p63, fun _ h => absurd h List.not_mem_nil⟩⟩⟩⟩⟩⟩⟩⟩⟩⟩⟩⟩⟩⟩⟩⟩
theorem lw_p64 : lw_okq (⟨"GroundPlanModel", "allHigh", "()I"⟩, 50) := ⟨⟨by decide +kernel, by decide +kernel⟩, List.mem_of_getElem? (i := 1016) (by decide +kernel), List.mem_of_getElem? (i := 1295) (by decide +kernel), List.mem_of_getElem? (i := 1296) (by decide +kernel)⟩
theorem lw_p65 : lw_okq (⟨"GroundPlanModel", "clashes", "()Z"⟩, 50) := ⟨⟨by decide +kernel, by decide +kernel⟩, List.mem_of_getElem? (i := 1016) (by decide +kernel), List.mem_of_getElem? (i := 1299) (by decide +kernel), List.mem_of_getElem? (i := 1300) (by decide +kernel)⟩
theorem lw_p66 : lw_okq (⟨"GroundPlanModel", "clash", "(II)Z"⟩, 50) := ⟨⟨by decide +kernel, by decide +kernel⟩, List.mem_of_getElem? (i := 1016) (by decide +kernel), List.mem_of_getElem? (i := 1303) (by decide +kernel), List.mem_of_getElem? (i := 1304) (by decide +kernel)⟩
theorem lw_p67 : lw_okq (⟨"GroundPlanModel", "isLeftOf", "(II)Z"⟩, 50) := ⟨⟨by decide +kernel, by decide +kernel⟩, List.mem_of_getElem? (i := 1016) (by decide +kernel), List.mem_of_getElem? (i := 1307) (by decide +kernel), List.mem_of_getElem? (i := 1308) (by decide +kernel)⟩
theorem lw_p68 : lw_okq (⟨"GroundPlanModel", "isBelow", "(II)Z"⟩, 50) := ⟨⟨by decide +kernel, by decide +kernel⟩, List.mem_of_getElem? (i := 1016) (by decide +kernel), List.mem_of_getElem? (i := 1311) (by decide +kernel), List.mem_of_getElem? (i := 1312) (by decide +kernel)⟩
theorem lw_p69 : lw_okq (⟨"GroundPlanModel", "packed", "([IIII)J"⟩, 50) := ⟨⟨by decide +kernel, by decide +kernel⟩, List.mem_of_getElem? (i := 1016) (by decide +kernel), List.mem_of_getElem? (i := 1323) (by decide +kernel), List.mem_of_getElem? (i := 1324) (by decide +kernel)⟩
theorem lw_p70 : lw_okq (⟨"GroundPlanModel", "longest", "(IZ)I"⟩, 50) := ⟨⟨by decide +kernel, by decide +kernel⟩, List.mem_of_getElem? (i := 1016) (by decide +kernel), List.mem_of_getElem? (i := 1331) (by decide +kernel), List.mem_of_getElem? (i := 1332) (by decide +kernel)⟩
theorem lw_p71 : lw_okq (⟨"GroundPlanModel", "sort", "(Z[I)Z"⟩, 50) := ⟨⟨by decide +kernel, by decide +kernel⟩, List.mem_of_getElem? (i := 1016) (by decide +kernel), List.mem_of_getElem? (i := 1345) (by decide +kernel), List.mem_of_getElem? (i := 1346) (by decide +kernel)⟩
theorem lw_p72 : lw_okq (⟨"GroundPlanModel", "ahead", "(IIZ)Z"⟩, 50) := ⟨⟨by decide +kernel, by decide +kernel⟩, List.mem_of_getElem? (i := 1016) (by decide +kernel), List.mem_of_getElem? (i := 1349) (by decide +kernel), List.mem_of_getElem? (i := 1350) (by decide +kernel)⟩
theorem lw_p73 : lw_okq (⟨"GroundPlanModel", "parts", "(I)Z"⟩, 50) := ⟨⟨by decide +kernel, by decide +kernel⟩, List.mem_of_getElem? (i := 1016) (by decide +kernel), List.mem_of_getElem? (i := 1357) (by decide +kernel), List.mem_of_getElem? (i := 1358) (by decide +kernel)⟩
theorem lw_p74 : lw_okq (⟨"GroundPlanModel", "tellPart", "(I)V"⟩, 50) := ⟨⟨by decide +kernel, by decide +kernel⟩, List.mem_of_getElem? (i := 1016) (by decide +kernel), List.mem_of_getElem? (i := 1365) (by decide +kernel), List.mem_of_getElem? (i := 1366) (by decide +kernel)⟩
theorem lw_p75 : lw_okq (⟨"GroundPlanModel", "tellChain", "(IIZ)V"⟩, 50) := ⟨⟨by decide +kernel, by decide +kernel⟩, List.mem_of_getElem? (i := 1016) (by decide +kernel), List.mem_of_getElem? (i := 1369) (by decide +kernel), List.mem_of_getElem? (i := 1370) (by decide +kernel)⟩
theorem lw_p76 : lw_okq (⟨"GroundPlanModel", "findCurve", "()V"⟩, 50) := ⟨⟨by decide +kernel, by decide +kernel⟩, List.mem_of_getElem? (i := 1016) (by decide +kernel), List.mem_of_getElem? (i := 1377) (by decide +kernel), List.mem_of_getElem? (i := 1378) (by decide +kernel)⟩
theorem lw_p77 : lw_okq (⟨"GroundPlanModel", "add", "(II)V"⟩, 50) := ⟨⟨by decide +kernel, by decide +kernel⟩, List.mem_of_getElem? (i := 1016) (by decide +kernel), List.mem_of_getElem? (i := 1381) (by decide +kernel), List.mem_of_getElem? (i := 1382) (by decide +kernel)⟩
theorem lw_p78 : lw_okq (⟨"GroundPlanModel", "leastPair", "()V"⟩, 50) := ⟨⟨by decide +kernel, by decide +kernel⟩, List.mem_of_getElem? (i := 1016) (by decide +kernel), List.mem_of_getElem? (i := 1401) (by decide +kernel), List.mem_of_getElem? (i := 1402) (by decide +kernel)⟩
theorem lw_p79 : lw_okq (⟨"GroundPlanModel", "first", "([I)V"⟩, 50) := ⟨⟨by decide +kernel, by decide +kernel⟩, List.mem_of_getElem? (i := 1016) (by decide +kernel), List.mem_of_getElem? (i := 1405) (by decide +kernel), List.mem_of_getElem? (i := 1406) (by decide +kernel)⟩
def lw_privs_5 : List (MethodName × Nat) := [(⟨"GroundPlanModel", "allHigh", "()I"⟩, 50), (⟨"GroundPlanModel", "clashes", "()Z"⟩, 50), (⟨"GroundPlanModel", "clash", "(II)Z"⟩, 50), (⟨"GroundPlanModel", "isLeftOf", "(II)Z"⟩, 50), (⟨"GroundPlanModel", "isBelow", "(II)Z"⟩, 50), (⟨"GroundPlanModel", "packed", "([IIII)J"⟩, 50), (⟨"GroundPlanModel", "longest", "(IZ)I"⟩, 50), (⟨"GroundPlanModel", "sort", "(Z[I)Z"⟩, 50), (⟨"GroundPlanModel", "ahead", "(IIZ)Z"⟩, 50), (⟨"GroundPlanModel", "parts", "(I)Z"⟩, 50), (⟨"GroundPlanModel", "tellPart", "(I)V"⟩, 50), (⟨"GroundPlanModel", "tellChain", "(IIZ)V"⟩, 50), (⟨"GroundPlanModel", "findCurve", "()V"⟩, 50), (⟨"GroundPlanModel", "add", "(II)V"⟩, 50), (⟨"GroundPlanModel", "leastPair", "()V"⟩, 50), (⟨"GroundPlanModel", "first", "([I)V"⟩, 50)]
theorem lw_r5 : ∀ q ∈ lw_privs_5, lw_okq q := List.forall_mem_cons.mpr ⟨lw_p64, List.forall_mem_cons.mpr ⟨lw_p65, List.forall_mem_cons.mpr ⟨lw_p66, List.forall_mem_cons.mpr ⟨lw_p67, List.forall_mem_cons.mpr ⟨lw_p68, List.forall_mem_cons.mpr ⟨lw_p69, List.forall_mem_cons.mpr ⟨lw_p70, List.forall_mem_cons.mpr ⟨lw_p71, List.forall_mem_cons.mpr ⟨lw_p72, List.forall_mem_cons.mpr ⟨lw_p73, List.forall_mem_cons.mpr ⟨lw_p74, List.forall_mem_cons.mpr ⟨lw_p75, List.forall_mem_cons.mpr ⟨lw_p76, List.forall_mem_cons.mpr ⟨lw_p77, List.forall_mem_cons.mpr ⟨lw_p78, List.forall_mem_cons.mpr ⟨lw_p79, fun _ h => absurd h List.not_mem_nil⟩⟩⟩⟩⟩⟩⟩⟩⟩⟩⟩⟩⟩⟩⟩⟩
theorem lw_p80 : lw_okq (⟨"GroundPlanModel", "tryTurned", "(I)Z"⟩, 50) := ⟨⟨by decide +kernel, by decide +kernel⟩, List.mem_of_getElem? (i := 1016) (by decide +kernel), List.mem_of_getElem? (i := 1409) (by decide +kernel), List.mem_of_getElem? (i := 1410) (by decide +kernel)⟩
theorem lw_p81 : lw_okq (⟨"GroundPlanModel", "tryRows", "(III)V"⟩, 50) := ⟨⟨by decide +kernel, by decide +kernel⟩, List.mem_of_getElem? (i := 1016) (by decide +kernel), List.mem_of_getElem? (i := 1416) (by decide +kernel), List.mem_of_getElem? (i := 1417) (by decide +kernel)⟩
theorem lw_p82 : lw_okq (⟨"GroundPlanModel", "isNormal", "()Z"⟩, 50) := ⟨⟨by decide +kernel, by decide +kernel⟩, List.mem_of_getElem? (i := 1016) (by decide +kernel), List.mem_of_getElem? (i := 1420) (by decide +kernel), List.mem_of_getElem? (i := 1421) (by decide +kernel)⟩
theorem lw_p83 : lw_okq (⟨"GroundPlanModel", "leastTree", "()V"⟩, 50) := ⟨⟨by decide +kernel, by decide +kernel⟩, List.mem_of_getElem? (i := 1016) (by decide +kernel), List.mem_of_getElem? (i := 1424) (by decide +kernel), List.mem_of_getElem? (i := 1425) (by decide +kernel)⟩
theorem lw_p84 : lw_okq (⟨"GroundPlanModel", "makeTree", "()Z"⟩, 50) := ⟨⟨by decide +kernel, by decide +kernel⟩, List.mem_of_getElem? (i := 1016) (by decide +kernel), List.mem_of_getElem? (i := 1428) (by decide +kernel), List.mem_of_getElem? (i := 1429) (by decide +kernel)⟩
theorem lw_p85 : lw_okq (⟨"GroundPlanModel", "rankOf", "([I)J"⟩, 50) := ⟨⟨by decide +kernel, by decide +kernel⟩, List.mem_of_getElem? (i := 1016) (by decide +kernel), List.mem_of_getElem? (i := 1445) (by decide +kernel), List.mem_of_getElem? (i := 1446) (by decide +kernel)⟩
theorem lw_p86 : lw_okq (⟨"GroundPlanModel", "orderOf", "(J[I)V"⟩, 50) := ⟨⟨by decide +kernel, by decide +kernel⟩, List.mem_of_getElem? (i := 1016) (by decide +kernel), List.mem_of_getElem? (i := 1453) (by decide +kernel), List.mem_of_getElem? (i := 1454) (by decide +kernel)⟩
def lw_privs_6 : List (MethodName × Nat) := [(⟨"GroundPlanModel", "tryTurned", "(I)Z"⟩, 50), (⟨"GroundPlanModel", "tryRows", "(III)V"⟩, 50), (⟨"GroundPlanModel", "isNormal", "()Z"⟩, 50), (⟨"GroundPlanModel", "leastTree", "()V"⟩, 50), (⟨"GroundPlanModel", "makeTree", "()Z"⟩, 50), (⟨"GroundPlanModel", "rankOf", "([I)J"⟩, 50), (⟨"GroundPlanModel", "orderOf", "(J[I)V"⟩, 50)]
theorem lw_r6 : ∀ q ∈ lw_privs_6, lw_okq q := List.forall_mem_cons.mpr ⟨lw_p80, List.forall_mem_cons.mpr ⟨lw_p81, List.forall_mem_cons.mpr ⟨lw_p82, List.forall_mem_cons.mpr ⟨lw_p83, List.forall_mem_cons.mpr ⟨lw_p84, List.forall_mem_cons.mpr ⟨lw_p85, List.forall_mem_cons.mpr ⟨lw_p86, fun _ h => absurd h List.not_mem_nil⟩⟩⟩⟩⟩⟩⟩
def lw_privs : List (MethodName × Nat) := lw_privs_1 ++ (lw_privs_2 ++ (lw_privs_3 ++ (lw_privs_4 ++ (lw_privs_5 ++ (lw_privs_6)))))
def lw_tbl : List Cond := k2_sels lw_privs ++ tables_1
theorem lw_privs_ok : ∀ q ∈ lw_privs, lw_okq q := by
  show ∀ q ∈ lw_privs_1 ++ (lw_privs_2 ++ (lw_privs_3 ++ (lw_privs_4 ++ (lw_privs_5 ++ (lw_privs_6))))), lw_okq q
  exact List.forall_mem_append.mpr ⟨lw_r1, List.forall_mem_append.mpr ⟨lw_r2, List.forall_mem_append.mpr ⟨lw_r3, List.forall_mem_append.mpr ⟨lw_r4, List.forall_mem_append.mpr ⟨lw_r5, lw_r6⟩⟩⟩⟩⟩
end
section
/-! ===== BEGIN words of one list among another's, by their places ===== -/
theorem goodIn_r {big : List Cond} (ws : List Cond) (ps : List Nat) (hp : ws = ps.filterMap (fun i => big[i]?)) (h : ws.all goodWord = true) : GoodIn big ws := by
  intro w hw
  have h1 := List.all_eq_true.mp h w hw
  rw [hp] at hw
  obtain ⟨i, -, hi⟩ := List.mem_filterMap.mp hw
  have hm : w ∈ big := by first | exact List.mem_of_getElem? hi | exact List.getElem?_mem hi
  exact ⟨hm, good_of_word h1⟩
theorem goodIn_app {big a b : List Cond} (ha : GoodIn big a) (hb : GoodIn big b) : GoodIn big (a ++ b) := fun w h => (List.mem_append.mp h).elim (ha w) (hb w)
theorem goodIn_ca {big a b : List Cond} {c : Cond} (ha : GoodIn big (c :: a)) (hb : GoodIn big b) : GoodIn big (c :: (a ++ b)) := fun w h => (List.mem_cons.mp h).elim (fun e => ha w (List.mem_cons.mpr (Or.inl e))) (fun h => (List.mem_append.mp h).elim (fun h => ha w (List.mem_cons.mpr (Or.inr h))) (hb w))
theorem goodIn_sub {big ws : List Cond} (hm : ∀ w ∈ ws, w ∈ big) (h : ws.all goodWord = true) : GoodIn big ws := fun w hw => ⟨hm w hw, good_of_word (List.all_eq_true.mp h w hw)⟩
/-! ===== END ===== -/

/-! ===== BEGIN exceptions that leave a method, and their catching by the caller (launches without stack traces) ===== -/
section VXA
/-! The laws vx_back, vx_callV, vx_callS, vx_callSW, vx_throw0, vx_throwS follow proofs of the library, with one case more: JvmDerived/Free/Laws.lean (Back.of_free), Shelf42/LK1.lean (callV, callS), Shelf/KitTraced.lean (throwNew0V, throwNewS). -/
/-- where a method has thrown q: the class by its name, the cell, what was written, the world -/
def vx_T (XC : String → State → State → Prop) (st : State) (q : Addr) (t : State) (mc ms : Nat) (free : Addr → Prop) : Prop :=
  ∃ (E : String) (ce : Cell) (L : List Loc), XC E st t ∧ t.heap[q]? = some ce ∧ ce.vm = .none ∧ st.vm.findClass E = some ce.cls ∧ st.WarmedH t.vm ∧ st.sameButNew ({ t with vm := st.vm } : State) L mc ms ∧ ∀ z ∈ L, free z.base
def vx_Q (Qc : Array Value → State → Outcome → State → Prop) (XC : String → State → State → Prop) (mc ms : Nat) (free : Addr → Prop) : Array Value → State → Outcome → State → Prop := fun a st o t =>
  (Qc a st o t ∧ ∃ L, FrameEnd st o t L mc ms ∧ ∀ q ∈ L, free q.base) ∨ ∃ q, o = .threw q ∧ vx_T XC st q t mc ms free
/-- a callee that returns or throws -/
def vx_Met (l : Launch) (y : MethodName) (ws : List Cond) (rm : Room) (Pc : Array Value → State → Prop) (Qc : Array Value → State → Outcome → State → Prop) (XC : String → State → State → Prop) (mc ms : Nat) (free : Addr → Prop) : Prop :=
  MetFree l y (headSpec ws rm) Pc (fun _ _ _ _ _ => True) (vx_Q Qc XC mc ms free)
def vx_Post (XC : String → State → State → Prop) (mc ms : Nat) (free : Addr → Prop) : Pt → Array Value → Addr → Pt → Prop := fun A a q B =>
  ∃ (g : JFrame) (mk : MethodId) (t : State) (L : List Loc) (E : String) (ce : Cell), B.U.heap = t.heap ∧ B.U.vm = t.vm ∧ XC E (A.U.calling g mk a) t ∧ t.heap[q]? = some ce ∧ ce.vm = .none ∧ A.U.vm.findClass E = some ce.cls ∧ B.locs = A.locs ++ L ∧ (∀ z ∈ L, free z.base) ∧ B.cells = A.cells + mc ∧ B.slots = A.slots + ms
def vx_Back (l : Launch) (R : Room) (p : Program) (e : Env) (below : List Frame) (s : State) (sargs : Array Value) (y : MethodName) (len W9 : Nat)
    (Pre : Pt → Array Value → Prop) (Post : Pt → Array Value → Option Value → Pt → Prop) (PostX : Pt → Array Value → Addr → Pt → Prop) : Prop :=
  ∀ (m : MethodId) (meth : Method) (c : Code) (A : Pt) (g : JFrame) (ig : Instr) (mk : MethodId) (a : Array Value),
    Stand p l e R s m sargs below meth c A.U A.locs A.cells A.slots → g.method = m → g.locals.size = c.maxLocals → decode c.code g.pc = .ok (ig, len) →
    2 * g.monitorRoom + (g.stack.map fun v => v.category).sum ≤ W9 → A.U.methodNamed? y = some mk → Pre A a →
    (∃ (v : Option Value) (B : Pt), Stand p l e R s m sargs below meth c B.U B.locs B.cells B.slots ∧ Post A a v B ∧
      Steps p.tables e below (doInvoke e (A.U.setTop g) [] mk a).1 (B.U.setTop { g with pc := g.pc + len, stack := v.toList ++ g.stack })) ∨
    (∃ (q : Addr) (B : Pt), Stand p l e R s m sargs below meth c B.U B.locs B.cells B.slots ∧ PostX A a q B ∧
      Steps p.tables e below (doInvoke e (A.U.setTop g) [] mk a).1 ((B.U.setTop g).pushFrame (.throwing q)))
section Payer
variable {l : Launch} {R : Room} {p : Program} {e : Env} {below : List Frame} {s : State} {sargs : Array Value} {y : MethodName} {len W9 : Nat}
theorem vx_back {ws : List Cond} {rm : Room} {Pc : Array Value → State → Prop} {Qc : Array Value → State → Outcome → State → Prop} {XC : String → State → State → Prop} {mc ms : Nat} {free : Addr → Prop} {bytes : ByteArray} {maxL : Nat} {ret : Option FieldType}
    (hM : vx_Met l y ws rm Pc Qc XC mc ms free) (hblind : FrameBlind Pc) (hrc : rm.cells = mc) (hrs : rm.slots = ms)
    (hframes : rm.frames + 1 ≤ R.frames) (hlocals : W9 + (maxL + 11) + rm.locals ≤ R.locals)
    (hws : ∀ w ∈ ws, ∀ a' U, s.WarmedH U.vm → w.before a' U = true) (hcode : Cond.code y bytes maxL ret ∈ ws) (hinit : ∀ a' U, s.WarmedH U.vm → (Cond.initialized y.cls).before a' U = true) :
    vx_Back l R p e below s sargs y len W9 (PreOf R mc ms Pc) (PostOf Qc mc ms free) (vx_Post XC mc ms free) := by
  intro m meth c A g ig mk a X hg hsize hdg hW hn hp
  have h1 : (headSpec ws rm).pre.before a A.U = true := atoms_intro fun w hw => hws w hw _ _ X.warmed
  have h2 : (Cond.code y bytes maxL ret).before a A.U = true := hws _ hcode _ _ X.warmed
  have h3 : (Cond.initialized y.cls).before a A.U = true := hinit _ _ X.warmed
  have h4 : A.cells + (headSpec ws rm).room.cells ≤ R.cells := by rw [show (headSpec ws rm).room.cells = mc from hrc]; exact hp.1
  have h5 : A.slots + (headSpec ws rm).room.slots ≤ R.slots := by rw [show (headSpec ws rm).room.slots = ms from hrs]; exact hp.2.1
  have hPc : Pc a (A.U.calling g mk a) := hblind _ _ _ _ hp.2.2
  obtain ⟨U, Ls, c0, s0⟩ := A
  dsimp only [Pt.U, Pt.locs, Pt.cells, Pt.slots] at h1 h2 h3 h4 h5 X hn hPc ⊢
  obtain ⟨methY, cY, hmY, hcY, -, hlY, -, -, -, -⟩ := Cond.code_spec hn h2
  obtain ⟨kY, hkY, -⟩ := className_of_methodNamed hn
  have hinitY : kY.init = .initialized := Cond.initialized_spec (findClass_of_methodNamed hn) hkY h3
  have h : At U g.method c below := by rw [hg]; exact X.here
  have hlocals9 : W9 + (maxL + 11) + (headSpec ws rm).room.locals ≤ R.locals := hlocals
  have happ : (headSpec ws rm).appliesLoose y e.platform (U.calling g mk a) = true :=
    Spec.appliesLoose_calling (g := g) h hdg hn hkY hinitY
      (X.room_calling (g := g) (R' := (headSpec ws rm).room) hsize hmY hcY hframes (by rw [hlY]; omega) h4 h5) h1
  obtain ⟨mid, hmid⟩ := h.above
  have hfr : (U.setTop g).frames = (.java g :: mid) ++ below := by rw [State.frames_setTop' g h.top, hmid]; rfl
  obtain ⟨o, s₂, hsteps, -, hend, hq⟩ := Steps.callFree hM p X.admits X.cas X.clock (acts := []) hfr happ hPc trivial
  have hq' : vx_Q Qc XC mc ms free a (U.calling g mk a) o s₂ := hq
  rw [State.frames_setTop' g h.top] at hend
  obtain ⟨g₀, hg0⟩ := Option.isSome_iff_exists.mp h.top
  obtain ⟨r, hr⟩ := State.topJava?_eq_some.mp hg0
  have hr' : (({ U with heap := s₂.heap, slotsUsed := s₂.slotsUsed } : State).setVm s₂.vm).frames = .java g₀ :: r := hr
  rcases hq' with ⟨hqc, L, hfe, hL⟩ | ⟨q, rfl, E, ce, L, hx, hce, hcv, hcl, hW₂, hsm, hL⟩
  · obtain ⟨⟨v, rfl⟩, hW₂, e2, q2, q3, q4, q5, q6⟩ := id hfe
    have e3 : s₂ = ({ (U.calling g mk a).setFrames s₂.frames with heap := s₂.heap, slotsUsed := s₂.slotsUsed } : State).setVm s₂.vm := by
      have : s₂ = ({ s₂ with vm := (U.calling g mk a).vm } : State).setVm s₂.vm := rfl
      rw [e2] at this
      exact this
    obtain ⟨c₂, i₂, len₂, hc₂, hd₂, hf₂⟩ := hend
    have hW' : U.WarmedH s₂.vm := hW₂
    have hcc : c₂ = c := by
      have h1 : s₂.code? g.method = U.code? g.method := by
        rw [State.code?_eq, State.code?_eq, hW'.alike.method?]
      exact Option.some.inj (hc₂.symm.trans (h1.trans h.code))
    subst hcc
    have hlen : len₂ = len := by rw [hdg] at hd₂; cases hd₂; rfl
    subst hlen
    have hs₂ : s₂ = (({ U with heap := s₂.heap, slotsUsed := s₂.slotsUsed } : State).setVm s₂.vm).setTop { g with pc := g.pc + len₂, stack := v.toList ++ g.stack } := by
      refine e3.trans ?_
      rw [hf₂, State.calling_eq h.top, State.setFrames_setFrames, State.setTop_of_frames _ hr', hr]
      rfl
    have hsame : U.sameButNew ({ U with heap := s₂.heap, slotsUsed := s₂.slotsUsed } : State) L mc ms := by
      refine ⟨?_, q2, q3, q4, q5, q6⟩
      obtain ⟨t, ht, -⟩ := State.frames_cons hr
      show ({ U with heap := s₂.heap, slotsUsed := s₂.slotsUsed } : State) = { U.setFrames U.frames with heap := s₂.heap, slotsUsed := s₂.slotsUsed }
      rw [State.setFrames_self ht]
    subst hg
    refine Or.inl ⟨v, ⟨(({ U with heap := s₂.heap, slotsUsed := s₂.slotsUsed } : State).setVm s₂.vm), Ls ++ L, c0 + mc, s0 + ms⟩,
      ⟨X.admits, X.cas, X.clock, X.frames, X.room, X.hears, X.method, X.code, (X.here.setHeapUsed s₂.heap s₂.slotsUsed).setVm hW'.alike, X.tail, State.WarmedH.trans X.warmed hW', X.limits, X.bytes, X.same.trans (hsame.setVm s.vm)⟩,
      ⟨g, mk, s₂, L, rfl, rfl, hqc, rfl, hL, rfl, rfl⟩, ?_⟩
    show Steps p.tables e below _ ((({ U with heap := s₂.heap, slotsUsed := s₂.slotsUsed } : State).setVm s₂.vm).setTop { g with pc := g.pc + len₂, stack := v.toList ++ g.stack })
    rw [← hs₂]
    exact hsteps
  · obtain ⟨e2, q2, q3, q4, q5, q6⟩ := id hsm
    have e3 : s₂ = ({ (U.calling g mk a).setFrames s₂.frames with heap := s₂.heap, slotsUsed := s₂.slotsUsed } : State).setVm s₂.vm := by
      have : s₂ = ({ s₂ with vm := (U.calling g mk a).vm } : State).setVm s₂.vm := rfl
      rw [e2] at this
      exact this
    have hf₂ : s₂.frames = .throwing q :: .java g :: U.frames.tail := hend
    have hW' : U.WarmedH s₂.vm := hW₂
    have hs₂ : s₂ = ((({ U with heap := s₂.heap, slotsUsed := s₂.slotsUsed } : State).setVm s₂.vm).setTop g).pushFrame (.throwing q) := by
      refine e3.trans ?_
      rw [hf₂, State.calling_eq h.top, State.setFrames_setFrames, State.pushFrame, State.frames_setTop _ hr', State.setTop_of_frames _ hr', State.setFrames_setFrames, hr]
      rfl
    have hsame : U.sameButNew ({ U with heap := s₂.heap, slotsUsed := s₂.slotsUsed } : State) L mc ms := by
      refine ⟨?_, q2, q3, q4, q5, q6⟩
      obtain ⟨t, ht, -⟩ := State.frames_cons hr
      show ({ U with heap := s₂.heap, slotsUsed := s₂.slotsUsed } : State) = { U.setFrames U.frames with heap := s₂.heap, slotsUsed := s₂.slotsUsed }
      rw [State.setFrames_self ht]
    subst hg
    refine Or.inr ⟨q, ⟨(({ U with heap := s₂.heap, slotsUsed := s₂.slotsUsed } : State).setVm s₂.vm), Ls ++ L, c0 + mc, s0 + ms⟩,
      ⟨X.admits, X.cas, X.clock, X.frames, X.room, X.hears, X.method, X.code, (X.here.setHeapUsed s₂.heap s₂.slotsUsed).setVm hW'.alike, X.tail, State.WarmedH.trans X.warmed hW', X.limits, X.bytes, X.same.trans (hsame.setVm s.vm)⟩,
      ⟨g, mk, s₂, L, E, ce, rfl, rfl, hx, hce, hcv, hcl, rfl, hL, rfl, rfl⟩, ?_⟩
    show Steps p.tables e below _ (((({ U with heap := s₂.heap, slotsUsed := s₂.slotsUsed } : State).setVm s₂.vm).setTop g).pushFrame (.throwing q))
    rw [← hs₂]
    exact hsteps
end Payer
section Calls
variable {p : Program} {l : Launch} {e : Env} {R : Room} {s : State} {m : MethodId} {args : Array Value} {below : List Frame} {meth : Method} {c : Code} {T : State} {locs : List Loc} {cells slots : Nat}
theorem vx_callV (X : Stand p l e R s m args below meth c T locs cells slots) (hexec : p.tables.exec = Jvm.exec) {own C : String} {index : Nat} {y : MethodName} {bytes : ByteArray} {maxL : Nat} {ret : Option FieldType}
    (hown : s.vm.findClass own = some m.cls) (hlink : (Cond.methodLink own index y).before args s = true) (hinst : (Cond.instanceMethod y).before args s = true) (hsel : (Cond.selects C y y).before args s = true)
    (hcode : (Cond.code y bytes maxL ret).before args s = true) (hy : y.cls ≠ "java/lang/invoke/MethodHandle" ∧ y.cls ≠ "java/lang/invoke/VarHandle")
    {W9 : Nat} {Pre : Pt → Array Value → Prop} {Post : Pt → Array Value → Option Value → Pt → Prop} {PostX : Pt → Array Value → Addr → Pt → Prop} (hK : vx_Back l R p e below s args y 3 W9 Pre Post PostX)
    {b : Addr} {cellB : Cell} (hcell : T.heap[b]? = some cellB) (hobj : cellB.vm.isStatics = false) (hcls : s.vm.findClass C = some cellB.cls)
    {g : JFrame} (hg : g.method = m) (hsize : g.locals.size = c.maxLocals) {argsL rest : List Value} (hlen : ∀ sig, parseMethodDescriptor y.desc = some sig → argsL.length = sig.parameters.length)
    (hstack : g.stack = argsL.reverse ++ .ref b :: rest) (hW : 2 * g.monitorRoom + (rest.map fun v => v.category).sum ≤ W9) (hdg : decode c.code g.pc = .ok (.invokevirtual index, 3))
    (hpre : ∀ vm₁, s.WarmedH vm₁ → Pre ⟨T.setVm vm₁, locs, cells, slots⟩ (Value.ref b :: argsL).toArray) :
    (∃ (v : Option Value) (vm₁ : Vm) (B : Pt), s.WarmedH vm₁ ∧ Stand p l e R s m args below meth c B.U B.locs B.cells B.slots ∧ Post ⟨T.setVm vm₁, locs, cells, slots⟩ (Value.ref b :: argsL).toArray v B ∧
      ∀ target, Steps p.tables e below (B.U.setTop { g with pc := g.pc + 3, stack := v.toList ++ rest }) target → Steps p.tables e below (T.setTop g) target) ∨
    (∃ (q : Addr) (vm₁ : Vm) (B : Pt), s.WarmedH vm₁ ∧ Stand p l e R s m args below meth c B.U B.locs B.cells B.slots ∧ PostX ⟨T.setVm vm₁, locs, cells, slots⟩ (Value.ref b :: argsL).toArray q B ∧
      Steps p.tables e below (T.setTop g) ((B.U.setTop { g with stack := rest }).pushFrame (.throwing q))) := by
  obtain ⟨mk, methM, hnamed, hmethM, hstM, habM⟩ := Cond.instanceMethod_spec hinst
  obtain ⟨methM', cM, hmethM', -, -, -, -, -, -, hsigM⟩ := Cond.code_spec hnamed hcode
  cases hmethM.symm.trans hmethM'
  obtain ⟨c2, r2, m2, q1, q2, q3, q4, kP, hkP, hkPi⟩ := Cond.selects_spec hsel
  cases hcls.symm.trans q1
  cases (State.methodFound?_of_named hnamed hy).symm.trans q2
  cases hnamed.symm.trans q3
  have hselP : selectMethod e.platform s.vm cellB.cls mk = .method mk := by rw [Launch.admits_selectMethod X.admits]; exact q4
  obtain ⟨vm₁, X₁, hstep₁⟩ := X.invokevirtual hexec hown hlink hnamed hmethM hstM hkP hkPi hy (a := b) (cell := cellB) hcell
    (fun z h => by rw [h] at hobj; cases hobj) hselP hmethM habM hkP hkPi (g := g) hg (argsL := argsL) (rest := rest) (hlen _ hsigM) hstack hdg
  rcases hK m meth c ⟨T.setVm vm₁, locs, cells, slots⟩ { g with stack := rest } (.invokevirtual index) mk (Value.ref b :: argsL).toArray X₁ hg hsize hdg hW (X₁.named hnamed) (hpre vm₁ X₁.warmed) with ⟨v, B, X', hpost, hsteps⟩ | ⟨q, B, X', hpost, hsteps⟩
  · exact Or.inl ⟨v, vm₁, B, X₁.warmed, X', hpost, fun target h => hstep₁ _ fun acts => by rw [doInvoke_state]; exact hsteps.trans h⟩
  · exact Or.inr ⟨q, vm₁, B, X₁.warmed, X', hpost, hstep₁ _ fun acts => by rw [doInvoke_state]; exact hsteps⟩
theorem vx_callS (X : Stand p l e R s m args below meth c T locs cells slots) (hexec : p.tables.exec = Jvm.exec) {own : String} {index : Nat} {y : MethodName} {bytes : ByteArray} {maxL : Nat} {ret : Option FieldType}
    (hown : s.vm.findClass own = some m.cls) (hlink : (Cond.methodLink own index y).before args s = true) (hstat : (Cond.static y).before args s = true) (hinit : (Cond.initialized y.cls).before args s = true)
    (hcode : (Cond.code y bytes maxL ret).before args s = true) (hy : y.cls ≠ "java/lang/invoke/MethodHandle" ∧ y.cls ≠ "java/lang/invoke/VarHandle")
    {W9 : Nat} {Pre : Pt → Array Value → Prop} {Post : Pt → Array Value → Option Value → Pt → Prop} {PostX : Pt → Array Value → Addr → Pt → Prop} (hK : vx_Back l R p e below s args y 3 W9 Pre Post PostX)
    {g : JFrame} (hg : g.method = m) (hsize : g.locals.size = c.maxLocals) {argsL rest : List Value} (hlen : ∀ sig, parseMethodDescriptor y.desc = some sig → argsL.length = sig.parameters.length)
    (hstack : g.stack = argsL.reverse ++ rest) (hW : 2 * g.monitorRoom + (rest.map fun v => v.category).sum ≤ W9) (hdg : decode c.code g.pc = .ok (.invokestatic index, 3))
    (hpre : ∀ vm₁, s.WarmedH vm₁ → Pre ⟨T.setVm vm₁, locs, cells, slots⟩ argsL.toArray) :
    (∃ (v : Option Value) (vm₁ : Vm) (B : Pt), s.WarmedH vm₁ ∧ Stand p l e R s m args below meth c B.U B.locs B.cells B.slots ∧ Post ⟨T.setVm vm₁, locs, cells, slots⟩ argsL.toArray v B ∧
      ∀ target, Steps p.tables e below (B.U.setTop { g with pc := g.pc + 3, stack := v.toList ++ rest }) target → Steps p.tables e below (T.setTop g) target) ∨
    (∃ (q : Addr) (vm₁ : Vm) (B : Pt), s.WarmedH vm₁ ∧ Stand p l e R s m args below meth c B.U B.locs B.cells B.slots ∧ PostX ⟨T.setVm vm₁, locs, cells, slots⟩ argsL.toArray q B ∧
      Steps p.tables e below (T.setTop g) ((B.U.setTop { g with stack := rest }).pushFrame (.throwing q))) := by
  obtain ⟨mk, hnamed⟩ := Cond.code_named hcode
  obtain ⟨methM, cM, hmethM, -, -, -, -, -, -, hsigM⟩ := Cond.code_spec hnamed hcode
  have hstatic : methM.isStatic = true := Cond.static_spec hnamed hmethM hstat
  obtain ⟨kP, hkP, -⟩ := className_of_methodNamed hnamed
  have hinitP : kP.init = .initialized := Cond.initialized_spec (findClass_of_methodNamed hnamed) hkP hinit
  obtain ⟨vm₁, X₁, hstep₁⟩ := X.invokestatic hexec hown hlink hnamed hmethM hstatic hkP hinitP hy (g := g) hg (argsL := argsL) (rest := rest) (hlen _ hsigM) hstack hdg
  rcases hK m meth c ⟨T.setVm vm₁, locs, cells, slots⟩ { g with stack := rest } (.invokestatic index) mk argsL.toArray X₁ hg hsize hdg hW (X₁.named hnamed) (hpre vm₁ X₁.warmed) with ⟨v, B, X', hpost, hsteps⟩ | ⟨q, B, X', hpost, hsteps⟩
  · exact Or.inl ⟨v, vm₁, B, X₁.warmed, X', hpost, fun target h => hstep₁ _ fun acts => by rw [doInvoke_state]; exact hsteps.trans h⟩
  · exact Or.inr ⟨q, vm₁, B, X₁.warmed, X', hpost, hstep₁ _ fun acts => by rw [doInvoke_state]; exact hsteps⟩
end Calls
theorem vx_cls {s : State} {T : State} {vm₁ : Vm} {E : String} {k : ClassId} (hW : s.WarmedH vm₁) (h : (T.setVm vm₁).vm.findClass E = some k) : s.vm.findClass E = some k := by
  have h1 : vm₁.findClass E = some k := h
  rw [hW.alike.findClass] at h1
  exact h1
/-- the method's frame g, with q thrown over it -/
def vx_W (p : Program) (l : Launch) (e : Env) (R : Room) (s : State) (m : MethodId) (args : Array Value) (below : List Frame) (meth : Method) (c : Code) (H : Heap) (locs : List Loc) (cells slots : Nat) (Q : State → Prop) (g : JFrame) (q : Addr) : Prop :=
  ∀ T : State, T.heap = H → Stand p l e R s m args below meth c T locs cells slots → ∃ t, Steps p.tables e below ((T.setTop g).pushFrame (.throwing q)) t ∧ Q t
def vx_Run (p : Program) (l : Launch) (e : Env) (R : Room) (s : State) (m : MethodId) (args : Array Value) (below : List Frame) (meth : Method) (c : Code) (H : Heap) (locs : List Loc) (cells slots mc ms : Nat) (g : JFrame) (rest : List Value) (Qa : State → Outcome → State → Prop) (XC : String → State → State → Prop) (free : Addr → Prop) : Prop :=
  ∀ T : State, T.heap = H → Stand p l e R s m args below meth c T locs cells slots →
    (∃ (v : Option Value) (st₀ t T' : State) (L : List Loc), st₀.heap = H ∧ Stand p l e R s m args below meth c T' (locs ++ L) (cells + mc) (slots + ms) ∧ (∀ q ∈ L, free q.base) ∧ T'.heap = t.heap ∧ T'.vm = t.vm ∧ Qa st₀ (.returned v) t ∧
      Goes p e below T g T' { g with pc := g.pc + 3, stack := v.toList ++ rest }) ∨
    (∃ (q : Addr) (st₀ t T' : State) (L : List Loc) (E : String) (ce : Cell), st₀.heap = H ∧ Stand p l e R s m args below meth c T' (locs ++ L) (cells + mc) (slots + ms) ∧ (∀ z ∈ L, free z.base) ∧ T'.heap = t.heap ∧ T'.vm = t.vm ∧ XC E st₀ t ∧ t.heap[q]? = some ce ∧ ce.vm = .none ∧ s.vm.findClass E = some ce.cls ∧
      Steps p.tables e below (T.setTop g) ((T'.setTop { g with stack := rest }).pushFrame (.throwing q)))
def vx_X {S : Type} (px : S → Prop) (B : String → S → State → Prop) (A : Nat → Prop) : String → State → State → Prop := fun E st t => ∃ u : S, px u ∧ B E u t ∧ va_F A st t
section Runs
variable {p : Program} {l : Launch} {e : Env} {R : Room} {s : State} {m : MethodId} {args : Array Value} {below : List Frame} {meth : Method} {c : Code} {H : Heap} {locs : List Loc} {cells slots : Nat}
variable {y : MethodName} {bytes cc : ByteArray} {maxL nL mc ms n index : Nat} {ret : Option FieldType} {ws : List Cond} {rm : Room} {Pc : Array Value → State → Prop} {Qc : Array Value → State → Outcome → State → Prop} {XC : String → State → State → Prop} {free : Addr → Prop} {Ts : List Cond} {own C : String} {b : Addr} {As rest : List Value} {g : JFrame}
theorem vx_callBack (cb : CallB R s args own index y bytes maxL ret ws rm mc ms n) (hM : vx_Met l y ws rm Pc Qc XC mc ms free) (hbl : FrameBlind Pc) : vx_Back l R p e below s args y 3 8 (PreOf R mc ms Pc) (PostOf Qc mc ms free) (vx_Post XC mc ms free) := by
  obtain ⟨hrc, hrs, hfr, hlo, hws, hcw, -, hini, -⟩ := cb
  exact vx_back (bytes := bytes) (maxL := maxL) (ret := ret) hM hbl hrc hrs hfr hlo hws hcw (fun a' U hW => word_at hW (Or.inl (by first | rfl | simp [Cond.onTables, Cond.keeps, Cond.steady])) hini)
theorem vx_runV (S : CallFix p m c cc nL s args Ts own) (hM : vx_Met l y ws rm Pc Qc XC mc ms free) (cw : CallW R s args own C index y bytes maxL ret ws rm mc ms n) (hp : PreV s H C b Pc As)
    (hg : g.method = m) (hn : As.length = n) (hsize : g.locals.size = nL) (hstack : g.stack = As.reverse ++ .ref b :: rest) (hW : 2 * g.monitorRoom + (rest.map fun v => v.category).sum ≤ 8) (hdg : decode cc g.pc = .ok (.invokevirtual index, 3)) (hf : cells + mc ≤ R.cells ∧ slots + ms ≤ R.slots) :
    vx_Run p l e R s m args below meth c H locs cells slots mc ms g rest (Qc (Value.ref b :: As).toArray) XC free := by
  have hK : vx_Back l R p e below s args y 3 8 (PreOf R mc ms Pc) (PostOf Qc mc ms free) (vx_Post XC mc ms free) := vx_callBack cw.1 hM hp.1
  obtain ⟨⟨-, -, -, -, -, -, hcode, -, hy, hlen, hl⟩, hin, hse⟩ := cw
  obtain ⟨hx, hb, hml, ho, -⟩ := S
  obtain ⟨-, ⟨cellB, hcB, hoB, hclB⟩, hPc⟩ := hp
  intro T hT X
  rcases vx_callV X hx (C := C) (bytes := bytes) (maxL := maxL) (ret := ret) ho hl hin hse hcode hy hK (by rw [hT]; exact hcB) hoB hclB hg (hsize.trans hml.symm) (argsL := As) (rest := rest) (fun sig h => hn.trans (hlen sig h)) hstack hW (by rw [hb]; exact hdg)
    (fun vm₁ hW₁ => ⟨hf.1, hf.2, hPc (T.setVm vm₁) hT hW₁⟩) with ⟨v, vm₁, ⟨U', l2, c2, s2⟩, hW₁, X', ⟨g', mk, t, L, e1, e2, hq, h1, hL, h2, h3⟩, st⟩ | ⟨q, vm₁, ⟨U', l2, c2, s2⟩, hW₁, X', ⟨g', mk, t, L, E, ce, e1, e2, hq, hce, hcv, hcl, h1, hL, h2, h3⟩, st⟩
  · dsimp only [Pt.U, Pt.locs, Pt.cells, Pt.slots] at X' e1 e2 h1 h2 h3 st
    subst h1; subst h2; subst h3
    exact Or.inl ⟨v, (T.setVm vm₁).calling g' mk (Value.ref b :: As).toArray, t, U', L, hT, X', hL, e1, e2, hq, st⟩
  · dsimp only [Pt.U, Pt.locs, Pt.cells, Pt.slots] at X' e1 e2 h1 h2 h3 st hcl
    subst h1; subst h2; subst h3
    exact Or.inr ⟨q, (T.setVm vm₁).calling g' mk (Value.ref b :: As).toArray, t, U', L, E, ce, hT, X', hL, e1, e2, hq, hce, hcv, vx_cls hW₁ hcl, st⟩
theorem vx_runS (S : CallFix p m c cc nL s args Ts own) (hM : vx_Met l y ws rm Pc Qc XC mc ms free) (cw : CallB R s args own index y bytes maxL ret ws rm mc ms n ∧ (Cond.static y).before args s = true) (hp : PreS s H Pc As)
    (hg : g.method = m) (hn : As.length = n) (hsize : g.locals.size = nL) (hstack : g.stack = As.reverse ++ rest) (hW : 2 * g.monitorRoom + (rest.map fun v => v.category).sum ≤ 8) (hdg : decode cc g.pc = .ok (.invokestatic index, 3)) (hf : cells + mc ≤ R.cells ∧ slots + ms ≤ R.slots) :
    vx_Run p l e R s m args below meth c H locs cells slots mc ms g rest (Qc As.toArray) XC free := by
  have hK : vx_Back l R p e below s args y 3 8 (PreOf R mc ms Pc) (PostOf Qc mc ms free) (vx_Post XC mc ms free) := vx_callBack cw.1 hM hp.1
  obtain ⟨⟨-, -, -, -, -, -, hcode, hini, hy, hlen, hl⟩, hstt⟩ := cw
  obtain ⟨hx, hb, hml, ho, -⟩ := S
  intro T hT X
  rcases vx_callS X hx (bytes := bytes) (maxL := maxL) (ret := ret) ho hl hstt hini hcode hy hK hg (hsize.trans hml.symm) (argsL := As) (rest := rest) (fun sig h => hn.trans (hlen sig h)) hstack hW (by rw [hb]; exact hdg)
    (fun vm₁ hW₁ => ⟨hf.1, hf.2, hp.2 (T.setVm vm₁) hT hW₁⟩) with ⟨v, vm₁, ⟨U', l2, c2, s2⟩, hW₁, X', ⟨g', mk, t, L, e1, e2, hq, h1, hL, h2, h3⟩, st⟩ | ⟨q, vm₁, ⟨U', l2, c2, s2⟩, hW₁, X', ⟨g', mk, t, L, E, ce, e1, e2, hq, hce, hcv, hcl, h1, hL, h2, h3⟩, st⟩
  · dsimp only [Pt.U, Pt.locs, Pt.cells, Pt.slots] at X' e1 e2 h1 h2 h3 st
    subst h1; subst h2; subst h3
    exact Or.inl ⟨v, (T.setVm vm₁).calling g' mk As.toArray, t, U', L, hT, X', hL, e1, e2, hq, st⟩
  · dsimp only [Pt.U, Pt.locs, Pt.cells, Pt.slots] at X' e1 e2 h1 h2 h3 st hcl
    subst h1; subst h2; subst h3
    exact Or.inr ⟨q, (T.setVm vm₁).calling g' mk As.toArray, t, U', L, E, ce, hT, X', hL, e1, e2, hq, hce, hcv, vx_cls hW₁ hcl, st⟩
end Runs
section Rows
variable {p : Program} {l : Launch} {e : Env} {R : Room} {s : State} {m : MethodId} {args : Array Value} {below : List Frame} {meth : Method} {c : Code} {H : Heap} {locs : List Loc} {cells slots : Nat} {Q : State → Prop}
variable {mc ms : Nat} {free : Addr → Prop} {A0 A1 : Nat → Prop} {H0 : Heap} {a : Array Value} {pc : Nat} {ls : Array Slot} {st0 rest : List Value}
theorem vx_keep {st₀ t T' : State} {L : List Loc} (h0 : st₀.heap = H) (e1 : T'.heap = t.heap) (hS : va_S A0 H0 H locs) (hA : ∀ q, q < H.size → A1 q → A0 q) (hf : ∀ q, free q → A0 q) (hL : ∀ q ∈ L, free q.base) (hF : va_F A1 st₀ t) :
    H.size ≤ T'.heap.size ∧ (∀ q : Nat, q < H.size → ¬ A1 q → T'.heap[q]? = H[q]?) ∧ va_S A0 H0 T'.heap (locs ++ L) := by
  obtain ⟨hz, hk⟩ := hF
  rw [h0] at hz hk
  exact ⟨by rw [e1]; exact hz, fun q h1 h2 => by rw [e1]; exact hk q h1 h2,
    ⟨Nat.le_trans hS.1 (by rw [e1]; exact hz), fun q h1 h2 => by rw [e1, hk q (Nat.lt_of_lt_of_le h1 hS.1) (fun z => h2 (hA q (Nat.lt_of_lt_of_le h1 hS.1) z))]; exact hS.2.1 q h1 h2, fun q hq => by
      rcases List.mem_append.mp hq with h | h
      · exact hS.2.2 q h
      · exact hf _ (hL q h)⟩⟩
theorem vx_calli {S SX : Type} {post : Int32 → S → Prop} {px : SX → Prop} {B : S → State → Prop} {BX : String → SX → State → Prop} {AX : Nat → Prop} (hr : vx_Run p l e R s m args below meth c H locs cells slots mc ms (F0 m pc ls st0) rest (va_Qi post B A1 a) (vx_X px BX AX) free) (hS : va_S A0 H0 H locs) (hA : ∀ q, q < H.size → A1 q → A0 q) (hf : ∀ q, free q → A0 q) (hAX : ∀ q, q < H.size → AX q → A0 q)
    (kx : ∀ (E : String) (ce : Cell) (q9 : Addr) (u : SX) (t : State) (H1 : Heap) (locs1 : List Loc), t.heap = H1 → s.vm.Alike t.vm → px u → BX E u t → H.size ≤ H1.size → (∀ q : Nat, q < H.size → ¬ AX q → H1[q]? = H[q]?) → va_S A0 H0 H1 locs1 → H1[q9]? = some ce → ce.vm = .none → s.vm.findClass E = some ce.cls → vx_W p l e R s m args below meth c H1 locs1 (cells + mc) (slots + ms) Q (F0 m pc ls rest) q9)
    (kk : ∀ (r : Int32) (u : S) (t : State) (H1 : Heap) (locs1 : List Loc), t.heap = H1 → s.vm.Alike t.vm → post r u → B u t → H.size ≤ H1.size → (∀ q : Nat, q < H.size → ¬ A1 q → H1[q]? = H[q]?) → va_S A0 H0 H1 locs1 → W p l e R s m args below meth c H1 locs1 (cells + mc) (slots + ms) Q (F0 m (pc + 3) ls (.int r :: rest))) : W p l e R s m args below meth c H locs cells slots Q (F0 m pc ls st0) := by
  intro T hT X
  rcases hr T hT X with ⟨v, st₀, t, T', L, h0, X', hL, e1, e2, ⟨⟨r, u, hv, hp, hb⟩, hF⟩, st⟩ | ⟨q, st₀, t, T', L, E, ce, h0, X', hL, e1, e2, ⟨u, hp, hb, hF⟩, hce, hcv, hcl, st⟩
  · cases hv
    obtain ⟨k1, k2, k3⟩ := vx_keep h0 e1 hS hA hf hL hF
    obtain ⟨t2, a1, b1⟩ := kk r u t T'.heap (locs ++ L) e1.symm (by rw [← e2]; exact X'.warmed.alike) hp hb k1 k2 k3 T' rfl X'
    exact ⟨t2, st t2 a1, b1⟩
  · obtain ⟨k1, k2, k3⟩ := vx_keep h0 e1 hS hAX hf hL hF
    obtain ⟨t2, a1, b1⟩ := kx E ce q u t T'.heap (locs ++ L) e1.symm (by rw [← e2]; exact X'.warmed.alike) hp hb k1 k2 k3 (by rw [e1]; exact hce) hcv hcl T' rfl X'
    exact ⟨t2, st.trans a1, b1⟩
theorem vx_calll {S SX : Type} {post : Int64 → S → Prop} {px : SX → Prop} {B : S → State → Prop} {BX : String → SX → State → Prop} {AX : Nat → Prop} (hr : vx_Run p l e R s m args below meth c H locs cells slots mc ms (F0 m pc ls st0) rest (va_Ql post B A1 a) (vx_X px BX AX) free) (hS : va_S A0 H0 H locs) (hA : ∀ q, q < H.size → A1 q → A0 q) (hf : ∀ q, free q → A0 q) (hAX : ∀ q, q < H.size → AX q → A0 q)
    (kx : ∀ (E : String) (ce : Cell) (q9 : Addr) (u : SX) (t : State) (H1 : Heap) (locs1 : List Loc), t.heap = H1 → s.vm.Alike t.vm → px u → BX E u t → H.size ≤ H1.size → (∀ q : Nat, q < H.size → ¬ AX q → H1[q]? = H[q]?) → va_S A0 H0 H1 locs1 → H1[q9]? = some ce → ce.vm = .none → s.vm.findClass E = some ce.cls → vx_W p l e R s m args below meth c H1 locs1 (cells + mc) (slots + ms) Q (F0 m pc ls rest) q9)
    (kk : ∀ (r : Int64) (u : S) (t : State) (H1 : Heap) (locs1 : List Loc), t.heap = H1 → s.vm.Alike t.vm → post r u → B u t → H.size ≤ H1.size → (∀ q : Nat, q < H.size → ¬ A1 q → H1[q]? = H[q]?) → va_S A0 H0 H1 locs1 → W p l e R s m args below meth c H1 locs1 (cells + mc) (slots + ms) Q (F0 m (pc + 3) ls (.long r :: rest))) : W p l e R s m args below meth c H locs cells slots Q (F0 m pc ls st0) := by
  intro T hT X
  rcases hr T hT X with ⟨v, st₀, t, T', L, h0, X', hL, e1, e2, ⟨⟨r, u, hv, hp, hb⟩, hF⟩, st⟩ | ⟨q, st₀, t, T', L, E, ce, h0, X', hL, e1, e2, ⟨u, hp, hb, hF⟩, hce, hcv, hcl, st⟩
  · cases hv
    obtain ⟨k1, k2, k3⟩ := vx_keep h0 e1 hS hA hf hL hF
    obtain ⟨t2, a1, b1⟩ := kk r u t T'.heap (locs ++ L) e1.symm (by rw [← e2]; exact X'.warmed.alike) hp hb k1 k2 k3 T' rfl X'
    exact ⟨t2, st t2 a1, b1⟩
  · obtain ⟨k1, k2, k3⟩ := vx_keep h0 e1 hS hAX hf hL hF
    obtain ⟨t2, a1, b1⟩ := kx E ce q u t T'.heap (locs ++ L) e1.symm (by rw [← e2]; exact X'.warmed.alike) hp hb k1 k2 k3 (by rw [e1]; exact hce) hcv hcl T' rfl X'
    exact ⟨t2, st.trans a1, b1⟩
theorem vx_callf {S SX : Type} {post : UInt32 → S → Prop} {px : SX → Prop} {B : S → State → Prop} {BX : String → SX → State → Prop} {AX : Nat → Prop} (hr : vx_Run p l e R s m args below meth c H locs cells slots mc ms (F0 m pc ls st0) rest (va_Qf post B A1 a) (vx_X px BX AX) free) (hS : va_S A0 H0 H locs) (hA : ∀ q, q < H.size → A1 q → A0 q) (hf : ∀ q, free q → A0 q) (hAX : ∀ q, q < H.size → AX q → A0 q)
    (kx : ∀ (E : String) (ce : Cell) (q9 : Addr) (u : SX) (t : State) (H1 : Heap) (locs1 : List Loc), t.heap = H1 → s.vm.Alike t.vm → px u → BX E u t → H.size ≤ H1.size → (∀ q : Nat, q < H.size → ¬ AX q → H1[q]? = H[q]?) → va_S A0 H0 H1 locs1 → H1[q9]? = some ce → ce.vm = .none → s.vm.findClass E = some ce.cls → vx_W p l e R s m args below meth c H1 locs1 (cells + mc) (slots + ms) Q (F0 m pc ls rest) q9)
    (kk : ∀ (r : UInt32) (u : S) (t : State) (H1 : Heap) (locs1 : List Loc), t.heap = H1 → s.vm.Alike t.vm → post r u → B u t → H.size ≤ H1.size → (∀ q : Nat, q < H.size → ¬ A1 q → H1[q]? = H[q]?) → va_S A0 H0 H1 locs1 → W p l e R s m args below meth c H1 locs1 (cells + mc) (slots + ms) Q (F0 m (pc + 3) ls (.float r :: rest))) : W p l e R s m args below meth c H locs cells slots Q (F0 m pc ls st0) := by
  intro T hT X
  rcases hr T hT X with ⟨v, st₀, t, T', L, h0, X', hL, e1, e2, ⟨⟨r, u, hv, hp, hb⟩, hF⟩, st⟩ | ⟨q, st₀, t, T', L, E, ce, h0, X', hL, e1, e2, ⟨u, hp, hb, hF⟩, hce, hcv, hcl, st⟩
  · cases hv
    obtain ⟨k1, k2, k3⟩ := vx_keep h0 e1 hS hA hf hL hF
    obtain ⟨t2, a1, b1⟩ := kk r u t T'.heap (locs ++ L) e1.symm (by rw [← e2]; exact X'.warmed.alike) hp hb k1 k2 k3 T' rfl X'
    exact ⟨t2, st t2 a1, b1⟩
  · obtain ⟨k1, k2, k3⟩ := vx_keep h0 e1 hS hAX hf hL hF
    obtain ⟨t2, a1, b1⟩ := kx E ce q u t T'.heap (locs ++ L) e1.symm (by rw [← e2]; exact X'.warmed.alike) hp hb k1 k2 k3 (by rw [e1]; exact hce) hcv hcl T' rfl X'
    exact ⟨t2, st.trans a1, b1⟩
theorem vx_calld {S SX : Type} {post : UInt64 → S → Prop} {px : SX → Prop} {B : S → State → Prop} {BX : String → SX → State → Prop} {AX : Nat → Prop} (hr : vx_Run p l e R s m args below meth c H locs cells slots mc ms (F0 m pc ls st0) rest (va_Qd post B A1 a) (vx_X px BX AX) free) (hS : va_S A0 H0 H locs) (hA : ∀ q, q < H.size → A1 q → A0 q) (hf : ∀ q, free q → A0 q) (hAX : ∀ q, q < H.size → AX q → A0 q)
    (kx : ∀ (E : String) (ce : Cell) (q9 : Addr) (u : SX) (t : State) (H1 : Heap) (locs1 : List Loc), t.heap = H1 → s.vm.Alike t.vm → px u → BX E u t → H.size ≤ H1.size → (∀ q : Nat, q < H.size → ¬ AX q → H1[q]? = H[q]?) → va_S A0 H0 H1 locs1 → H1[q9]? = some ce → ce.vm = .none → s.vm.findClass E = some ce.cls → vx_W p l e R s m args below meth c H1 locs1 (cells + mc) (slots + ms) Q (F0 m pc ls rest) q9)
    (kk : ∀ (r : UInt64) (u : S) (t : State) (H1 : Heap) (locs1 : List Loc), t.heap = H1 → s.vm.Alike t.vm → post r u → B u t → H.size ≤ H1.size → (∀ q : Nat, q < H.size → ¬ A1 q → H1[q]? = H[q]?) → va_S A0 H0 H1 locs1 → W p l e R s m args below meth c H1 locs1 (cells + mc) (slots + ms) Q (F0 m (pc + 3) ls (.double r :: rest))) : W p l e R s m args below meth c H locs cells slots Q (F0 m pc ls st0) := by
  intro T hT X
  rcases hr T hT X with ⟨v, st₀, t, T', L, h0, X', hL, e1, e2, ⟨⟨r, u, hv, hp, hb⟩, hF⟩, st⟩ | ⟨q, st₀, t, T', L, E, ce, h0, X', hL, e1, e2, ⟨u, hp, hb, hF⟩, hce, hcv, hcl, st⟩
  · cases hv
    obtain ⟨k1, k2, k3⟩ := vx_keep h0 e1 hS hA hf hL hF
    obtain ⟨t2, a1, b1⟩ := kk r u t T'.heap (locs ++ L) e1.symm (by rw [← e2]; exact X'.warmed.alike) hp hb k1 k2 k3 T' rfl X'
    exact ⟨t2, st t2 a1, b1⟩
  · obtain ⟨k1, k2, k3⟩ := vx_keep h0 e1 hS hAX hf hL hF
    obtain ⟨t2, a1, b1⟩ := kx E ce q u t T'.heap (locs ++ L) e1.symm (by rw [← e2]; exact X'.warmed.alike) hp hb k1 k2 k3 (by rw [e1]; exact hce) hcv hcl T' rfl X'
    exact ⟨t2, st.trans a1, b1⟩
theorem vx_callv {S SX : Type} {post : S → Prop} {px : SX → Prop} {B : S → State → Prop} {BX : String → SX → State → Prop} {AX : Nat → Prop} (hr : vx_Run p l e R s m args below meth c H locs cells slots mc ms (F0 m pc ls st0) rest (va_Qv post B A1 a) (vx_X px BX AX) free) (hS : va_S A0 H0 H locs) (hA : ∀ q, q < H.size → A1 q → A0 q) (hf : ∀ q, free q → A0 q) (hAX : ∀ q, q < H.size → AX q → A0 q)
    (kx : ∀ (E : String) (ce : Cell) (q9 : Addr) (u : SX) (t : State) (H1 : Heap) (locs1 : List Loc), t.heap = H1 → s.vm.Alike t.vm → px u → BX E u t → H.size ≤ H1.size → (∀ q : Nat, q < H.size → ¬ AX q → H1[q]? = H[q]?) → va_S A0 H0 H1 locs1 → H1[q9]? = some ce → ce.vm = .none → s.vm.findClass E = some ce.cls → vx_W p l e R s m args below meth c H1 locs1 (cells + mc) (slots + ms) Q (F0 m pc ls rest) q9)
    (kk : ∀ (u : S) (t : State) (H1 : Heap) (locs1 : List Loc), t.heap = H1 → s.vm.Alike t.vm → post u → B u t → H.size ≤ H1.size → (∀ q : Nat, q < H.size → ¬ A1 q → H1[q]? = H[q]?) → va_S A0 H0 H1 locs1 → W p l e R s m args below meth c H1 locs1 (cells + mc) (slots + ms) Q (F0 m (pc + 3) ls (rest))) : W p l e R s m args below meth c H locs cells slots Q (F0 m pc ls st0) := by
  intro T hT X
  rcases hr T hT X with ⟨v, st₀, t, T', L, h0, X', hL, e1, e2, ⟨⟨u, hv, hp, hb⟩, hF⟩, st⟩ | ⟨q, st₀, t, T', L, E, ce, h0, X', hL, e1, e2, ⟨u, hp, hb, hF⟩, hce, hcv, hcl, st⟩
  · cases hv
    obtain ⟨k1, k2, k3⟩ := vx_keep h0 e1 hS hA hf hL hF
    obtain ⟨t2, a1, b1⟩ := kk u t T'.heap (locs ++ L) e1.symm (by rw [← e2]; exact X'.warmed.alike) hp hb k1 k2 k3 T' rfl X'
    exact ⟨t2, st t2 a1, b1⟩
  · obtain ⟨k1, k2, k3⟩ := vx_keep h0 e1 hS hAX hf hL hF
    obtain ⟨t2, a1, b1⟩ := kx E ce q u t T'.heap (locs ++ L) e1.symm (by rw [← e2]; exact X'.warmed.alike) hp hb k1 k2 k3 (by rw [e1]; exact hce) hcv hcl T' rfl X'
    exact ⟨t2, st.trans a1, b1⟩
/-- caught by the row x of this method's table; the rows ahead don't take it -/
theorem vx_catch {own name : String} {E : String} {ce : Cell} {q : Addr} (hown : s.vm.findClass own = some m.cls) (pre : List ExceptionTableEntry) (x : ExceptionTableEntry) (suf : List ExceptionTableEntry) (hsplit : c.exceptionTable.toList = pre ++ x :: suf)
    (hpass : ∀ z ∈ pre, covers z pc = false ∨ (z.catchType ≠ 0 ∧ ∃ nm : String, (Cond.classLink own z.catchType nm).before args s = true ∧ va_Nc E nm s)) (hx : covers x pc = true) (h0 : x.catchType ≠ 0)
    (hlink : (Cond.classLink own x.catchType name).before args s = true) (hcast : (Cond.castable E name).before args s = true) (hcell : H[q]? = some ce) (hv : ce.vm = .none) (hcl : s.vm.findClass E = some ce.cls)
    (kk : W p l e R s m args below meth c H locs cells slots Q (F0 m x.handlerPc ls [.ref q])) : vx_W p l e R s m args below meth c H locs cells slots Q (F0 m pc ls rest) q := by
  intro T hT X
  have hpl : e.platform.magicAccessors = ({} : Platform).magicAccessors := by rw [X.admits.platform]
  obtain ⟨c3, c4, hc3, hc4, hasg⟩ := Cond.castable_spec hcast
  cases Option.some.inj (hc3.symm.trans hcl)
  obtain ⟨c5, hc5, hcl5⟩ := Cond.classLink_spec hown hlink e.platform hpl
  cases Option.some.inj (hc4.symm.trans hc5)
  obtain ⟨vm', X', st⟩ := Stand.thenCaughtThrough X q (g := F0 m pc ls rest) rfl (Steps.refl _) (by rw [hT]; exact hcell) (by rw [hv]; rfl) (by obtain ⟨k9, h9, -⟩ := Vm.findClass_spec hcl; exact ⟨k9, h9⟩) pre x suf hsplit
    (fun z hz => by
      rcases hpass z hz with h | ⟨hz0, nm, hl1, hn1⟩
      · exact Or.inl h
      · obtain ⟨c6, hc6, hcl6⟩ := Cond.classLink_spec hown hl1 e.platform hpl
        obtain ⟨a8, b8, h1, h2, h3⟩ := hn1
        cases Option.some.inj (h1.symm.trans hcl)
        cases Option.some.inj (h2.symm.trans hc6)
        exact Or.inr ⟨hz0, _, hcl6, h3⟩) hx (Or.inr ⟨h0, c4, hcl5, hasg⟩)
  obtain ⟨t, a1, b1⟩ := kk (T.setVm vm') hT X'
  exact ⟨t, st.trans a1, b1⟩
end Rows
section Ends
variable {p : Program} {l : Launch} {e : Env} {R : Room} {s : State} {m : MethodId} {args : Array Value} {below : List Frame} {meth : Method} {c : Code} {H : Heap} {locs : List Loc} {cells slots : Nat} {Q : State → Prop}
variable {mc ms : Nat} {free : Addr → Prop} {A0 A1 : Nat → Prop} {H0 : Heap} {a : Array Value} {ls : Array Slot} {st0 rest : List Value}
variable {Qc : Array Value → State → Outcome → State → Prop} {XC : String → State → State → Prop}
/-- what a body that may throw owes at its end -/
def vx_MQ (below : List Frame) (Qc : Array Value → State → Outcome → State → Prop) (XC : String → State → State → Prop) (a : Array Value) (s : State) (mc ms : Nat) (free : Addr → Prop) : State → Prop := fun t =>
  ∃ o, t.status = .running ∧ Ended t below o ∧ vx_Q Qc XC mc ms free a s o t
theorem vx_ret {g : JFrame} {mc ms : Nat} (k : W p l e R s m args below meth c H locs cells slots (MQ below Qc args s mc ms free) g) : W p l e R s m args below meth c H locs cells slots (vx_MQ below Qc XC args s mc ms free) g := by
  intro T hT X
  obtain ⟨t, a1, o, b1, b2, b3, b4⟩ := k T hT X
  exact ⟨t, a1, o, b1, b2, Or.inl ⟨b3, b4⟩⟩
/-- not caught here: it goes on to the caller -/
theorem vx_widen {g : JFrame} {q : Addr} {k n : Nat} (h1 : cells ≤ k) (h2 : slots ≤ n) (kk : vx_W p l e R s m args below meth c H locs k n Q g q) : vx_W p l e R s m args below meth c H locs cells slots Q g q := fun T hT X => kk T hT (stand_widen X h1 h2)
theorem vx_out {pc : Nat} {E : String} {ce : Cell} {q : Addr} {mc ms : Nat} (hout : ∀ x ∈ c.exceptionTable.toList, covers x pc = false) (hlocks : meth.locks = false) (hcell : H[q]? = some ce) (hv : ce.vm = .none) (hcl : s.vm.findClass E = some ce.cls)
    (hx : ∀ t : State, t.heap = H → s.vm.Alike t.vm → XC E s t) (hf : ∀ z ∈ locs, free z.base) (hc : cells ≤ mc) (hs : slots ≤ ms) :
    vx_W p l e R s m args below meth c H locs cells slots (vx_MQ below Qc XC args s mc ms free) (F0 m pc ls rest) q := by
  intro T hT X
  obtain ⟨st1, hrun, hend, hW, hsm⟩ := X.leaveThrown q (g := F0 m pc ls rest) rfl rfl rfl hout hlocks
  have hcell9 : (T.setFrames (.throwing q :: below)).heap[q]? = some ce := by
    show T.heap[q]? = some ce
    rw [hT]; exact hcell
  exact ⟨_, st1, .threw q, hrun, hend, Or.inr ⟨q, rfl, E, ce, locs, hx _ hT hW.alike, hcell9, hv, hcl, hW, hsm.mono hc hs, hf⟩⟩
theorem vx_frame {U : State} {k n : Nat} (h : s.sameButNew ({ U with vm := s.vm } : State) locs k n) : s.heap.size ≤ U.heap.size ∧ ∀ q : Nat, q < s.heap.size → (∀ z ∈ locs, z.base ≠ q) → U.heap[q]? = s.heap[q]? := by
  obtain ⟨-, h2, -, -, -, h6⟩ := h
  refine ⟨h2, fun q hq hz => ?_⟩
  obtain ⟨c9, e1, e2, e3, e4⟩ := h6 q _ (Array.getElem?_eq_getElem hq)
  have hs : c9.slots = (s.heap[q]).slots := Array.ext_getElem? fun i => e4 i fun hm => hz _ hm rfl
  have h9 : c9 = s.heap[q] := by
    rw [hs] at e2
    exact e2
  have e5 : U.heap[q]? = some c9 := e1
  rw [e5, h9, Array.getElem?_eq_getElem hq]
/-- the words of a throw but the four that speak of the heap -/
def vx_no (w : Cond) : Bool := decide (w ≠ .isRef (.static Bundle.tN "UNASSIGNED_STACK" Bundle.steD)) && decide (w ≠ .isRef (.static Bundle.tN "SUPPRESSED_SENTINEL" Bundle.listD)) && decide (w ≠ .laysStatic Bundle.tN "UNASSIGNED_STACK" Bundle.steD) && decide (w ≠ .laysStatic Bundle.tN "SUPPRESSED_SENTINEL" Bundle.listD)
def vx_at0 (own : String) (ic : Nat) (X : String) (names : List String) : List Cond := (Bundle.ownAtoms0 own ic X names).filter vx_no
def vx_atS (own : String) (ic : Nat) (X : String) (names : List String) : List Cond := (Bundle.ownAtoms own ic X names).filter vx_no
/-- a word that the tables alone decide, or a good one -/
def vx_ot (w : Cond) : Bool := w.onTables || goodWord w
theorem vx_ot_at {args a' : Array Value} {s U : State} {w : Cond} (hW : s.WarmedH U.vm) (hvm : s.vm = U.vm) (hg : vx_ot w = true) (h : w.before args s = true) : w.before a' U = true := by
  simp only [vx_ot, Bool.or_eq_true] at hg
  rcases hg with hg | hg
  · exact va_tabs hg hvm h
  · exact word_at hW (good_of_word hg) h
/-- a list's words: the good ones out of the method's own list, the others by premises of their own -/
theorem vx_hat {args : Array Value} {s : State} {L B : List Cond} (h1 : ∀ w ∈ L.filter goodWord, w.before args s = true) (h2 : ∀ w ∈ L.filter (fun w => !goodWord w), w ∈ B) (h3 : ∀ w ∈ B, w.before args s = true) : ∀ w ∈ L, w.before args s = true := by
  intro w hw
  by_cases g : goodWord w = true
  · exact h1 w (List.mem_filter.mpr ⟨hw, g⟩)
  · refine h3 w (h2 w (List.mem_filter.mpr ⟨hw, ?_⟩))
    show (!goodWord w) = true
    cases hgw : goodWord w
    · rfl
    · exact absurd hgw g
theorem vx_c {args : Array Value} {s : State} {w : Cond} {B : List Cond} (h : w.before args s = true) (t : ∀ w ∈ B, w.before args s = true) : ∀ w' ∈ w :: B, w'.before args s = true := fun w' h' => (List.mem_cons.mp h').elim (fun e => by rw [e]; exact h) (t w')
theorem vx_n {args : Array Value} {s : State} : ∀ w ∈ ([] : List Cond), w.before args s = true := fun _ h => nomatch h
theorem vx_own {args : Array Value} {s : State} {L : List Cond} (h1 : ∀ w ∈ L.filter vx_no, w.before args s = true)
    (hU : (Cond.isRef (.static Bundle.tN "UNASSIGNED_STACK" Bundle.steD)).before args s = true) (hN : (Cond.isRef (.static Bundle.tN "SUPPRESSED_SENTINEL" Bundle.listD)).before args s = true)
    (lU : (Cond.laysStatic Bundle.tN "UNASSIGNED_STACK" Bundle.steD).before args s = true) (lN : (Cond.laysStatic Bundle.tN "SUPPRESSED_SENTINEL" Bundle.listD).before args s = true) : ∀ w ∈ L, w.before args s = true := by
  intro w hw
  by_cases e1 : w = .isRef (.static Bundle.tN "UNASSIGNED_STACK" Bundle.steD)
  · rw [e1]; exact hU
  · by_cases e2 : w = .isRef (.static Bundle.tN "SUPPRESSED_SENTINEL" Bundle.listD)
    · rw [e2]; exact hN
    · by_cases e3 : w = .laysStatic Bundle.tN "UNASSIGNED_STACK" Bundle.steD
      · rw [e3]; exact lU
      · by_cases e4 : w = .laysStatic Bundle.tN "SUPPRESSED_SENTINEL" Bundle.listD
        · rw [e4]; exact lN
        · exact h1 w (List.mem_filter.mpr ⟨hw, by unfold vx_no; rw [decide_eq_true e1, decide_eq_true e2, decide_eq_true e3, decide_eq_true e4]; rfl⟩)
/-- where a static field lies, its class's statics cell in H -/
def vx_L (C n d : String) (A : Nat → Prop) (U : State) (H : Heap) : Prop := ∃ (c : ClassId) (k : Class) (i : Nat) (f : Field) (a : Nat) (cell : Cell), U.vm.findClass C = some c ∧ U.fieldFound? C n d = some (c, k, i, f) ∧ f.isStatic = true ∧ k.statics = some a ∧ H[a]? = some cell ∧ cell.vm.isStatics = true ∧ cell.cls = c ∧ f.slot < cell.slots.size ∧ k.staticTypes[f.slot]? = some f.type ∧ ¬ A a
theorem vx_L.moved {C n d : String} {A : Nat → Prop} {u U : State} {H : Heap} (hvm : u.vm.Alike U.vm) (h : vx_L C n d A u H) : vx_L C n d A U H := by
  obtain ⟨c, k, i, f, a, cell, h1, h2, h3, h4, h5, h6, h7, h8, h9, h10⟩ := h
  obtain ⟨k', hi', he⟩ := State.fieldFound?_setVm hvm h2
  exact ⟨c, k', i, f, a, cell, by rw [hvm.findClass]; exact h1, hi', h3, by rw [he]; exact h4, h5, h6, h7, h8, by rw [he]; exact h9, h10⟩
theorem vx_L.kept {C n d : String} {A : Nat → Prop} {U : State} {H H1 : Heap} (h : vx_L C n d A U H) (hq : ∀ a : Nat, a < H.size → ¬ A a → H1[a]? = H[a]?) : vx_L C n d A U H1 := by
  obtain ⟨c, k, i, f, a, cell, h1, h2, h3, h4, h5, h6, h7, h8, h9, h10⟩ := h
  exact ⟨c, k, i, f, a, cell, h1, h2, h3, h4, by rw [hq a (Array.getElem?_eq_some_iff.mp h5).1 h10]; exact h5, h6, h7, h8, h9, h10⟩
theorem vx_L.narrow {C n d : String} {A B : Nat → Prop} {U : State} {H : Heap} (h : vx_L C n d A U H) (hAB : ∀ q, B q → A q) : vx_L C n d B U H := by
  obtain ⟨c, k, i, f, a, cell, h1, h2, h3, h4, h5, h6, h7, h8, h9, h10⟩ := h
  exact ⟨c, k, i, f, a, cell, h1, h2, h3, h4, h5, h6, h7, h8, h9, fun z => h10 (hAB _ z)⟩
theorem vx_L.word {C n d : String} {A : Nat → Prop} {s : State} {args : Array Value} (h : vx_L C n d A s s.heap) : (Cond.laysStatic C n d).before args s = true := by
  obtain ⟨c, k, i, f, a, cell, h1, h2, h3, h4, h5, h6, h7, h8, h9, -⟩ := h
  show (Cond.laysStatic C n d).holds args s none s [] = true
  exact Cond.laysStatic_of h1 h2 h3 h4 h5 h6 h7 h8 h9
/-- .. and what it holds: null or some reference -/
def vx_Zq (C n d : String) (A : Nat → Prop) (U : State) (H : Heap) : Prop := va_Zq C n d A U H ∧ vx_L C n d A U H
theorem vx_Zq.moved {C n d : String} {A : Nat → Prop} {u U : State} {H : Heap} (hvm : u.vm.Alike U.vm) (h : vx_Zq C n d A u H) : vx_Zq C n d A U H := ⟨va_Zq.moved hvm h.1, vx_L.moved hvm h.2⟩
theorem vx_Zq.kept {C n d : String} {A : Nat → Prop} {U : State} {H H1 : Heap} (h : vx_Zq C n d A U H) (hq : ∀ a : Nat, a < H.size → ¬ A a → H1[a]? = H[a]?) : vx_Zq C n d A U H1 := ⟨va_Zq.kept h.1 hq, vx_L.kept h.2 hq⟩
theorem vx_Zq.narrow {C n d : String} {A B : Nat → Prop} {U : State} {H : Heap} (h : vx_Zq C n d A U H) (hAB : ∀ q, B q → A q) : vx_Zq C n d B U H := ⟨va_Zq.narrow h.1 hAB, vx_L.narrow h.2 hAB⟩
theorem vx_Zqof {args : Array Value} {s : State} {C n d : String} {A : Nat → Prop} (hl : (Cond.laysStatic C n d).before args s = true) (hini : (Cond.initialized C).before args s = true) (h : (Cond.isRef (.static C n d)).before args s = true) (hA : ∀ a : Nat, a < s.heap.size → ¬ A a) : vx_Zq C n d A s s.heap := by
  refine ⟨va_Zqof hl hini h hA, ?_⟩
  obtain ⟨c, k, i, f, a, cell, h1, h2, h3, h4, h5, h6, h7, h8, h9⟩ := Cond.laysStatic_spec hl
  exact ⟨c, k, i, f, a, cell, h1, h2, h3, h4, h5, h6, h7, h8, h9, hA a (Array.getElem?_eq_some_iff.mp h5).1⟩
theorem vx_isRef {C n d : String} {v : Value} {A : Nat → Prop} {s : State} {args : Array Value} (h : va_Z C n d v A s s.heap) (hv : v.isRef = true) : (Cond.isRef (.static C n d)).before args s = true := by
  obtain ⟨cf, kf, fi, f, a, cell, h1, h2, h3, h4, h5, h6, h7, -⟩ := h
  have he : (Term.static C n d).eval args s none [] s = some v := by
    simp [Term.eval, State.fieldNamed?, h1, h2, h4, h5, h6, h7]
  simp only [Cond.before, Cond.holds, Cond.value, he]
  cases v <;> simp_all [Value.isRef]
theorem vx_isRefq {C n d : String} {A : Nat → Prop} {s : State} {args : Array Value} (h : va_Zq C n d A s s.heap) : (Cond.isRef (.static C n d)).before args s = true := by
  rcases h with h | ⟨t, h⟩
  · exact vx_isRef h rfl
  · exact vx_isRef h rfl
/-- the same frame, seen from here: as if the method were called anew in this heap -/
theorem vx_rebase {T : State} (X : Stand p l e R s m args below meth c T locs cells slots) {R' : Room} (hf : R'.frames ≤ R.frames) (hl : R'.locals ≤ R.locals) (hc : cells + R'.cells ≤ R.cells) (hs : slots + R'.slots ≤ R.slots) :
    Stand p l e R' ((T.setVm s.vm).setFrames (.invoking m args :: below)) m args below meth c T [] 0 0 := by
  have htop : (T.setVm s.vm).topJava?.isSome := X.here.top
  have hF : ((T.setVm s.vm).setFrames (.invoking m args :: below)).frames = .invoking m args :: below := State.frames_setFrames _ (State.cur_lt_of_top htop)
  obtain ⟨g₀, hg0⟩ := Option.isSome_iff_exists.mp htop
  obtain ⟨r, hr⟩ := State.topJava?_eq_some.mp hg0
  have hl9 : e.platform.stackLimits (T.setVm s.vm).me = e.platform.stackLimits s.me := X.limits
  have hb9 : (T.setVm s.vm).me.stackBytes = s.me.stackBytes := X.bytes
  refine ⟨X.admits, X.cas, X.clock, hF, ?_, X.hears, X.method, X.code, X.here, X.tail, X.warmed, ?_, ?_, ?_⟩
  · have h := X.room
    have hU : ((T.setVm s.vm).setFrames (.invoking m args :: below)).localsInUse = s.localsInUse := by
      rw [State.localsInUse_invoking hF (meth := meth) (c := c) X.method X.code, State.localsInUse_invoking X.frames X.method X.code]
    simp only [State.hasRoom, Bool.and_eq_true, decide_eq_true_eq] at h ⊢
    obtain ⟨⟨⟨⟨h1, h2, h3, h4, h5, h6⟩, h7⟩, h8⟩, h9⟩ := h
    rw [X.frames, List.length_cons] at h2 h3
    have q1 := X.heapSize
    have q2 := X.used
    simp only [hF, hU, List.length_cons, State.stackLimits_setFrames, State.stackBytes_setFrames, hl9, hb9]
    refine ⟨⟨⟨⟨by omega, by omega, by omega, by omega, by omega, h6⟩, ?_⟩, ?_⟩, X.book⟩
    · show T.heap.size + R'.cells ≤ e.platform.maxCells
      omega
    · show T.slotsUsed + R'.slots ≤ e.platform.maxSlots
      omega
  · rw [State.stackLimits_setFrames]; rfl
  · rw [State.stackBytes_setFrames]; rfl
  · refine ⟨?_, Nat.le_refl _, Nat.le_refl _, ?_, ?_, fun a c9 h9 => ⟨c9, h9, rfl, rfl, fun _ _ => rfl⟩⟩
    · obtain ⟨t, ht, -⟩ := State.frames_cons hr
      show T.setVm s.vm = { ((T.setVm s.vm).setFrames (.invoking m args :: below)).setFrames (T.setVm s.vm).frames with heap := T.heap, slotsUsed := T.slotsUsed }
      rw [State.setFrames_setFrames, State.setFrames_self ht]
      rfl
    · show T.slotsUsed = T.slotsUsed + ((T.heap.toList.drop T.heap.size).map (·.slots.size)).sum
      rw [List.drop_eq_nil_of_le (Nat.le_of_eq Array.length_toList)]
      rfl
    · show ((T.heap.toList.drop T.heap.size).map (·.slots.size)).sum ≤ 0
      rw [List.drop_eq_nil_of_le (Nat.le_of_eq Array.length_toList)]
      exact Nat.le_refl _
/-- 'throw new E()': new; dup; invokespecial; athrow -/
theorem vx_throw0 {cc : ByteArray} {pc : Nat} (hexec : p.tables.exec = Jvm.exec) (hb : c.code = cc) (hl : l.stackTraces = false) {own cls : String} {names : List String} {ik ic mc ms : Nat} {A : Nat → Prop}
    (hown : s.vm.findClass own = some m.cls) (hcls : Bundle.fit cls = true) (hnames : ∀ n ∈ names, Bundle.fit n = true)
    (hk : (Cond.classLink own ik cls).before args s = true) (hini : (Cond.initialized cls).before args s = true) (hat : ∀ w ∈ vx_at0 own ic cls names, w.before args s = true)
    (hgood : ∀ w ∈ Cond.classLink own ik cls :: Cond.initialized cls :: vx_at0 own ic cls names, vx_ot w = true)
    (hU : vx_Zq Bundle.tN "UNASSIGNED_STACK" Bundle.steD A s s.heap) (hN : vx_Zq Bundle.tN "SUPPRESSED_SENTINEL" Bundle.listD A s s.heap) (hS : va_S A s.heap H locs) (hsize : ls.size = c.maxLocals)
    (d0 : decode cc pc = .ok (.new ik, 3)) (d3 : decode cc (pc + 3) = .ok (.dup, 1)) (d4 : decode cc (pc + 4) = .ok (.invokespecial ic, 3)) (d7 : decode cc (pc + 7) = .ok (.athrow, 1))
    (hout : ∀ x ∈ c.exceptionTable.toList, covers x (pc + 7) = false)
    (hRframes : names.length + 3 < R.frames) (hRlocals : (rest.map fun v => v.category).sum + (13 * (names.length + 1) + 42) ≤ R.locals) (hRcells : cells + 1 ≤ R.cells) (hRslots : slots + 6 ≤ R.slots) (hlocks : meth.locks = false)
    (hx : ∀ t : State, s.vm.Alike t.vm → H.size ≤ t.heap.size → (∀ q : Nat, q < H.size → t.heap[q]? = H[q]?) → XC cls s t)
    (hf : ∀ z ∈ locs, free z.base) (hc : cells + 1 ≤ mc) (hs : slots + 6 ≤ ms) :
    W p l e R s m args below meth c H locs cells slots (vx_MQ below Qc XC args s mc ms free) (F0 m pc ls rest) := by
  intro T hT X
  have htr : e.platform.stackTraces = false := (show e.platform.stackTraces = l.stackTraces by rw [X.admits.platform]).trans hl
  have Y := vx_rebase X (R' := { frames := R.frames, locals := R.locals, cells := 1, slots := 6 }) (Nat.le_refl _) (Nat.le_refl _) hRcells hRslots
  obtain ⟨s', hA⟩ : ∃ z, z = (T.setVm s.vm).setFrames (.invoking m args :: below) := ⟨_, rfl⟩
  rw [← hA] at Y
  have hvm : s'.vm = s.vm := by rw [hA]; rfl
  have hhp : s'.heap = H := by rw [hA]; exact hT
  have hW0 : s.WarmedH s'.vm := by rw [hvm]; exact State.WarmedH.refl s
  have hat' : ∀ w ∈ vx_at0 own ic cls names, w.before args s' = true := fun w hw => vx_ot_at hW0 hvm.symm (hgood w (List.mem_cons_of_mem _ (List.mem_cons_of_mem _ hw))) (hat w hw)
  have hk' : (Cond.classLink own ik cls).before args s' = true := vx_ot_at hW0 hvm.symm (hgood _ List.mem_cons_self) hk
  have hini' : (Cond.initialized cls).before args s' = true := vx_ot_at hW0 hvm.symm (hgood _ (List.mem_cons_of_mem _ List.mem_cons_self)) hini
  have hU' : vx_Zq Bundle.tN "UNASSIGNED_STACK" Bundle.steD A s' s'.heap := by rw [hhp]; exact vx_Zq.moved hW0.alike (hU.kept hS.2.1)
  have hN' : vx_Zq Bundle.tN "SUPPRESSED_SENTINEL" Bundle.listD A s' s'.heap := by rw [hhp]; exact vx_Zq.moved hW0.alike (hN.kept hS.2.1)
  have h : ∀ w ∈ Bundle.ownAtoms0 own ic cls names, w.before args s' = true := vx_own hat' (vx_isRefq hU'.1) (vx_isRefq hN'.1) hU'.2.word hN'.2.word
  have hown' : s'.vm.findClass own = some m.cls := by rw [hvm]; exact hown
  have hins : (Cond.instantiable cls 6).before args s' = true := h _ (by simp [Bundle.ownAtoms0])
  obtain ⟨vm₁, cX, kX, hfX, hkX, -, -, X₁, st1⟩ := Y.newCold hexec (own := own) (C := cls) (index := ik) (n := 6) hown' hk' hins hini'
    (g := F0 m pc ls rest) rfl (by rw [hb]; exact d0) (Nat.le_refl _) (Nat.le_refl _)
  generalize hT1 : (T.setVm vm₁).pushCell { cls := cX, slots := kX.instanceTypes.map defaultValue, vm := .none } = T1 at X₁ st1
  have hcat : (Value.ref T.heap.size).category = 1 := rfl
  have hcellA : T1.heap[T.heap.size]? = some (freshCell cX kX) := by rw [← hT1]; exact State.heap_pushCell_size _ _
  have d3' : decode c.code (pc + 3) = .ok (.dup, 1) := by rw [hb]; exact d3
  obtain ⟨U, hsteps, hrun, hend, hW, hsame, ce, hce, hO⟩ := X₁.ctorThrow0 hexec htr (own := own) (cls := cls) (names := names) (ic := ic) hown' hcls hnames h (fun x hx => nomatch hx) hfX hkX hcellA (by rw [hhp, hT]; exact Nat.le_refl _)
    (g := { method := m, pc := pc + 4, locals := ls, stack := .ref T.heap.size :: .ref T.heap.size :: rest, locked := none }) rfl hsize rfl rfl (rest := rest) rfl
    (by rw [hb]; exact d4) (by rw [hb]; exact d7) hout hRframes (by simp only [List.map_cons, List.sum_cons, hcat]; omega) hlocks
  obtain ⟨f1, f2⟩ := vx_frame hsame
  rw [hhp] at f1 f2
  have hWs : s.WarmedH U.vm := State.WarmedH.trans hW0 hW
  have hcl : s.vm.findClass cls = some ce.cls := by
    have h9 := hO.cls
    rw [hvm] at h9
    exact h9
  have hall : s.sameButNew ({ U with vm := s.vm } : State) locs mc ms := by
    subst hA
    obtain ⟨e1, e2⟩ := hsame
    rw [State.setFrames_setFrames] at e1
    have h2 : (T.setVm s.vm).sameButNew ({ U with vm := s.vm } : State) [] (0 + 1) (0 + 6) := ⟨e1, e2⟩
    have h3 := X.same.trans h2
    rw [List.append_nil] at h3
    exact h3.mono hc hs
  refine ⟨U, ?_, .threw T.heap.size, hrun, hend, Or.inr ⟨T.heap.size, rfl, cls, ce, locs, hx U hWs.alike f1 (fun q hq => f2 q hq (fun z hz => nomatch hz)), hce, hO.vm, hcl, hWs, hall, hf⟩⟩
  refine st1 _ ?_
  show Steps p.tables e below (T1.setTop { method := m, pc := pc + 3, locals := ls, stack := .ref T.heap.size :: rest, locked := none }) _
  jvm_step X₁.here [X₁.here.top, hexec, d3', Value.category]
  exact hsteps
/-- 'throw new E("text")': new; dup; ldc; invokespecial; athrow -/
theorem vx_throwS {cc : ByteArray} {pc : Nat} (hexec : p.tables.exec = Jvm.exec) (hb : c.code = cc) (hl : l.stackTraces = false) {own cls text : String} {names : List String} {ik is ic mc ms sa : Nat} {A : Nat → Prop}
    (hown : s.vm.findClass own = some m.cls) (hcls : Bundle.fit cls = true) (hnames : ∀ n ∈ names, Bundle.fit n = true)
    (hk : (Cond.classLink own ik cls).before args s = true) (hini : (Cond.initialized cls).before args s = true) (hstr : vk_R own is text sa s) (hat : ∀ w ∈ vx_atS own ic cls names, w.before args s = true)
    (hgood : ∀ w ∈ Cond.classLink own ik cls :: Cond.initialized cls :: vx_atS own ic cls names, vx_ot w = true)
    (hU : vx_Zq Bundle.tN "UNASSIGNED_STACK" Bundle.steD A s s.heap) (hN : vx_Zq Bundle.tN "SUPPRESSED_SENTINEL" Bundle.listD A s s.heap) (hS : va_S A s.heap H locs) (hsize : ls.size = c.maxLocals)
    (d0 : decode cc pc = .ok (.new ik, 3)) (d3 : decode cc (pc + 3) = .ok (.dup, 1)) (d4 : decode cc (pc + 4) = .ok (.ldc is, 2)) (d6 : decode cc (pc + 6) = .ok (.invokespecial ic, 3)) (d9 : decode cc (pc + 9) = .ok (.athrow, 1))
    (hout : ∀ x ∈ c.exceptionTable.toList, covers x (pc + 9) = false)
    (hRframes : names.length + 3 < R.frames) (hRlocals : (rest.map fun v => v.category).sum + (13 * (names.length + 1) + 43) ≤ R.locals) (hRcells : cells + 1 ≤ R.cells) (hRslots : slots + 6 ≤ R.slots) (hlocks : meth.locks = false)
    (hx : ∀ t : State, s.vm.Alike t.vm → H.size ≤ t.heap.size → (∀ q : Nat, q < H.size → t.heap[q]? = H[q]?) → XC cls s t)
    (hf : ∀ z ∈ locs, free z.base) (hc : cells + 1 ≤ mc) (hs : slots + 6 ≤ ms) :
    W p l e R s m args below meth c H locs cells slots (vx_MQ below Qc XC args s mc ms free) (F0 m pc ls rest) := by
  intro T hT X
  have htr : e.platform.stackTraces = false := (show e.platform.stackTraces = l.stackTraces by rw [X.admits.platform]).trans hl
  have Y := vx_rebase X (R' := { frames := R.frames, locals := R.locals, cells := 1, slots := 6 }) (Nat.le_refl _) (Nat.le_refl _) hRcells hRslots
  obtain ⟨s', hA⟩ : ∃ z, z = (T.setVm s.vm).setFrames (.invoking m args :: below) := ⟨_, rfl⟩
  rw [← hA] at Y
  have hvm : s'.vm = s.vm := by rw [hA]; rfl
  have hhp : s'.heap = H := by rw [hA]; exact hT
  have hW0 : s.WarmedH s'.vm := by rw [hvm]; exact State.WarmedH.refl s
  have hat' : ∀ w ∈ vx_atS own ic cls names, w.before args s' = true := fun w hw => vx_ot_at hW0 hvm.symm (hgood w (List.mem_cons_of_mem _ (List.mem_cons_of_mem _ hw))) (hat w hw)
  have hk' : (Cond.classLink own ik cls).before args s' = true := vx_ot_at hW0 hvm.symm (hgood _ List.mem_cons_self) hk
  have hini' : (Cond.initialized cls).before args s' = true := vx_ot_at hW0 hvm.symm (hgood _ (List.mem_cons_of_mem _ List.mem_cons_self)) hini
  have hU' : vx_Zq Bundle.tN "UNASSIGNED_STACK" Bundle.steD A s' s'.heap := by rw [hhp]; exact vx_Zq.moved hW0.alike (hU.kept hS.2.1)
  have hN' : vx_Zq Bundle.tN "SUPPRESSED_SENTINEL" Bundle.listD A s' s'.heap := by rw [hhp]; exact vx_Zq.moved hW0.alike (hN.kept hS.2.1)
  have h : ∀ w ∈ Bundle.ownAtoms own ic cls names, w.before args s' = true := vx_own hat' (vx_isRefq hU'.1) (vx_isRefq hN'.1) hU'.2.word hN'.2.word
  have hown' : s'.vm.findClass own = some m.cls := by rw [hvm]; exact hown
  have hins : (Cond.instantiable cls 6).before args s' = true := h _ (by simp [Bundle.ownAtoms])
  obtain ⟨vm₁, cX, kX, hfX, hkX, -, -, X₁, st1⟩ := Y.newCold hexec (own := own) (C := cls) (index := ik) (n := 6) hown' hk' hins hini'
    (g := F0 m pc ls rest) rfl (by rw [hb]; exact d0) (Nat.le_refl _) (Nat.le_refl _)
  generalize hT1 : (T.setVm vm₁).pushCell { cls := cX, slots := kX.instanceTypes.map defaultValue, vm := .none } = T1 at X₁ st1
  have hcat : (Value.ref T.heap.size).category = 1 := rfl
  have hcellA : T1.heap[T.heap.size]? = some (freshCell cX kX) := by rw [← hT1]; exact State.heap_pushCell_size _ _
  have d3' : decode c.code (pc + 3) = .ok (.dup, 1) := by rw [hb]; exact d3
  have d4' : decode c.code (pc + 4) = .ok (.ldc is, 2) := by rw [hb]; exact d4
  have hstr' : vk_R own is text sa s' := vk_R.warm hW0 hstr
  obtain ⟨U, hsteps, hrun, hend, hW, hsame, ce, hce, hO⟩ := X₁.ctorThrowS hexec htr (own := own) (cls := cls) (names := names) (ic := ic) hown' hcls hnames h (fun x hx => nomatch hx) hfX hkX hcellA (by rw [hhp, hT]; exact Nat.le_refl _) (msg := .ref sa) rfl
    (g := { method := m, pc := pc + 6, locals := ls, stack := .ref sa :: .ref T.heap.size :: .ref T.heap.size :: rest, locked := none }) rfl hsize rfl rfl (rest := rest) rfl
    (by rw [hb]; exact d6) (by rw [hb]; exact d9) hout hRframes (by simp only [List.map_cons, List.sum_cons, hcat]; omega) hlocks
  obtain ⟨f1, f2⟩ := vx_frame hsame
  rw [hhp] at f1 f2
  have hWs : s.WarmedH U.vm := State.WarmedH.trans hW0 hW
  have hcl : s.vm.findClass cls = some ce.cls := by
    have h9 := hO.cls
    rw [hvm] at h9
    exact h9
  have hall : s.sameButNew ({ U with vm := s.vm } : State) locs mc ms := by
    subst hA
    obtain ⟨e1, e2⟩ := hsame
    rw [State.setFrames_setFrames] at e1
    have h2 : (T.setVm s.vm).sameButNew ({ U with vm := s.vm } : State) [] (0 + 1) (0 + 6) := ⟨e1, e2⟩
    have h3 := X.same.trans h2
    rw [List.append_nil] at h3
    exact h3.mono hc hs
  refine ⟨U, ?_, .threw T.heap.size, hrun, hend, Or.inr ⟨T.heap.size, rfl, cls, ce, locs, hx U hWs.alike f1 (fun q hq => f2 q hq (fun z hz => nomatch hz)), hce, hO.vm, hcl, hWs, hall, hf⟩⟩
  refine st1 _ ?_
  show Steps p.tables e below (T1.setTop { method := m, pc := pc + 3, locals := ls, stack := .ref T.heap.size :: rest, locked := none }) _
  jvm_step X₁.here [X₁.here.top, hexec, d3', Value.category]
  exact X₁.ldcString hexec (own := own) (text := text) (index := is) (a := sa) hown' hstr'.1 hstr'.2
    (g := { method := m, pc := pc + 4, locals := ls, stack := .ref T.heap.size :: .ref T.heap.size :: rest, locked := none }) rfl d4' _ hsteps
/-- 'throw new E("text")', the text by a wide index -/
theorem vx_throwSW {cc : ByteArray} {pc : Nat} (hexec : p.tables.exec = Jvm.exec) (hb : c.code = cc) (hl : l.stackTraces = false) {own cls text : String} {names : List String} {ik is ic mc ms sa : Nat} {A : Nat → Prop}
    (hown : s.vm.findClass own = some m.cls) (hcls : Bundle.fit cls = true) (hnames : ∀ n ∈ names, Bundle.fit n = true)
    (hk : (Cond.classLink own ik cls).before args s = true) (hini : (Cond.initialized cls).before args s = true) (hstr : vk_R own is text sa s) (hat : ∀ w ∈ vx_atS own ic cls names, w.before args s = true)
    (hgood : ∀ w ∈ Cond.classLink own ik cls :: Cond.initialized cls :: vx_atS own ic cls names, vx_ot w = true)
    (hU : vx_Zq Bundle.tN "UNASSIGNED_STACK" Bundle.steD A s s.heap) (hN : vx_Zq Bundle.tN "SUPPRESSED_SENTINEL" Bundle.listD A s s.heap) (hS : va_S A s.heap H locs) (hsize : ls.size = c.maxLocals)
    (d0 : decode cc pc = .ok (.new ik, 3)) (d3 : decode cc (pc + 3) = .ok (.dup, 1)) (d4 : decode cc (pc + 4) = .ok (.ldc_w is, 3)) (d7 : decode cc (pc + 7) = .ok (.invokespecial ic, 3)) (d10 : decode cc (pc + 10) = .ok (.athrow, 1))
    (hout : ∀ x ∈ c.exceptionTable.toList, covers x (pc + 10) = false)
    (hRframes : names.length + 3 < R.frames) (hRlocals : (rest.map fun v => v.category).sum + (13 * (names.length + 1) + 43) ≤ R.locals) (hRcells : cells + 1 ≤ R.cells) (hRslots : slots + 6 ≤ R.slots) (hlocks : meth.locks = false)
    (hx : ∀ t : State, s.vm.Alike t.vm → H.size ≤ t.heap.size → (∀ q : Nat, q < H.size → t.heap[q]? = H[q]?) → XC cls s t)
    (hf : ∀ z ∈ locs, free z.base) (hc : cells + 1 ≤ mc) (hs : slots + 6 ≤ ms) :
    W p l e R s m args below meth c H locs cells slots (vx_MQ below Qc XC args s mc ms free) (F0 m pc ls rest) := by
  intro T hT X
  have htr : e.platform.stackTraces = false := (show e.platform.stackTraces = l.stackTraces by rw [X.admits.platform]).trans hl
  have Y := vx_rebase X (R' := { frames := R.frames, locals := R.locals, cells := 1, slots := 6 }) (Nat.le_refl _) (Nat.le_refl _) hRcells hRslots
  obtain ⟨s', hA⟩ : ∃ z, z = (T.setVm s.vm).setFrames (.invoking m args :: below) := ⟨_, rfl⟩
  rw [← hA] at Y
  have hvm : s'.vm = s.vm := by rw [hA]; rfl
  have hhp : s'.heap = H := by rw [hA]; exact hT
  have hW0 : s.WarmedH s'.vm := by rw [hvm]; exact State.WarmedH.refl s
  have hat' : ∀ w ∈ vx_atS own ic cls names, w.before args s' = true := fun w hw => vx_ot_at hW0 hvm.symm (hgood w (List.mem_cons_of_mem _ (List.mem_cons_of_mem _ hw))) (hat w hw)
  have hk' : (Cond.classLink own ik cls).before args s' = true := vx_ot_at hW0 hvm.symm (hgood _ List.mem_cons_self) hk
  have hini' : (Cond.initialized cls).before args s' = true := vx_ot_at hW0 hvm.symm (hgood _ (List.mem_cons_of_mem _ List.mem_cons_self)) hini
  have hU' : vx_Zq Bundle.tN "UNASSIGNED_STACK" Bundle.steD A s' s'.heap := by rw [hhp]; exact vx_Zq.moved hW0.alike (hU.kept hS.2.1)
  have hN' : vx_Zq Bundle.tN "SUPPRESSED_SENTINEL" Bundle.listD A s' s'.heap := by rw [hhp]; exact vx_Zq.moved hW0.alike (hN.kept hS.2.1)
  have h : ∀ w ∈ Bundle.ownAtoms own ic cls names, w.before args s' = true := vx_own hat' (vx_isRefq hU'.1) (vx_isRefq hN'.1) hU'.2.word hN'.2.word
  have hown' : s'.vm.findClass own = some m.cls := by rw [hvm]; exact hown
  have hins : (Cond.instantiable cls 6).before args s' = true := h _ (by simp [Bundle.ownAtoms])
  obtain ⟨vm₁, cX, kX, hfX, hkX, -, -, X₁, st1⟩ := Y.newCold hexec (own := own) (C := cls) (index := ik) (n := 6) hown' hk' hins hini'
    (g := F0 m pc ls rest) rfl (by rw [hb]; exact d0) (Nat.le_refl _) (Nat.le_refl _)
  generalize hT1 : (T.setVm vm₁).pushCell { cls := cX, slots := kX.instanceTypes.map defaultValue, vm := .none } = T1 at X₁ st1
  have hcat : (Value.ref T.heap.size).category = 1 := rfl
  have hcellA : T1.heap[T.heap.size]? = some (freshCell cX kX) := by rw [← hT1]; exact State.heap_pushCell_size _ _
  have d3' : decode c.code (pc + 3) = .ok (.dup, 1) := by rw [hb]; exact d3
  have d4' : decode c.code (pc + 4) = .ok (.ldc_w is, 3) := by rw [hb]; exact d4
  have hstr' : vk_R own is text sa s' := vk_R.warm hW0 hstr
  obtain ⟨U, hsteps, hrun, hend, hW, hsame, ce, hce, hO⟩ := X₁.ctorThrowS hexec htr (own := own) (cls := cls) (names := names) (ic := ic) hown' hcls hnames h (fun x hx => nomatch hx) hfX hkX hcellA (by rw [hhp, hT]; exact Nat.le_refl _) (msg := .ref sa) rfl
    (g := { method := m, pc := pc + 7, locals := ls, stack := .ref sa :: .ref T.heap.size :: .ref T.heap.size :: rest, locked := none }) rfl hsize rfl rfl (rest := rest) rfl
    (by rw [hb]; exact d7) (by rw [hb]; exact d10) hout hRframes (by simp only [List.map_cons, List.sum_cons, hcat]; omega) hlocks
  obtain ⟨f1, f2⟩ := vx_frame hsame
  rw [hhp] at f1 f2
  have hWs : s.WarmedH U.vm := State.WarmedH.trans hW0 hW
  have hcl : s.vm.findClass cls = some ce.cls := by
    have h9 := hO.cls
    rw [hvm] at h9
    exact h9
  have hall : s.sameButNew ({ U with vm := s.vm } : State) locs mc ms := by
    subst hA
    obtain ⟨e1, e2⟩ := hsame
    rw [State.setFrames_setFrames] at e1
    have h2 : (T.setVm s.vm).sameButNew ({ U with vm := s.vm } : State) [] (0 + 1) (0 + 6) := ⟨e1, e2⟩
    have h3 := X.same.trans h2
    rw [List.append_nil] at h3
    exact h3.mono hc hs
  refine ⟨U, ?_, .threw T.heap.size, hrun, hend, Or.inr ⟨T.heap.size, rfl, cls, ce, locs, hx U hWs.alike f1 (fun q hq => f2 q hq (fun z hz => nomatch hz)), hce, hO.vm, hcl, hWs, hall, hf⟩⟩
  refine st1 _ ?_
  show Steps p.tables e below (T1.setTop { method := m, pc := pc + 3, locals := ls, stack := .ref T.heap.size :: rest, locked := none }) _
  jvm_step X₁.here [X₁.here.top, hexec, d3', Value.category]
  exact X₁.ldcStringW hexec (own := own) (text := text) (index := is) (a := sa) hown' hstr'.1 hstr'.2
    (g := { method := m, pc := pc + 4, locals := ls, stack := .ref T.heap.size :: .ref T.heap.size :: rest, locked := none }) rfl d4' _ hsteps
end Ends
section Bodies
variable {l : Launch}
theorem vx_ofW {y : MethodName} {ws ws' : List Cond} {rm : Room} {Pc : Array Value → State → Prop} {Qc : Array Value → State → Outcome → State → Prop} {XC : String → State → State → Prop} {mc ms : Nat} {free : Addr → Prop} {cc : ByteArray} {maxL : Nat} {ret : Option FieldType}
    (hy : plainName y.cls = true) (hw : ws = Cond.code y cc maxL ret :: ws')
    (body : ∀ p e s m args below meth c s₁, BodyLoose p l y (headSpec ws rm) cc maxL ret e s m args below meth c s₁ → c.maxLocals = maxL → (∀ x ∈ c.exceptionTable.toList, False) → Pc args s →
      W p l e (headSpec ws rm).room s m args below meth c s.heap [] 0 0 (vx_MQ below Qc XC args s mc ms free) (entryFrame m args maxL)) : vx_Met l y ws rm Pc Qc XC mc ms free := by
  refine MetFree.of_bodyS (code := cc) (maxLocals := maxL) (ret := ret) hy ?_ ?_
  · intro args s m h hn
    obtain ⟨meth, c, h1, h2, h3, h4, h5, h6, -, -⟩ := Cond.code_spec hn (atoms_spec (ws := ws) h _ (by rw [hw]; exact List.mem_cons_self))
    exact ⟨meth, c, h1, h2, h3, h4, h5, h6⟩
  · intro p e s m args below meth c s₁ B hml hP _
    have hh0 : s₁.heap = s.heap := by rw [B.state]; rfl
    have ht : ∀ x ∈ c.exceptionTable.toList, False := by
      obtain ⟨meth9, c9, h1, h2, -, -, -, -, h7, -⟩ := Cond.code_spec B.named (atoms_spec (ws := ws) B.pre _ (by rw [hw]; exact List.mem_cons_self))
      cases Option.some.inj (h1.symm.trans B.method)
      cases Option.some.inj (h2.symm.trans (Stand.of_body B).code)
      intro x hx
      rw [Array.isEmpty_iff.mp h7] at hx
      cases hx
    obtain ⟨t, a1, o, b1, b2, b3⟩ := body p e s m args below meth c s₁ B hml ht hP s₁ hh0 (Stand.of_body B)
    exact ⟨t, o, a1, b1, b2, b3⟩
/-- the table of a body with handlers -/
theorem vx_table {p : Program} {x y : MethodName} {S : Spec} {cc bytes : ByteArray} {maxL maxL' : Nat} {ret ret' : Option FieldType} {e : Env} {s s₁ : State} {m : MethodId} {args : Array Value} {below : List Frame} {meth : Method} {c : Code} {hh : List (Nat × Nat × Nat × Nat)}
    (B : BodyLoose p l y S cc maxL ret e s m args below meth c s₁) (h : (Cond.codeWith y bytes maxL' ret' hh).before args s = true) : c.exceptionTable.toList = tableOf hh := by
  obtain ⟨m9, meth9, c9, hn9, h1, h2, -, -, h6, -⟩ := Cond.codeWith_spec h
  cases Option.some.inj (hn9.symm.trans B.named)
  cases Option.some.inj (h1.symm.trans B.method)
  cases Option.some.inj (h2.symm.trans (Stand.of_body B).code)
  rw [← h6, table_eq]
end Bodies
end VXA
/-! ===== END ===== -/
/-! ===== BEGIN a static call of a method with an exception table ===== -/
section VXS
variable {p : Program} {l : Launch} {e : Env} {R : Room} {s : State} {m : MethodId} {args : Array Value} {below : List Frame} {meth : Method} {c : Code} {T : State} {H : Heap} {locs : List Loc} {cells slots : Nat}
abbrev vx_CSW (R : Room) (s : State) (args : Array Value) (own : String) (index : Nat) (y : MethodName) (bytes : ByteArray) (maxL : Nat) (ret : Option FieldType) (hh : List (Nat × Nat × Nat × Nat)) (ws : List Cond) (rm : Room) (mc ms n : Nat) : Prop :=
  (rm.cells = mc ∧ rm.slots = ms ∧ rm.frames + 1 ≤ R.frames ∧ 8 + (maxL + 11) + rm.locals ≤ R.locals ∧ (∀ w ∈ ws, ∀ (a' : Array Value) (U : State), s.WarmedH U.vm → w.before a' U = true) ∧ Cond.codeWith y bytes maxL ret hh ∈ ws) ∧
  (Cond.codeWith y bytes maxL ret hh).before args s = true ∧ (Cond.initialized y.cls).before args s = true ∧ (y.cls ≠ "java/lang/invoke/MethodHandle" ∧ y.cls ≠ "java/lang/invoke/VarHandle") ∧
  (∀ sig, parseMethodDescriptor y.desc = some sig → n = sig.parameters.length) ∧ (Cond.methodLink own index y).before args s = true ∧ (Cond.static y).before args s = true
theorem vx_cwSW {own : String} {index maxL mc ms : Nat} {y : MethodName} {bytes : ByteArray} {ret : Option FieldType} {hh : List (Nat × Nat × Nat × Nat)} {Ts ws ws' : List Cond} {rm : Room} (n : Nat) (ht : ∀ w ∈ Ts, w.before args s = true) (hT : GoodIn Ts (va_wsS own index y ws)) (hw : ws = Cond.codeWith y bytes maxL ret hh :: ws') (hrc : rm.cells = mc) (hrs : rm.slots = ms)
    (hd : y.cls ≠ "java/lang/invoke/MethodHandle" ∧ y.cls ≠ "java/lang/invoke/VarHandle" ∧ (parseMethodDescriptor y.desc).map (fun d => d.parameters.length) = some n) (hR : rm.frames + 1 ≤ R.frames ∧ 8 + (maxL + 11) + rm.locals ≤ R.locals) :
    vx_CSW R s args own index y bytes maxL ret hh ws rm mc ms n := by
  have ok : ∀ w ∈ va_wsS own index y ws, w.before args s = true := fun w h => ht w (hT w h).1
  have hG : GoodIn Ts ws := fun w h => hT w (by unfold va_wsS; exact List.mem_append_right _ h)
  have hc : Cond.codeWith y bytes maxL ret hh ∈ ws := by rw [hw]; exact List.mem_cons_self
  refine ⟨⟨hrc, hrs, hR.1, hR.2, pay_in ht hG, hc⟩, ht _ (hG _ hc).1, ok _ (by simp [va_wsS]), ⟨hd.1, hd.2.1⟩, fun sig h => ?_, ok _ (by simp [va_wsS]), ok _ (by simp [va_wsS])⟩
  have h2 := hd.2.2
  rw [h] at h2
  exact (Option.some.inj h2).symm
theorem vx_callSW (X : Stand p l e R s m args below meth c T locs cells slots) (hexec : p.tables.exec = Jvm.exec) {own : String} {index : Nat} {y : MethodName} {bytes : ByteArray} {maxL : Nat} {ret : Option FieldType} {hh : List (Nat × Nat × Nat × Nat)}
    (hown : s.vm.findClass own = some m.cls) (hlink : (Cond.methodLink own index y).before args s = true) (hstat : (Cond.static y).before args s = true) (hinit : (Cond.initialized y.cls).before args s = true)
    (hcode : (Cond.codeWith y bytes maxL ret hh).before args s = true) (hy : y.cls ≠ "java/lang/invoke/MethodHandle" ∧ y.cls ≠ "java/lang/invoke/VarHandle")
    {W9 : Nat} {Pre : Pt → Array Value → Prop} {Post : Pt → Array Value → Option Value → Pt → Prop} (hK : Back l R p e below s args y 3 W9 Pre Post)
    {g : JFrame} (hg : g.method = m) (hsize : g.locals.size = c.maxLocals) {argsL rest : List Value} (hlen : ∀ sig, parseMethodDescriptor y.desc = some sig → argsL.length = sig.parameters.length)
    (hstack : g.stack = argsL.reverse ++ rest) (hW : 2 * g.monitorRoom + (rest.map fun v => v.category).sum ≤ W9) (hdg : decode c.code g.pc = .ok (.invokestatic index, 3))
    (hpre : ∀ vm₁, s.WarmedH vm₁ → Pre ⟨T.setVm vm₁, locs, cells, slots⟩ argsL.toArray) :
    ∃ (v : Option Value) (vm₁ : Vm) (B : Pt), s.WarmedH vm₁ ∧ Stand p l e R s m args below meth c B.U B.locs B.cells B.slots ∧ Post ⟨T.setVm vm₁, locs, cells, slots⟩ argsL.toArray v B ∧
      ∀ target, Steps p.tables e below (B.U.setTop { g with pc := g.pc + 3, stack := v.toList ++ rest }) target → Steps p.tables e below (T.setTop g) target := by
  obtain ⟨mk, methM, cM, hnamed, hmethM, -, -, -, -, -, -, hsigM⟩ := Cond.codeWith_spec hcode
  have hstatic : methM.isStatic = true := Cond.static_spec hnamed hmethM hstat
  obtain ⟨kP, hkP, -⟩ := className_of_methodNamed hnamed
  have hinitP : kP.init = .initialized := Cond.initialized_spec (findClass_of_methodNamed hnamed) hkP hinit
  obtain ⟨vm₁, X₁, hstep₁⟩ := X.invokestatic hexec hown hlink hnamed hmethM hstatic hkP hinitP hy (g := g) hg (argsL := argsL) (rest := rest) (hlen _ hsigM) hstack hdg
  obtain ⟨v, B, X', hpost, hsteps⟩ := hK m meth c ⟨T.setVm vm₁, locs, cells, slots⟩ { g with stack := rest } (.invokestatic index) mk argsL.toArray X₁ hg hsize hdg hW (X₁.named hnamed) (hpre vm₁ X₁.warmed)
  exact ⟨v, vm₁, B, X₁.warmed, X', hpost, fun target h => hstep₁ _ fun acts => by rw [doInvoke_state]; exact hsteps.trans h⟩
theorem vx_runSW {y : MethodName} {bytes cc : ByteArray} {maxL nL mc ms n index : Nat} {ret : Option FieldType} {hh : List (Nat × Nat × Nat × Nat)} {ws : List Cond} {rm : Room} {Pc : Array Value → State → Prop} {Qc : Array Value → State → Outcome → State → Prop} {free : Addr → Prop} {Ts : List Cond} {own : String} {As rest : List Value} {g : JFrame}
    (S : CallFix p m c cc nL s args Ts own) (hM : Met l y ws rm Pc Qc mc ms free) (cw : vx_CSW R s args own index y bytes maxL ret hh ws rm mc ms n) (hp : PreS s H Pc As)
    (hg : g.method = m) (hn : As.length = n) (hsize : g.locals.size = nL) (hstack : g.stack = As.reverse ++ rest) (hW : 2 * g.monitorRoom + (rest.map fun v => v.category).sum ≤ 8) (hdg : decode cc g.pc = .ok (.invokestatic index, 3)) (hf : cells + mc ≤ R.cells ∧ slots + ms ≤ R.slots) :
    va_Run p l e R s m args below meth c H locs cells slots mc ms g rest (Qc As.toArray) (free) := by
  obtain ⟨⟨hrc, hrs, hfr, hlo, hws, hcw⟩, hcode, hini, hy, hlen, hl, hstt⟩ := cw
  have hK : Back l R p e below s args y 3 8 (PreOf R mc ms Pc) (PostOf Qc mc ms free) := va_backW (hh := hh) (bytes := bytes) (maxL := maxL) (ret := ret) hM hp.1 hrc hrs hfr hlo hws hcw (fun a' U hW => word_at hW (Or.inl (by first | rfl | simp [Cond.onTables, Cond.keeps, Cond.steady])) hini)
  obtain ⟨hx, hb, hml, ho, -⟩ := S
  intro T hT X
  obtain ⟨v, vm₁, ⟨U', l2, c2, s2⟩, hW₁, X', ⟨g', mk, t, L, e1, e2, hq, h1, hL, h2, h3⟩, st⟩ := vx_callSW X hx (hh := hh) (bytes := bytes) (maxL := maxL) (ret := ret) ho hl hstt hini hcode hy hK hg (hsize.trans hml.symm) (argsL := As) (rest := rest) (fun sig h => hn.trans (hlen sig h)) hstack hW (by rw [hb]; exact hdg)
    (fun vm₁ hW₁ => ⟨hf.1, hf.2, hp.2 (T.setVm vm₁) hT hW₁⟩)
  dsimp only [Pt.U, Pt.locs, Pt.cells, Pt.slots] at X' e1 e2 h1 h2 h3 st
  subst h1; subst h2; subst h3
  exact ⟨v, (T.setVm vm₁).calling g' mk As.toArray, t, U', L, hT, X', hL, e1, e2, hq, st⟩
/-- a thing of a world lies in the heap -/
theorem vx_lt {D : va_G} {cl : List vw_C} {ws : va_W} {H1 : Heap} (h : va_P D cl ws H1) {k : Nat} {q : Nat × va_E} (hk : ws[k]? = some q) : q.1 < H1.size := (h k q hk).lt
end VXS
/-! ===== END ===== -/
/-! ===== BEGIN methods with a table of their own: called by a name, returning or throwing ===== -/
section VXH
/-! vx_backW, vx_callVX, vx_callSX, vx_callVW, vx_runVW, vx_runVX, vx_runSX, vx_ofWH follow the same proofs as their sisters above (Free/Laws.lean, Shelf42/LK1.lean); vx_outP calls Shelf42/NT130.lean (outThrough). -/
section
variable {l : Launch} {R : Room} {p : Program} {e : Env} {below : List Frame} {s : State} {sargs : Array Value} {y : MethodName} {len W9 : Nat}
theorem vx_backW {ws : List Cond} {rm : Room} {Pc : Array Value → State → Prop} {Qc : Array Value → State → Outcome → State → Prop} {XC : String → State → State → Prop} {mc ms : Nat} {free : Addr → Prop} {bytes : ByteArray} {maxL : Nat} {ret : Option FieldType} {hh : List (Nat × Nat × Nat × Nat)}
    (hM : vx_Met l y ws rm Pc Qc XC mc ms free) (hblind : FrameBlind Pc) (hrc : rm.cells = mc) (hrs : rm.slots = ms)
    (hframes : rm.frames + 1 ≤ R.frames) (hlocals : W9 + (maxL + 11) + rm.locals ≤ R.locals)
    (hws : ∀ w ∈ ws, ∀ a' U, s.WarmedH U.vm → w.before a' U = true) (hcode : Cond.codeWith y bytes maxL ret hh ∈ ws) (hinit : ∀ a' U, s.WarmedH U.vm → (Cond.initialized y.cls).before a' U = true) :
    vx_Back l R p e below s sargs y len W9 (PreOf R mc ms Pc) (PostOf Qc mc ms free) (vx_Post XC mc ms free) := by
  intro m meth c A g ig mk a X hg hsize hdg hW hn hp
  have h1 : (headSpec ws rm).pre.before a A.U = true := atoms_intro fun w hw => hws w hw _ _ X.warmed
  have h2 : (Cond.codeWith y bytes maxL ret hh).before a A.U = true := hws _ hcode _ _ X.warmed
  have h3 : (Cond.initialized y.cls).before a A.U = true := hinit _ _ X.warmed
  have h4 : A.cells + (headSpec ws rm).room.cells ≤ R.cells := by rw [show (headSpec ws rm).room.cells = mc from hrc]; exact hp.1
  have h5 : A.slots + (headSpec ws rm).room.slots ≤ R.slots := by rw [show (headSpec ws rm).room.slots = ms from hrs]; exact hp.2.1
  have hPc : Pc a (A.U.calling g mk a) := hblind _ _ _ _ hp.2.2
  obtain ⟨U, Ls, c0, s0⟩ := A
  dsimp only [Pt.U, Pt.locs, Pt.cells, Pt.slots] at h1 h2 h3 h4 h5 X hn hPc ⊢
  obtain ⟨m9, methY, cY, hn9, hmY, hcY, -, hlY, -⟩ := Cond.codeWith_spec h2
  cases Option.some.inj (hn9.symm.trans hn)
  obtain ⟨kY, hkY, -⟩ := className_of_methodNamed hn
  have hinitY : kY.init = .initialized := Cond.initialized_spec (findClass_of_methodNamed hn) hkY h3
  have h : At U g.method c below := by rw [hg]; exact X.here
  have hlocals9 : W9 + (maxL + 11) + (headSpec ws rm).room.locals ≤ R.locals := hlocals
  have happ : (headSpec ws rm).appliesLoose y e.platform (U.calling g mk a) = true :=
    Spec.appliesLoose_calling (g := g) h hdg hn hkY hinitY
      (X.room_calling (g := g) (R' := (headSpec ws rm).room) hsize hmY hcY hframes (by rw [hlY]; omega) h4 h5) h1
  obtain ⟨mid, hmid⟩ := h.above
  have hfr : (U.setTop g).frames = (.java g :: mid) ++ below := by rw [State.frames_setTop' g h.top, hmid]; rfl
  obtain ⟨o, s₂, hsteps, -, hend, hq⟩ := Steps.callFree hM p X.admits X.cas X.clock (acts := []) hfr happ hPc trivial
  have hq' : vx_Q Qc XC mc ms free a (U.calling g mk a) o s₂ := hq
  rw [State.frames_setTop' g h.top] at hend
  obtain ⟨g₀, hg0⟩ := Option.isSome_iff_exists.mp h.top
  obtain ⟨r, hr⟩ := State.topJava?_eq_some.mp hg0
  have hr' : (({ U with heap := s₂.heap, slotsUsed := s₂.slotsUsed } : State).setVm s₂.vm).frames = .java g₀ :: r := hr
  rcases hq' with ⟨hqc, L, hfe, hL⟩ | ⟨q, rfl, E, ce, L, hx, hce, hcv, hcl, hW₂, hsm, hL⟩
  · obtain ⟨⟨v, rfl⟩, hW₂, e2, q2, q3, q4, q5, q6⟩ := id hfe
    have e3 : s₂ = ({ (U.calling g mk a).setFrames s₂.frames with heap := s₂.heap, slotsUsed := s₂.slotsUsed } : State).setVm s₂.vm := by
      have : s₂ = ({ s₂ with vm := (U.calling g mk a).vm } : State).setVm s₂.vm := rfl
      rw [e2] at this
      exact this
    obtain ⟨c₂, i₂, len₂, hc₂, hd₂, hf₂⟩ := hend
    have hW' : U.WarmedH s₂.vm := hW₂
    have hcc : c₂ = c := by
      have h1 : s₂.code? g.method = U.code? g.method := by
        rw [State.code?_eq, State.code?_eq, hW'.alike.method?]
      exact Option.some.inj (hc₂.symm.trans (h1.trans h.code))
    subst hcc
    have hlen : len₂ = len := by rw [hdg] at hd₂; cases hd₂; rfl
    subst hlen
    have hs₂ : s₂ = (({ U with heap := s₂.heap, slotsUsed := s₂.slotsUsed } : State).setVm s₂.vm).setTop { g with pc := g.pc + len₂, stack := v.toList ++ g.stack } := by
      refine e3.trans ?_
      rw [hf₂, State.calling_eq h.top, State.setFrames_setFrames, State.setTop_of_frames _ hr', hr]
      rfl
    have hsame : U.sameButNew ({ U with heap := s₂.heap, slotsUsed := s₂.slotsUsed } : State) L mc ms := by
      refine ⟨?_, q2, q3, q4, q5, q6⟩
      obtain ⟨t, ht, -⟩ := State.frames_cons hr
      show ({ U with heap := s₂.heap, slotsUsed := s₂.slotsUsed } : State) = { U.setFrames U.frames with heap := s₂.heap, slotsUsed := s₂.slotsUsed }
      rw [State.setFrames_self ht]
    subst hg
    refine Or.inl ⟨v, ⟨(({ U with heap := s₂.heap, slotsUsed := s₂.slotsUsed } : State).setVm s₂.vm), Ls ++ L, c0 + mc, s0 + ms⟩,
      ⟨X.admits, X.cas, X.clock, X.frames, X.room, X.hears, X.method, X.code, (X.here.setHeapUsed s₂.heap s₂.slotsUsed).setVm hW'.alike, X.tail, State.WarmedH.trans X.warmed hW', X.limits, X.bytes, X.same.trans (hsame.setVm s.vm)⟩,
      ⟨g, mk, s₂, L, rfl, rfl, hqc, rfl, hL, rfl, rfl⟩, ?_⟩
    show Steps p.tables e below _ ((({ U with heap := s₂.heap, slotsUsed := s₂.slotsUsed } : State).setVm s₂.vm).setTop { g with pc := g.pc + len₂, stack := v.toList ++ g.stack })
    rw [← hs₂]
    exact hsteps
  · obtain ⟨e2, q2, q3, q4, q5, q6⟩ := id hsm
    have e3 : s₂ = ({ (U.calling g mk a).setFrames s₂.frames with heap := s₂.heap, slotsUsed := s₂.slotsUsed } : State).setVm s₂.vm := by
      have : s₂ = ({ s₂ with vm := (U.calling g mk a).vm } : State).setVm s₂.vm := rfl
      rw [e2] at this
      exact this
    have hf₂ : s₂.frames = .throwing q :: .java g :: U.frames.tail := hend
    have hW' : U.WarmedH s₂.vm := hW₂
    have hs₂ : s₂ = ((({ U with heap := s₂.heap, slotsUsed := s₂.slotsUsed } : State).setVm s₂.vm).setTop g).pushFrame (.throwing q) := by
      refine e3.trans ?_
      rw [hf₂, State.calling_eq h.top, State.setFrames_setFrames, State.pushFrame, State.frames_setTop _ hr', State.setTop_of_frames _ hr', State.setFrames_setFrames, hr]
      rfl
    have hsame : U.sameButNew ({ U with heap := s₂.heap, slotsUsed := s₂.slotsUsed } : State) L mc ms := by
      refine ⟨?_, q2, q3, q4, q5, q6⟩
      obtain ⟨t, ht, -⟩ := State.frames_cons hr
      show ({ U with heap := s₂.heap, slotsUsed := s₂.slotsUsed } : State) = { U.setFrames U.frames with heap := s₂.heap, slotsUsed := s₂.slotsUsed }
      rw [State.setFrames_self ht]
    subst hg
    refine Or.inr ⟨q, ⟨(({ U with heap := s₂.heap, slotsUsed := s₂.slotsUsed } : State).setVm s₂.vm), Ls ++ L, c0 + mc, s0 + ms⟩,
      ⟨X.admits, X.cas, X.clock, X.frames, X.room, X.hears, X.method, X.code, (X.here.setHeapUsed s₂.heap s₂.slotsUsed).setVm hW'.alike, X.tail, State.WarmedH.trans X.warmed hW', X.limits, X.bytes, X.same.trans (hsame.setVm s.vm)⟩,
      ⟨g, mk, s₂, L, E, ce, rfl, rfl, hx, hce, hcv, hcl, rfl, hL, rfl, rfl⟩, ?_⟩
    show Steps p.tables e below _ (((({ U with heap := s₂.heap, slotsUsed := s₂.slotsUsed } : State).setVm s₂.vm).setTop g).pushFrame (.throwing q))
    rw [← hs₂]
    exact hsteps
end
variable {p : Program} {l : Launch} {e : Env} {R : Room} {s : State} {m : MethodId} {args : Array Value} {below : List Frame} {meth : Method} {c : Code} {T : State} {H : Heap} {locs : List Loc} {cells slots : Nat}
theorem vx_callVX (X : Stand p l e R s m args below meth c T locs cells slots) (hexec : p.tables.exec = Jvm.exec) {own C : String} {index : Nat} {y : MethodName} {bytes : ByteArray} {maxL : Nat} {ret : Option FieldType} {hh : List (Nat × Nat × Nat × Nat)}
    (hown : s.vm.findClass own = some m.cls) (hlink : (Cond.methodLink own index y).before args s = true) (hinst : (Cond.instanceMethod y).before args s = true) (hsel : (Cond.selects C y y).before args s = true)
    (hcode : (Cond.codeWith y bytes maxL ret hh).before args s = true) (hy : y.cls ≠ "java/lang/invoke/MethodHandle" ∧ y.cls ≠ "java/lang/invoke/VarHandle")
    {W9 : Nat} {Pre : Pt → Array Value → Prop} {Post : Pt → Array Value → Option Value → Pt → Prop} {PostX : Pt → Array Value → Addr → Pt → Prop} (hK : vx_Back l R p e below s args y 3 W9 Pre Post PostX)
    {b : Addr} {cellB : Cell} (hcell : T.heap[b]? = some cellB) (hobj : cellB.vm.isStatics = false) (hcls : s.vm.findClass C = some cellB.cls)
    {g : JFrame} (hg : g.method = m) (hsize : g.locals.size = c.maxLocals) {argsL rest : List Value} (hlen : ∀ sig, parseMethodDescriptor y.desc = some sig → argsL.length = sig.parameters.length)
    (hstack : g.stack = argsL.reverse ++ .ref b :: rest) (hW : 2 * g.monitorRoom + (rest.map fun v => v.category).sum ≤ W9) (hdg : decode c.code g.pc = .ok (.invokevirtual index, 3))
    (hpre : ∀ vm₁, s.WarmedH vm₁ → Pre ⟨T.setVm vm₁, locs, cells, slots⟩ (Value.ref b :: argsL).toArray) :
    (∃ (v : Option Value) (vm₁ : Vm) (B : Pt), s.WarmedH vm₁ ∧ Stand p l e R s m args below meth c B.U B.locs B.cells B.slots ∧ Post ⟨T.setVm vm₁, locs, cells, slots⟩ (Value.ref b :: argsL).toArray v B ∧
      ∀ target, Steps p.tables e below (B.U.setTop { g with pc := g.pc + 3, stack := v.toList ++ rest }) target → Steps p.tables e below (T.setTop g) target) ∨
    (∃ (q : Addr) (vm₁ : Vm) (B : Pt), s.WarmedH vm₁ ∧ Stand p l e R s m args below meth c B.U B.locs B.cells B.slots ∧ PostX ⟨T.setVm vm₁, locs, cells, slots⟩ (Value.ref b :: argsL).toArray q B ∧
      Steps p.tables e below (T.setTop g) ((B.U.setTop { g with stack := rest }).pushFrame (.throwing q))) := by
  obtain ⟨mk, methM, hnamed, hmethM, hstM, habM⟩ := Cond.instanceMethod_spec hinst
  obtain ⟨m8, methM', cM, hn8, hmethM', -, -, -, -, -, -, hsigM⟩ := Cond.codeWith_spec hcode
  cases Option.some.inj (hn8.symm.trans hnamed)
  cases hmethM.symm.trans hmethM'
  obtain ⟨c2, r2, m2, q1, q2, q3, q4, kP, hkP, hkPi⟩ := Cond.selects_spec hsel
  cases hcls.symm.trans q1
  cases (State.methodFound?_of_named hnamed hy).symm.trans q2
  cases hnamed.symm.trans q3
  have hselP : selectMethod e.platform s.vm cellB.cls mk = .method mk := by rw [Launch.admits_selectMethod X.admits]; exact q4
  obtain ⟨vm₁, X₁, hstep₁⟩ := X.invokevirtual hexec hown hlink hnamed hmethM hstM hkP hkPi hy (a := b) (cell := cellB) hcell
    (fun z h => by rw [h] at hobj; cases hobj) hselP hmethM habM hkP hkPi (g := g) hg (argsL := argsL) (rest := rest) (hlen _ hsigM) hstack hdg
  rcases hK m meth c ⟨T.setVm vm₁, locs, cells, slots⟩ { g with stack := rest } (.invokevirtual index) mk (Value.ref b :: argsL).toArray X₁ hg hsize hdg hW (X₁.named hnamed) (hpre vm₁ X₁.warmed) with ⟨v, B, X', hpost, hsteps⟩ | ⟨q, B, X', hpost, hsteps⟩
  · exact Or.inl ⟨v, vm₁, B, X₁.warmed, X', hpost, fun target h => hstep₁ _ fun acts => by rw [doInvoke_state]; exact hsteps.trans h⟩
  · exact Or.inr ⟨q, vm₁, B, X₁.warmed, X', hpost, hstep₁ _ fun acts => by rw [doInvoke_state]; exact hsteps⟩
theorem vx_callSX (X : Stand p l e R s m args below meth c T locs cells slots) (hexec : p.tables.exec = Jvm.exec) {own : String} {index : Nat} {y : MethodName} {bytes : ByteArray} {maxL : Nat} {ret : Option FieldType} {hh : List (Nat × Nat × Nat × Nat)}
    (hown : s.vm.findClass own = some m.cls) (hlink : (Cond.methodLink own index y).before args s = true) (hstat : (Cond.static y).before args s = true) (hinit : (Cond.initialized y.cls).before args s = true)
    (hcode : (Cond.codeWith y bytes maxL ret hh).before args s = true) (hy : y.cls ≠ "java/lang/invoke/MethodHandle" ∧ y.cls ≠ "java/lang/invoke/VarHandle")
    {W9 : Nat} {Pre : Pt → Array Value → Prop} {Post : Pt → Array Value → Option Value → Pt → Prop} {PostX : Pt → Array Value → Addr → Pt → Prop} (hK : vx_Back l R p e below s args y 3 W9 Pre Post PostX)
    {g : JFrame} (hg : g.method = m) (hsize : g.locals.size = c.maxLocals) {argsL rest : List Value} (hlen : ∀ sig, parseMethodDescriptor y.desc = some sig → argsL.length = sig.parameters.length)
    (hstack : g.stack = argsL.reverse ++ rest) (hW : 2 * g.monitorRoom + (rest.map fun v => v.category).sum ≤ W9) (hdg : decode c.code g.pc = .ok (.invokestatic index, 3))
    (hpre : ∀ vm₁, s.WarmedH vm₁ → Pre ⟨T.setVm vm₁, locs, cells, slots⟩ argsL.toArray) :
    (∃ (v : Option Value) (vm₁ : Vm) (B : Pt), s.WarmedH vm₁ ∧ Stand p l e R s m args below meth c B.U B.locs B.cells B.slots ∧ Post ⟨T.setVm vm₁, locs, cells, slots⟩ argsL.toArray v B ∧
      ∀ target, Steps p.tables e below (B.U.setTop { g with pc := g.pc + 3, stack := v.toList ++ rest }) target → Steps p.tables e below (T.setTop g) target) ∨
    (∃ (q : Addr) (vm₁ : Vm) (B : Pt), s.WarmedH vm₁ ∧ Stand p l e R s m args below meth c B.U B.locs B.cells B.slots ∧ PostX ⟨T.setVm vm₁, locs, cells, slots⟩ argsL.toArray q B ∧
      Steps p.tables e below (T.setTop g) ((B.U.setTop { g with stack := rest }).pushFrame (.throwing q))) := by
  obtain ⟨mk, methM, cM, hnamed, hmethM, -, -, -, -, -, -, hsigM⟩ := Cond.codeWith_spec hcode
  have hstatic : methM.isStatic = true := Cond.static_spec hnamed hmethM hstat
  obtain ⟨kP, hkP, -⟩ := className_of_methodNamed hnamed
  have hinitP : kP.init = .initialized := Cond.initialized_spec (findClass_of_methodNamed hnamed) hkP hinit
  obtain ⟨vm₁, X₁, hstep₁⟩ := X.invokestatic hexec hown hlink hnamed hmethM hstatic hkP hinitP hy (g := g) hg (argsL := argsL) (rest := rest) (hlen _ hsigM) hstack hdg
  rcases hK m meth c ⟨T.setVm vm₁, locs, cells, slots⟩ { g with stack := rest } (.invokestatic index) mk argsL.toArray X₁ hg hsize hdg hW (X₁.named hnamed) (hpre vm₁ X₁.warmed) with ⟨v, B, X', hpost, hsteps⟩ | ⟨q, B, X', hpost, hsteps⟩
  · exact Or.inl ⟨v, vm₁, B, X₁.warmed, X', hpost, fun target h => hstep₁ _ fun acts => by rw [doInvoke_state]; exact hsteps.trans h⟩
  · exact Or.inr ⟨q, vm₁, B, X₁.warmed, X', hpost, hstep₁ _ fun acts => by rw [doInvoke_state]; exact hsteps⟩
theorem vx_callVW (X : Stand p l e R s m args below meth c T locs cells slots) (hexec : p.tables.exec = Jvm.exec) {own C : String} {index : Nat} {y : MethodName} {bytes : ByteArray} {maxL : Nat} {ret : Option FieldType} {hh : List (Nat × Nat × Nat × Nat)}
    (hown : s.vm.findClass own = some m.cls) (hlink : (Cond.methodLink own index y).before args s = true) (hinst : (Cond.instanceMethod y).before args s = true) (hsel : (Cond.selects C y y).before args s = true)
    (hcode : (Cond.codeWith y bytes maxL ret hh).before args s = true) (hy : y.cls ≠ "java/lang/invoke/MethodHandle" ∧ y.cls ≠ "java/lang/invoke/VarHandle")
    {W9 : Nat} {Pre : Pt → Array Value → Prop} {Post : Pt → Array Value → Option Value → Pt → Prop} (hK : Back l R p e below s args y 3 W9 Pre Post)
    {b : Addr} {cellB : Cell} (hcell : T.heap[b]? = some cellB) (hobj : cellB.vm.isStatics = false) (hcls : s.vm.findClass C = some cellB.cls)
    {g : JFrame} (hg : g.method = m) (hsize : g.locals.size = c.maxLocals) {argsL rest : List Value} (hlen : ∀ sig, parseMethodDescriptor y.desc = some sig → argsL.length = sig.parameters.length)
    (hstack : g.stack = argsL.reverse ++ .ref b :: rest) (hW : 2 * g.monitorRoom + (rest.map fun v => v.category).sum ≤ W9) (hdg : decode c.code g.pc = .ok (.invokevirtual index, 3))
    (hpre : ∀ vm₁, s.WarmedH vm₁ → Pre ⟨T.setVm vm₁, locs, cells, slots⟩ (Value.ref b :: argsL).toArray) :
    ∃ (v : Option Value) (vm₁ : Vm) (B : Pt), s.WarmedH vm₁ ∧ Stand p l e R s m args below meth c B.U B.locs B.cells B.slots ∧ Post ⟨T.setVm vm₁, locs, cells, slots⟩ (Value.ref b :: argsL).toArray v B ∧
      ∀ target, Steps p.tables e below (B.U.setTop { g with pc := g.pc + 3, stack := v.toList ++ rest }) target → Steps p.tables e below (T.setTop g) target := by
  obtain ⟨mk, methM, hnamed, hmethM, hstM, habM⟩ := Cond.instanceMethod_spec hinst
  obtain ⟨m8, methM', cM, hn8, hmethM', -, -, -, -, -, -, hsigM⟩ := Cond.codeWith_spec hcode
  cases Option.some.inj (hn8.symm.trans hnamed)
  cases hmethM.symm.trans hmethM'
  obtain ⟨c2, r2, m2, q1, q2, q3, q4, kP, hkP, hkPi⟩ := Cond.selects_spec hsel
  cases hcls.symm.trans q1
  cases (State.methodFound?_of_named hnamed hy).symm.trans q2
  cases hnamed.symm.trans q3
  have hselP : selectMethod e.platform s.vm cellB.cls mk = .method mk := by rw [Launch.admits_selectMethod X.admits]; exact q4
  obtain ⟨vm₁, X₁, hstep₁⟩ := X.invokevirtual hexec hown hlink hnamed hmethM hstM hkP hkPi hy (a := b) (cell := cellB) hcell
    (fun z h => by rw [h] at hobj; cases hobj) hselP hmethM habM hkP hkPi (g := g) hg (argsL := argsL) (rest := rest) (hlen _ hsigM) hstack hdg
  obtain ⟨v, B, X', hpost, hsteps⟩ := hK m meth c ⟨T.setVm vm₁, locs, cells, slots⟩ { g with stack := rest } (.invokevirtual index) mk (Value.ref b :: argsL).toArray X₁ hg hsize hdg hW (X₁.named hnamed) (hpre vm₁ X₁.warmed)
  exact ⟨v, vm₁, B, X₁.warmed, X', hpost, fun target h => hstep₁ _ fun acts => by rw [doInvoke_state]; exact hsteps.trans h⟩
abbrev vx_CVW (R : Room) (s : State) (args : Array Value) (own C : String) (index : Nat) (y : MethodName) (bytes : ByteArray) (maxL : Nat) (ret : Option FieldType) (hh : List (Nat × Nat × Nat × Nat)) (ws : List Cond) (rm : Room) (mc ms n : Nat) : Prop :=
  (rm.cells = mc ∧ rm.slots = ms ∧ rm.frames + 1 ≤ R.frames ∧ 8 + (maxL + 11) + rm.locals ≤ R.locals ∧ (∀ w ∈ ws, ∀ (a' : Array Value) (U : State), s.WarmedH U.vm → w.before a' U = true) ∧ Cond.codeWith y bytes maxL ret hh ∈ ws) ∧
  (Cond.codeWith y bytes maxL ret hh).before args s = true ∧ (Cond.initialized y.cls).before args s = true ∧ (y.cls ≠ "java/lang/invoke/MethodHandle" ∧ y.cls ≠ "java/lang/invoke/VarHandle") ∧
  (∀ sig, parseMethodDescriptor y.desc = some sig → n = sig.parameters.length) ∧ (Cond.methodLink own index y).before args s = true ∧ (Cond.instanceMethod y).before args s = true ∧ (Cond.selects C y y).before args s = true
theorem vx_cwVW {own C : String} {index maxL mc ms : Nat} {y : MethodName} {bytes : ByteArray} {ret : Option FieldType} {hh : List (Nat × Nat × Nat × Nat)} {Ts ws ws' : List Cond} {rm : Room} (n : Nat) (ht : ∀ w ∈ Ts, w.before args s = true) (hT : GoodIn Ts (wsV own index C y ws)) (hw : ws = Cond.codeWith y bytes maxL ret hh :: ws') (hrc : rm.cells = mc) (hrs : rm.slots = ms)
    (hd : y.cls = C ∧ y.cls ≠ "java/lang/invoke/MethodHandle" ∧ y.cls ≠ "java/lang/invoke/VarHandle" ∧ (parseMethodDescriptor y.desc).map (fun d => d.parameters.length) = some n) (hR : rm.frames + 1 ≤ R.frames ∧ 8 + (maxL + 11) + rm.locals ≤ R.locals) :
    vx_CVW R s args own C index y bytes maxL ret hh ws rm mc ms n := by
  obtain ⟨hC, hd⟩ := hd
  subst hC
  have ok : ∀ w ∈ wsV own index y.cls y ws, w.before args s = true := fun w h => ht w (hT w h).1
  have hG : GoodIn Ts ws := fun w h => hT w (by unfold wsV; exact List.mem_append_right _ h)
  have hc : Cond.codeWith y bytes maxL ret hh ∈ ws := by rw [hw]; exact List.mem_cons_self
  refine ⟨⟨hrc, hrs, hR.1, hR.2, pay_in ht hG, hc⟩, ht _ (hG _ hc).1, ok _ (by simp [wsV]), ⟨hd.1, hd.2.1⟩, fun sig h => ?_, ok _ (by simp [wsV]), ok _ (by simp [wsV]), ok _ (by simp [wsV])⟩
  have h2 := hd.2.2
  rw [h] at h2
  exact (Option.some.inj h2).symm
theorem vx_runVW {y : MethodName} {bytes cc : ByteArray} {maxL nL mc ms n index : Nat} {ret : Option FieldType} {hh : List (Nat × Nat × Nat × Nat)} {ws : List Cond} {rm : Room} {Pc : Array Value → State → Prop} {Qc : Array Value → State → Outcome → State → Prop} {free : Addr → Prop} {Ts : List Cond} {own C : String} {b : Addr} {As rest : List Value} {g : JFrame}
    (S : CallFix p m c cc nL s args Ts own) (hM : Met l y ws rm Pc Qc mc ms free) (cw : vx_CVW R s args own C index y bytes maxL ret hh ws rm mc ms n) (hp : PreV s H C b Pc As)
    (hg : g.method = m) (hn : As.length = n) (hsize : g.locals.size = nL) (hstack : g.stack = As.reverse ++ .ref b :: rest) (hW : 2 * g.monitorRoom + (rest.map fun v => v.category).sum ≤ 8) (hdg : decode cc g.pc = .ok (.invokevirtual index, 3)) (hf : cells + mc ≤ R.cells ∧ slots + ms ≤ R.slots) :
    va_Run p l e R s m args below meth c H locs cells slots mc ms g rest (Qc (Value.ref b :: As).toArray) free := by
  obtain ⟨⟨hrc, hrs, hfr, hlo, hws, hcw⟩, hcode, hini, hy, hlen, hl, hin, hse⟩ := cw
  have hK : Back l R p e below s args y 3 8 (PreOf R mc ms Pc) (PostOf Qc mc ms free) := va_backW (hh := hh) (bytes := bytes) (maxL := maxL) (ret := ret) hM hp.1 hrc hrs hfr hlo hws hcw (fun a' U hW => word_at hW (Or.inl (by first | rfl | simp [Cond.onTables, Cond.keeps, Cond.steady])) hini)
  obtain ⟨hx, hb, hml, ho, -⟩ := S
  obtain ⟨-, ⟨cellB, hcB, hoB, hclB⟩, hPc⟩ := hp
  intro T hT X
  obtain ⟨v, vm₁, ⟨U', l2, c2, s2⟩, hW₁, X', ⟨g', mk, t, L, e1, e2, hq, h1, hL, h2, h3⟩, st⟩ := vx_callVW X hx (C := C) (hh := hh) (bytes := bytes) (maxL := maxL) (ret := ret) ho hl hin hse hcode hy hK (by rw [hT]; exact hcB) hoB hclB hg (hsize.trans hml.symm) (argsL := As) (rest := rest) (fun sig h => hn.trans (hlen sig h)) hstack hW (by rw [hb]; exact hdg)
    (fun vm₁ hW₁ => ⟨hf.1, hf.2, hPc (T.setVm vm₁) hT hW₁⟩)
  dsimp only [Pt.U, Pt.locs, Pt.cells, Pt.slots] at X' e1 e2 h1 h2 h3 st
  subst h1; subst h2; subst h3
  exact ⟨v, (T.setVm vm₁).calling g' mk (Value.ref b :: As).toArray, t, U', L, hT, X', hL, e1, e2, hq, st⟩
section
variable {y : MethodName} {bytes cc : ByteArray} {maxL nL mc ms n index : Nat} {ret : Option FieldType} {ws : List Cond} {rm : Room} {Pc : Array Value → State → Prop} {Qc : Array Value → State → Outcome → State → Prop} {XC : String → State → State → Prop} {free : Addr → Prop} {Ts : List Cond} {own C : String} {b : Addr} {As rest : List Value} {g : JFrame}
theorem vx_runVX {hh : List (Nat × Nat × Nat × Nat)} (S : CallFix p m c cc nL s args Ts own) (hM : vx_Met l y ws rm Pc Qc XC mc ms free) (cw : vx_CVW R s args own C index y bytes maxL ret hh ws rm mc ms n) (hp : PreV s H C b Pc As)
    (hg : g.method = m) (hn : As.length = n) (hsize : g.locals.size = nL) (hstack : g.stack = As.reverse ++ .ref b :: rest) (hW : 2 * g.monitorRoom + (rest.map fun v => v.category).sum ≤ 8) (hdg : decode cc g.pc = .ok (.invokevirtual index, 3)) (hf : cells + mc ≤ R.cells ∧ slots + ms ≤ R.slots) :
    vx_Run p l e R s m args below meth c H locs cells slots mc ms g rest (Qc (Value.ref b :: As).toArray) XC free := by
  obtain ⟨⟨hrc, hrs, hfr, hlo, hws, hcw⟩, hcode, hini, hy, hlen, hl, hin, hse⟩ := cw
  have hK : vx_Back l R p e below s args y 3 8 (PreOf R mc ms Pc) (PostOf Qc mc ms free) (vx_Post XC mc ms free) := vx_backW (hh := hh) (bytes := bytes) (maxL := maxL) (ret := ret) hM hp.1 hrc hrs hfr hlo hws hcw (fun a' U hW => word_at hW (Or.inl (by first | rfl | simp [Cond.onTables, Cond.keeps, Cond.steady])) hini)
  obtain ⟨hx, hb, hml, ho, -⟩ := S
  obtain ⟨-, ⟨cellB, hcB, hoB, hclB⟩, hPc⟩ := hp
  intro T hT X
  rcases vx_callVX X hx (C := C) (hh := hh) (bytes := bytes) (maxL := maxL) (ret := ret) ho hl hin hse hcode hy hK (by rw [hT]; exact hcB) hoB hclB hg (hsize.trans hml.symm) (argsL := As) (rest := rest) (fun sig h => hn.trans (hlen sig h)) hstack hW (by rw [hb]; exact hdg)
    (fun vm₁ hW₁ => ⟨hf.1, hf.2, hPc (T.setVm vm₁) hT hW₁⟩) with ⟨v, vm₁, ⟨U', l2, c2, s2⟩, hW₁, X', ⟨g', mk, t, L, e1, e2, hq, h1, hL, h2, h3⟩, st⟩ | ⟨q, vm₁, ⟨U', l2, c2, s2⟩, hW₁, X', ⟨g', mk, t, L, E, ce, e1, e2, hq, hce, hcv, hcl, h1, hL, h2, h3⟩, st⟩
  · dsimp only [Pt.U, Pt.locs, Pt.cells, Pt.slots] at X' e1 e2 h1 h2 h3 st
    subst h1; subst h2; subst h3
    exact Or.inl ⟨v, (T.setVm vm₁).calling g' mk (Value.ref b :: As).toArray, t, U', L, hT, X', hL, e1, e2, hq, st⟩
  · dsimp only [Pt.U, Pt.locs, Pt.cells, Pt.slots] at X' e1 e2 h1 h2 h3 st hcl
    subst h1; subst h2; subst h3
    exact Or.inr ⟨q, (T.setVm vm₁).calling g' mk (Value.ref b :: As).toArray, t, U', L, E, ce, hT, X', hL, e1, e2, hq, hce, hcv, vx_cls hW₁ hcl, st⟩
theorem vx_runSX {hh : List (Nat × Nat × Nat × Nat)} (S : CallFix p m c cc nL s args Ts own) (hM : vx_Met l y ws rm Pc Qc XC mc ms free) (cw : vx_CSW R s args own index y bytes maxL ret hh ws rm mc ms n) (hp : PreS s H Pc As)
    (hg : g.method = m) (hn : As.length = n) (hsize : g.locals.size = nL) (hstack : g.stack = As.reverse ++ rest) (hW : 2 * g.monitorRoom + (rest.map fun v => v.category).sum ≤ 8) (hdg : decode cc g.pc = .ok (.invokestatic index, 3)) (hf : cells + mc ≤ R.cells ∧ slots + ms ≤ R.slots) :
    vx_Run p l e R s m args below meth c H locs cells slots mc ms g rest (Qc As.toArray) XC free := by
  obtain ⟨⟨hrc, hrs, hfr, hlo, hws, hcw⟩, hcode, hini, hy, hlen, hl, hstt⟩ := cw
  have hK : vx_Back l R p e below s args y 3 8 (PreOf R mc ms Pc) (PostOf Qc mc ms free) (vx_Post XC mc ms free) := vx_backW (hh := hh) (bytes := bytes) (maxL := maxL) (ret := ret) hM hp.1 hrc hrs hfr hlo hws hcw (fun a' U hW => word_at hW (Or.inl (by first | rfl | simp [Cond.onTables, Cond.keeps, Cond.steady])) hini)
  obtain ⟨hx, hb, hml, ho, -⟩ := S
  intro T hT X
  rcases vx_callSX X hx (hh := hh) (bytes := bytes) (maxL := maxL) (ret := ret) ho hl hstt hini hcode hy hK hg (hsize.trans hml.symm) (argsL := As) (rest := rest) (fun sig h => hn.trans (hlen sig h)) hstack hW (by rw [hb]; exact hdg)
    (fun vm₁ hW₁ => ⟨hf.1, hf.2, hp.2 (T.setVm vm₁) hT hW₁⟩) with ⟨v, vm₁, ⟨U', l2, c2, s2⟩, hW₁, X', ⟨g', mk, t, L, e1, e2, hq, h1, hL, h2, h3⟩, st⟩ | ⟨q, vm₁, ⟨U', l2, c2, s2⟩, hW₁, X', ⟨g', mk, t, L, E, ce, e1, e2, hq, hce, hcv, hcl, h1, hL, h2, h3⟩, st⟩
  · dsimp only [Pt.U, Pt.locs, Pt.cells, Pt.slots] at X' e1 e2 h1 h2 h3 st
    subst h1; subst h2; subst h3
    exact Or.inl ⟨v, (T.setVm vm₁).calling g' mk As.toArray, t, U', L, hT, X', hL, e1, e2, hq, st⟩
  · dsimp only [Pt.U, Pt.locs, Pt.cells, Pt.slots] at X' e1 e2 h1 h2 h3 st hcl
    subst h1; subst h2; subst h3
    exact Or.inr ⟨q, (T.setVm vm₁).calling g' mk As.toArray, t, U', L, E, ce, hT, X', hL, e1, e2, hq, hce, hcv, vx_cls hW₁ hcl, st⟩
end
end VXH
theorem vx_ofWH {l : Launch} {y : MethodName} {ws ws' : List Cond} {rm : Room} {Pc : Array Value → State → Prop} {Qc : Array Value → State → Outcome → State → Prop} {XC : String → State → State → Prop} {mc ms : Nat} {free : Addr → Prop} {cc : ByteArray} {maxL : Nat} {ret : Option FieldType} {hh : List (Nat × Nat × Nat × Nat)}
    (hy : plainName y.cls = true) (hw : ws = Cond.codeWith y cc maxL ret hh :: ws')
    (body : ∀ p e s m args below meth c s₁, BodyLoose p l y (headSpec ws rm) cc maxL ret e s m args below meth c s₁ → c.maxLocals = maxL → Pc args s →
      W p l e (headSpec ws rm).room s m args below meth c s.heap [] 0 0 (vx_MQ below Qc XC args s mc ms free) (entryFrame m args maxL)) : vx_Met l y ws rm Pc Qc XC mc ms free := by
  refine MetFree.of_bodyS (code := cc) (maxLocals := maxL) (ret := ret) hy ?_ ?_
  · intro args s m h hn
    obtain ⟨m9, meth, c, hn9, h1, h2, h3, h4, -, h5, h6, -⟩ := Cond.codeWith_spec (atoms_spec (ws := ws) h _ (by rw [hw]; exact List.mem_cons_self))
    cases hn.symm.trans hn9
    exact ⟨meth, c, h1, h2, h3, h4, h5, h6⟩
  · intro p e s m args below meth c s₁ B hml hP _
    have hh0 : s₁.heap = s.heap := by rw [B.state]; rfl
    obtain ⟨t, a1, o, b1, b2, b3⟩ := body p e s m args below meth c s₁ B hml hP s₁ hh0 (Stand.of_body B)
    exact ⟨t, o, a1, b1, b2, b3⟩
/-! ===== END ===== -/
end
section
def RX0 : String := "GroundPlan$Blocks"
def TX0 : u_T := fun k => match k with
  | 0 => ("GroundPlan$Blocks", "width", "[I", true)
  | 1 => ("GroundPlan$Blocks", "height", "[I", true)
  | 2 => ("GroundPlan$Blocks", "turnable", "I", false)
  | _ => ("GroundPlan$Blocks", "size", "I", false)
def tyX0 : Nat → FieldType := fun k => match k with
  | 0 => .array .int
  | 1 => .array .int
  | 2 => .int
  | _ => .int
abbrev wsX00 : List Cond := u_ws RX0 TX0 4
theorem nmX0 : ∀ a, a < 4 → ∀ b, b < 4 → a ≠ b → (TX0 a).2.1 ≠ (TX0 b).2.1 := by decide +kernel
theorem tyX0_ok : ∀ k, k < 4 → parseFieldDescriptor (TX0 k).2.2.1 = some (tyX0 k) := by decide +kernel
abbrev cX0_init : ByteArray := prog_2_method_1_code
def yX0_init : MethodName := ⟨RX0, "<init>", "()V"⟩
abbrev cX0_has : ByteArray := prog_2_method_2_code
def yX0_has : MethodName := ⟨RX0, "has", "(I)Z"⟩
abbrev cX0_everyone : ByteArray := prog_2_method_3_code
def yX0_everyone : MethodName := ⟨RX0, "everyone", "()I"⟩
abbrev cX0_add : ByteArray := prog_2_method_4_code
def yX0_add : MethodName := ⟨RX0, "add", "(IIZ)I"⟩
abbrev cX0_drop : ByteArray := prog_2_method_5_code
def yX0_drop : MethodName := ⟨RX0, "drop", "()V"⟩
abbrev cX0_area : ByteArray := prog_2_method_6_code
def yX0_area : MethodName := ⟨RX0, "area", "()I"⟩
abbrev cX0_changedByTurning : ByteArray := prog_2_method_7_code
def yX0_changedByTurning : MethodName := ⟨RX0, "changedByTurning", "()I"⟩
def RX1 : String := "GroundPlan$Found"
def TX1 : u_T := fun k => match k with
  | 0 => ("GroundPlan$Found", "ground", "I", false)
  | 1 => ("GroundPlan$Found", "root", "I", false)
  | 2 => ("GroundPlan$Found", "a", "J", false)
  | 3 => ("GroundPlan$Found", "b", "J", false)
  | _ => ("GroundPlan$Found", "turned", "I", false)
def tyX1 : Nat → FieldType := fun k => match k with
  | 0 => .int
  | 1 => .int
  | 2 => .long
  | 3 => .long
  | _ => .int
abbrev wsX10 : List Cond := u_ws RX1 TX1 5
theorem nmX1 : ∀ a, a < 5 → ∀ b, b < 5 → a ≠ b → (TX1 a).2.1 ≠ (TX1 b).2.1 := by decide +kernel
theorem tyX1_ok : ∀ k, k < 5 → parseFieldDescriptor (TX1 k).2.2.1 = some (tyX1 k) := by decide +kernel
abbrev cX1_init : ByteArray := prog_3_method_1_code
def yX1_init : MethodName := ⟨RX1, "<init>", "()V"⟩
def RX2 : String := "GroundPlan$Ground"
def TX2 : u_T := fun k => match k with
  | 0 => ("GroundPlan$Ground", "x", "[I", true)
  | 1 => ("GroundPlan$Ground", "y", "[I", true)
  | 2 => ("GroundPlan$Ground", "width", "[I", true)
  | 3 => ("GroundPlan$Ground", "height", "[I", true)
  | 4 => ("GroundPlan$Ground", "groups", "[I", true)
  | 5 => ("GroundPlan$Ground", "turned", "I", false)
  | _ => ("GroundPlan$Ground", "size", "I", false)
def tyX2 : Nat → FieldType := fun k => match k with
  | 0 => .array .int
  | 1 => .array .int
  | 2 => .array .int
  | 3 => .array .int
  | 4 => .array .int
  | 5 => .int
  | _ => .int
abbrev wsX20 : List Cond := u_ws RX2 TX2 7
theorem nmX2 : ∀ a, a < 7 → ∀ b, b < 7 → a ≠ b → (TX2 a).2.1 ≠ (TX2 b).2.1 := by decide +kernel
theorem tyX2_ok : ∀ k, k < 7 → parseFieldDescriptor (TX2 k).2.2.1 = some (tyX2 k) := by decide +kernel
abbrev cX2_init : ByteArray := prog_4_method_1_code
def yX2_init : MethodName := ⟨RX2, "<init>", "()V"⟩
abbrev cX2_take : ByteArray := prog_4_method_2_code
def yX2_take : MethodName := ⟨RX2, "take", "(LGroundPlan$Blocks;I)V"⟩
abbrev cX2_gather : ByteArray := prog_4_method_3_code
def yX2_gather : MethodName := ⟨RX2, "gather", "(LGroundPlan$Blocks;)V"⟩
abbrev cX2_turn : ByteArray := prog_4_method_4_code
def yX2_turn : MethodName := ⟨RX2, "turn", "(LGroundPlan$Blocks;IZ)V"⟩
abbrev cX2_setSides : ByteArray := prog_4_method_5_code
def yX2_setSides : MethodName := ⟨RX2, "setSides", "(LGroundPlan$Blocks;I)V"⟩
abbrev cX2_wide : ByteArray := prog_4_method_6_code
def yX2_wide : MethodName := ⟨RX2, "wide", "()I"⟩
abbrev cX2_high : ByteArray := prog_4_method_7_code
def yX2_high : MethodName := ⟨RX2, "high", "()I"⟩
abbrev cX2_area : ByteArray := prog_4_method_8_code
def yX2_area : MethodName := ⟨RX2, "area", "()I"⟩
abbrev cX2_reach : ByteArray := prog_4_method_9_code
def yX2_reach : MethodName := ⟨RX2, "reach", "([I[I)I"⟩
abbrev cX2_isLeft : ByteArray := prog_4_method_10_code
def yX2_isLeft : MethodName := ⟨RX2, "isLeft", "(II)Z"⟩
abbrev cX2_isBelow : ByteArray := prog_4_method_11_code
def yX2_isBelow : MethodName := ⟨RX2, "isBelow", "(II)Z"⟩
abbrev cX2_doClash : ByteArray := prog_4_method_12_code
def yX2_doClash : MethodName := ⟨RX2, "doClash", "(II)Z"⟩
abbrev cX2_firstClash : ByteArray := prog_4_method_13_code
def yX2_firstClash : MethodName := ⟨RX2, "firstClash", "()I"⟩
abbrev cX2_firstOf : ByteArray := prog_4_method_14_code
def yX2_firstOf : MethodName := ⟨RX2, "firstOf", "(I)I"⟩
abbrev cX2_secondOf : ByteArray := prog_4_method_15_code
def yX2_secondOf : MethodName := ⟨RX2, "secondOf", "(I)I"⟩
abbrev cX2_boxAround : ByteArray := prog_4_method_16_code
def yX2_boxAround : MethodName := ⟨RX2, "boxAround", "(I)I"⟩
abbrev cX2_span : ByteArray := prog_4_method_17_code
def yX2_span : MethodName := ⟨RX2, "span", "(I[I[I)I"⟩
abbrev cX2_canBeParted : ByteArray := prog_4_method_18_code
def yX2_canBeParted : MethodName := ⟨RX2, "canBeParted", "()Z"⟩
abbrev cX2_partOf : ByteArray := prog_4_method_19_code
def yX2_partOf : MethodName := ⟨RX2, "partOf", "(I)I"⟩
abbrev cX2_partAt : ByteArray := prog_4_method_20_code
def yX2_partAt : MethodName := ⟨RX2, "partAt", "(I[I[II)I"⟩
def RX3 : String := "GroundPlan$Kin"
def TX3 : u_T := fun k => match k with
  | 0 => ("GroundPlan$Kin", "left", "[I", true)
  | 1 => ("GroundPlan$Kin", "right", "[I", true)
  | 2 => ("GroundPlan$Kin", "open", "[I", true)
  | 3 => ("GroundPlan$Kin", "laid", "[I", true)
  | 4 => ("GroundPlan$Kin", "root", "I", false)
  | _ => ("GroundPlan$Kin", "size", "I", false)
def tyX3 : Nat → FieldType := fun k => match k with
  | 0 => .array .int
  | 1 => .array .int
  | 2 => .array .int
  | 3 => .array .int
  | 4 => .int
  | _ => .int
abbrev wsX30 : List Cond := u_ws RX3 TX3 6
theorem nmX3 : ∀ a, a < 6 → ∀ b, b < 6 → a ≠ b → (TX3 a).2.1 ≠ (TX3 b).2.1 := by decide +kernel
theorem tyX3_ok : ∀ k, k < 6 → parseFieldDescriptor (TX3 k).2.2.1 = some (tyX3 k) := by decide +kernel
abbrev cX3_init : ByteArray := prog_5_method_1_code
def yX3_init : MethodName := ⟨RX3, "<init>", "()V"⟩
abbrev cX3_isTree : ByteArray := prog_5_method_2_code
def yX3_isTree : MethodName := ⟨RX3, "isTree", "(IJJI)Z"⟩
abbrev cX3_isChild : ByteArray := prog_5_method_3_code
def yX3_isChild : MethodName := ⟨RX3, "isChild", "(II)Z"⟩
abbrev cX3_metFrom : ByteArray := prog_5_method_4_code
def yX3_metFrom : MethodName := ⟨RX3, "metFrom", "(IJJI)I"⟩
abbrev cX3_read : ByteArray := prog_5_method_5_code
def yX3_read : MethodName := ⟨RX3, "read", "(IJJI)V"⟩
abbrev cX3_grow : ByteArray := prog_5_method_6_code
def yX3_grow : MethodName := ⟨RX3, "grow", "([III)Z"⟩
abbrev cX3_attach : ByteArray := prog_5_method_7_code
def yX3_attach : MethodName := ⟨RX3, "attach", "(II)V"⟩
abbrev cX3_lay : ByteArray := prog_5_method_8_code
def yX3_lay : MethodName := ⟨RX3, "lay", "(LGroundPlan$Ground;)V"⟩
abbrev cX3_topUnder : ByteArray := prog_5_method_9_code
def yX3_topUnder : MethodName := ⟨RX3, "topUnder", "(LGroundPlan$Ground;II)I"⟩
def RX4 : String := "GroundPlan$Orders"
def TX4 : u_T := fun k => match k with
  | 0 => ("GroundPlan$Orders", "one", "[I", true)
  | 1 => ("GroundPlan$Orders", "two", "[I", true)
  | 2 => ("GroundPlan$Orders", "placeInOne", "[I", true)
  | 3 => ("GroundPlan$Orders", "chain", "[I", true)
  | 4 => ("GroundPlan$Orders", "ahead", "[I", true)
  | _ => ("GroundPlan$Orders", "size", "I", false)
def tyX4 : Nat → FieldType := fun k => match k with
  | 0 => .array .int
  | 1 => .array .int
  | 2 => .array .int
  | 3 => .array .int
  | 4 => .array .int
  | _ => .int
abbrev wsX40 : List Cond := u_ws RX4 TX4 6
theorem nmX4 : ∀ a, a < 6 → ∀ b, b < 6 → a ≠ b → (TX4 a).2.1 ≠ (TX4 b).2.1 := by decide +kernel
theorem tyX4_ok : ∀ k, k < 6 → parseFieldDescriptor (TX4 k).2.2.1 = some (tyX4 k) := by decide +kernel
abbrev cX4_init : ByteArray := prog_6_method_1_code
def yX4_init : MethodName := ⟨RX4, "<init>", "()V"⟩
abbrev cX4_isOrder : ByteArray := prog_6_method_2_code
def yX4_isOrder : MethodName := ⟨RX4, "isOrder", "(JI)Z"⟩
abbrev cX4_read : ByteArray := prog_6_method_3_code
def yX4_read : MethodName := ⟨RX4, "read", "(JJI)V"⟩
abbrev cX4_begin : ByteArray := prog_6_method_4_code
def yX4_begin : MethodName := ⟨RX4, "begin", "(I)V"⟩
abbrev cX4_notePlaces : ByteArray := prog_6_method_5_code
def yX4_notePlaces : MethodName := ⟨RX4, "notePlaces", "()V"⟩
abbrev cX4_exchangeIn : ByteArray := prog_6_method_6_code
def yX4_exchangeIn : MethodName := ⟨RX4, "exchangeIn", "(III)V"⟩
abbrev cX4_lay : ByteArray := prog_6_method_7_code
def yX4_lay : MethodName := ⟨RX4, "lay", "(LGroundPlan$Ground;)V"⟩
abbrev cX4_roomRight : ByteArray := prog_6_method_8_code
def yX4_roomRight : MethodName := ⟨RX4, "roomRight", "(LGroundPlan$Ground;I)I"⟩
abbrev cX4_roomUp : ByteArray := prog_6_method_9_code
def yX4_roomUp : MethodName := ⟨RX4, "roomUp", "(LGroundPlan$Ground;I)I"⟩
abbrev cX4_measureChains : ByteArray := prog_6_method_10_code
def yX4_measureChains : MethodName := ⟨RX4, "measureChains", "([IZ)V"⟩
abbrev cX4_readPlaces : ByteArray := prog_6_method_11_code
def yX4_readPlaces : MethodName := ⟨RX4, "readPlaces", "(LGroundPlan$Ground;)V"⟩
abbrev cX4_noteAheadInOne : ByteArray := prog_6_method_12_code
def yX4_noteAheadInOne : MethodName := ⟨RX4, "noteAheadInOne", "(LGroundPlan$Ground;)V"⟩
abbrev cX4_noteAheadInTwo : ByteArray := prog_6_method_13_code
def yX4_noteAheadInTwo : MethodName := ⟨RX4, "noteAheadInTwo", "(LGroundPlan$Ground;)V"⟩
abbrev cX4_sortOut : ByteArray := prog_6_method_14_code
def yX4_sortOut : MethodName := ⟨RX4, "sortOut", "([I)V"⟩
abbrev cX4_firstFree : ByteArray := prog_6_method_15_code
def yX4_firstFree : MethodName := ⟨RX4, "firstFree", "(I)I"⟩
abbrev cX4_number : ByteArray := prog_6_method_16_code
def yX4_number : MethodName := ⟨RX4, "number", "()J"⟩
abbrev cX4_numberOf : ByteArray := prog_6_method_17_code
def yX4_numberOf : MethodName := ⟨RX4, "numberOf", "([I)J"⟩
abbrev cX4_readNumber : ByteArray := prog_6_method_18_code
def yX4_readNumber : MethodName := ⟨RX4, "readNumber", "(JI)V"⟩
abbrev cX4_fill : ByteArray := prog_6_method_19_code
def yX4_fill : MethodName := ⟨RX4, "fill", "([IJ)V"⟩
abbrev cX4_nthOf : ByteArray := prog_6_method_20_code
def yX4_nthOf : MethodName := ⟨RX4, "nthOf", "(II)I"⟩
def RX5 : String := "GroundPlan$Outline"
def TX5 : u_T := fun k => match k with
  | 0 => ("GroundPlan$Outline", "wide", "[I", true)
  | 1 => ("GroundPlan$Outline", "high", "[I", true)
  | 2 => ("GroundPlan$Outline", "joinedWide", "[I", true)
  | 3 => ("GroundPlan$Outline", "joinedHigh", "[I", true)
  | 4 => ("GroundPlan$Outline", "starts", "[I", true)
  | _ => ("GroundPlan$Outline", "size", "I", false)
def tyX5 : Nat → FieldType := fun k => match k with
  | 0 => .array .int
  | 1 => .array .int
  | 2 => .array .int
  | 3 => .array .int
  | 4 => .array .int
  | _ => .int
abbrev wsX50 : List Cond := u_ws RX5 TX5 6
theorem nmX5 : ∀ a, a < 6 → ∀ b, b < 6 → a ≠ b → (TX5 a).2.1 ≠ (TX5 b).2.1 := by decide +kernel
theorem tyX5_ok : ∀ k, k < 6 → parseFieldDescriptor (TX5 k).2.2.1 = some (tyX5 k) := by decide +kernel
abbrev cX5_init : ByteArray := prog_7_method_1_code
def yX5_init : MethodName := ⟨RX5, "<init>", "()V"⟩
abbrev cX5_draw : ByteArray := prog_7_method_2_code
def yX5_draw : MethodName := ⟨RX5, "draw", "(LGroundPlan$Row;LGroundPlan$Blocks;II)V"⟩
abbrev cX5_addBlock : ByteArray := prog_7_method_3_code
def yX5_addBlock : MethodName := ⟨RX5, "addBlock", "(IIII)V"⟩
abbrev cX5_addShape : ByteArray := prog_7_method_4_code
def yX5_addShape : MethodName := ⟨RX5, "addShape", "(II)V"⟩
abbrev cX5_takeJoined : ByteArray := prog_7_method_5_code
def yX5_takeJoined : MethodName := ⟨RX5, "takeJoined", "(II)V"⟩
abbrev cX5_takeJoinedBackward : ByteArray := prog_7_method_6_code
def yX5_takeJoinedBackward : MethodName := ⟨RX5, "takeJoinedBackward", "(II)V"⟩
abbrev cX5_joinBeside : ByteArray := prog_7_method_7_code
def yX5_joinBeside : MethodName := ⟨RX5, "joinBeside", "(II)I"⟩
abbrev cX5_joinAbove : ByteArray := prog_7_method_8_code
def yX5_joinAbove : MethodName := ⟨RX5, "joinAbove", "(II)I"⟩
abbrev cX5_leastArea : ByteArray := prog_7_method_9_code
def yX5_leastArea : MethodName := ⟨RX5, "leastArea", "()I"⟩
abbrev cX5_holds : ByteArray := prog_7_method_10_code
def yX5_holds : MethodName := ⟨RX5, "holds", "(II)Z"⟩
abbrev cX5_leastTurns : ByteArray := prog_7_method_11_code
def yX5_leastTurns : MethodName := ⟨RX5, "leastTurns", "(LGroundPlan$Row;LGroundPlan$Blocks;II)I"⟩
def RX6 : String := "GroundPlan$Row"
def TX6 : u_T := fun k => match k with
  | 0 => ("GroundPlan$Row", "tokens", "[I", true)
  | 1 => ("GroundPlan$Row", "before", "[I", true)
  | 2 => ("GroundPlan$Row", "members", "[I", true)
  | 3 => ("GroundPlan$Row", "wide", "[I", true)
  | 4 => ("GroundPlan$Row", "high", "[I", true)
  | _ => ("GroundPlan$Row", "length", "I", false)
def tyX6 : Nat → FieldType := fun k => match k with
  | 0 => .array .int
  | 1 => .array .int
  | 2 => .array .int
  | 3 => .array .int
  | 4 => .array .int
  | _ => .int
abbrev wsX60 : List Cond := u_ws RX6 TX6 6
theorem nmX6 : ∀ a, a < 6 → ∀ b, b < 6 → a ≠ b → (TX6 a).2.1 ≠ (TX6 b).2.1 := by decide +kernel
theorem tyX6_ok : ∀ k, k < 6 → parseFieldDescriptor (TX6 k).2.2.1 = some (tyX6 k) := by decide +kernel
abbrev cX6_init : ByteArray := prog_8_method_1_code
def yX6_init : MethodName := ⟨RX6, "<init>", "()V"⟩
abbrev cX6_tokenAt : ByteArray := prog_8_method_2_code
def yX6_tokenAt : MethodName := ⟨RX6, "tokenAt", "(JJI)I"⟩
abbrev cX6_isRow : ByteArray := prog_8_method_3_code
def yX6_isRow : MethodName := ⟨RX6, "isRow", "(JJI)Z"⟩
abbrev cX6_read : ByteArray := prog_8_method_4_code
def yX6_read : MethodName := ⟨RX6, "read", "(JJI)V"⟩
abbrev cX6_lay : ByteArray := prog_8_method_5_code
def yX6_lay : MethodName := ⟨RX6, "lay", "(LGroundPlan$Ground;)V"⟩
abbrev cX6_join : ByteArray := prog_8_method_6_code
def yX6_join : MethodName := ⟨RX6, "join", "(LGroundPlan$Ground;II)V"⟩
abbrev cX6_shift : ByteArray := prog_8_method_7_code
def yX6_shift : MethodName := ⟨RX6, "shift", "([III)V"⟩
abbrev cX6_makeNormal : ByteArray := prog_8_method_8_code
def yX6_makeNormal : MethodName := ⟨RX6, "makeNormal", "()I"⟩
abbrev cX6_firstTwice : ByteArray := prog_8_method_9_code
def yX6_firstTwice : MethodName := ⟨RX6, "firstTwice", "()I"⟩
abbrev cX6_startOfPart : ByteArray := prog_8_method_10_code
def yX6_startOfPart : MethodName := ⟨RX6, "startOfPart", "(I)I"⟩
abbrev cX6_moveForward : ByteArray := prog_8_method_11_code
def yX6_moveForward : MethodName := ⟨RX6, "moveForward", "(II)V"⟩
abbrev cX6_countChanged : ByteArray := prog_8_method_12_code
def yX6_countChanged : MethodName := ⟨RX6, "countChanged", "()I"⟩
def RX7 : String := "GroundPlan$Search"
def TX7 : u_T := fun k => match k with
  | 0 => ("GroundPlan$Search", "blocks", "LGroundPlan$Blocks;", true)
  | 1 => ("GroundPlan$Search", "finds", "[LGroundPlan$Found;", true)
  | 2 => ("GroundPlan$Search", "trial", "LGroundPlan$Ground;", true)
  | 3 => ("GroundPlan$Search", "orders", "LGroundPlan$Orders;", true)
  | 4 => ("GroundPlan$Search", "row", "LGroundPlan$Row;", true)
  | 5 => ("GroundPlan$Search", "kin", "LGroundPlan$Kin;", true)
  | 6 => ("GroundPlan$Search", "outline", "LGroundPlan$Outline;", true)
  | 7 => ("GroundPlan$Search", "found", "LGroundPlan$Found;", false)
  | 8 => ("GroundPlan$Search", "size", "I", false)
  | 9 => ("GroundPlan$Search", "turnable", "I", false)
  | _ => ("GroundPlan$Search", "floor", "I", false)
def tyX7 : Nat → FieldType := fun k => match k with
  | 0 => .object "GroundPlan$Blocks"
  | 1 => .array (.object "GroundPlan$Found")
  | 2 => .object "GroundPlan$Ground"
  | 3 => .object "GroundPlan$Orders"
  | 4 => .object "GroundPlan$Row"
  | 5 => .object "GroundPlan$Kin"
  | 6 => .object "GroundPlan$Outline"
  | 7 => .object "GroundPlan$Found"
  | 8 => .int
  | 9 => .int
  | _ => .int
abbrev wsX70 : List Cond := u_ws RX7 TX7 11
theorem nmX7 : ∀ a, a < 11 → ∀ b, b < 11 → a ≠ b → (TX7 a).2.1 ≠ (TX7 b).2.1 := by decide +kernel
theorem tyX7_ok : ∀ k, k < 11 → parseFieldDescriptor (TX7 k).2.2.1 = some (tyX7 k) := by decide +kernel
abbrev cX7_init : ByteArray := prog_9_method_1_code
def yX7_init : MethodName := ⟨RX7, "<init>", "(LGroundPlan$Blocks;)V"⟩
abbrev cX7_forget : ByteArray := prog_9_method_2_code
def yX7_forget : MethodName := ⟨RX7, "forget", "()V"⟩
abbrev cX7_find : ByteArray := prog_9_method_3_code
def yX7_find : MethodName := ⟨RX7, "find", "(I)LGroundPlan$Found;"⟩
abbrev cX7_prepare : ByteArray := prog_9_method_4_code
def yX7_prepare : MethodName := ⟨RX7, "prepare", "()V"⟩
abbrev cX7_isDone : ByteArray := prog_9_method_5_code
def yX7_isDone : MethodName := ⟨RX7, "isDone", "()Z"⟩
abbrev cX7_searchPairs : ByteArray := prog_9_method_6_code
def yX7_searchPairs : MethodName := ⟨RX7, "searchPairs", "()V"⟩
abbrev cX7_mayBeFirst : ByteArray := prog_9_method_7_code
def yX7_mayBeFirst : MethodName := ⟨RX7, "mayBeFirst", "()Z"⟩
abbrev cX7_comesLower : ByteArray := prog_9_method_8_code
def yX7_comesLower : MethodName := ⟨RX7, "comesLower", "(LGroundPlan$Telling;)Z"⟩
abbrev cX7_searchTrees : ByteArray := prog_9_method_9_code
def yX7_searchTrees : MethodName := ⟨RX7, "searchTrees", "()V"⟩
abbrev cX7_searchCuts : ByteArray := prog_9_method_10_code
def yX7_searchCuts : MethodName := ⟨RX7, "searchCuts", "()V"⟩
abbrev cX7_extend : ByteArray := prog_9_method_11_code
def yX7_extend : MethodName := ⟨RX7, "extend", "(III)V"⟩
abbrev cX7_tryRow : ByteArray := prog_9_method_12_code
def yX7_tryRow : MethodName := ⟨RX7, "tryRow", "()V"⟩
abbrev cX7_nextTurned : ByteArray := prog_9_method_13_code
def yX7_nextTurned : MethodName := ⟨RX7, "nextTurned", "(I)I"⟩
abbrev cX7_nextOrder : ByteArray := prog_9_method_14_code
def yX7_nextOrder : MethodName := ⟨RX7, "nextOrder", "([I)V"⟩
def RX8 : String := "GroundPlan$Telling"
def TX8 : u_T := fun k => match k with
  | _ => ("", "", "", false)
def tyX8 : Nat → FieldType := fun k => match k with
  | _ => .int
abbrev wsX80 : List Cond := u_ws RX8 TX8 0
theorem nmX8 : ∀ a, a < 0 → ∀ b, b < 0 → a ≠ b → (TX8 a).2.1 ≠ (TX8 b).2.1 := by decide +kernel
theorem tyX8_ok : ∀ k, k < 0 → parseFieldDescriptor (TX8 k).2.2.1 = some (tyX8 k) := by decide +kernel
abbrev cX8_init : ByteArray := prog_10_method_1_code
def yX8_init : MethodName := ⟨RX8, "<init>", "()V"⟩
def RX9 : String := "GroundPlan"
def TX9 : u_T := fun k => match k with
  | 0 => ("GroundPlan", "blocks", "LGroundPlan$Blocks;", true)
  | 1 => ("GroundPlan", "nets", "[I", true)
  | 2 => ("GroundPlan", "ground", "LGroundPlan$Ground;", true)
  | 3 => ("GroundPlan", "orders", "LGroundPlan$Orders;", true)
  | 4 => ("GroundPlan", "row", "LGroundPlan$Row;", true)
  | 5 => ("GroundPlan", "kin", "LGroundPlan$Kin;", true)
  | 6 => ("GroundPlan", "outline", "LGroundPlan$Outline;", true)
  | 7 => ("GroundPlan", "search", "LGroundPlan$Search;", true)
  | 8 => ("GroundPlan", "kind", "I", false)
  | _ => ("GroundPlan", "searches", "I", false)
def tyX9 : Nat → FieldType := fun k => match k with
  | 0 => .object "GroundPlan$Blocks"
  | 1 => .array .int
  | 2 => .object "GroundPlan$Ground"
  | 3 => .object "GroundPlan$Orders"
  | 4 => .object "GroundPlan$Row"
  | 5 => .object "GroundPlan$Kin"
  | 6 => .object "GroundPlan$Outline"
  | 7 => .object "GroundPlan$Search"
  | 8 => .int
  | _ => .int
abbrev wsX90 : List Cond := u_ws RX9 TX9 10
theorem nmX9 : ∀ a, a < 10 → ∀ b, b < 10 → a ≠ b → (TX9 a).2.1 ≠ (TX9 b).2.1 := by decide +kernel
theorem tyX9_ok : ∀ k, k < 10 → parseFieldDescriptor (TX9 k).2.2.1 = some (tyX9 k) := by decide +kernel
abbrev cX9_init : ByteArray := prog_1_method_1_code
def yX9_init : MethodName := ⟨RX9, "<init>", "()V"⟩
abbrev cX9_block : ByteArray := prog_1_method_2_code
def yX9_block : MethodName := ⟨RX9, "block", "(IIZ)I"⟩
abbrev cX9_less : ByteArray := prog_1_method_3_code
def yX9_less : MethodName := ⟨RX9, "less", "()I"⟩
abbrev cX9_side : ByteArray := prog_1_method_4_code
def yX9_side : MethodName := ⟨RX9, "side", "(II)I"⟩
abbrev cX9_net : ByteArray := prog_1_method_5_code
def yX9_net : MethodName := ⟨RX9, "net", "(II)I"⟩
abbrev cX9_places : ByteArray := prog_1_method_6_code
def yX9_places : MethodName := ⟨RX9, "places", "()Z"⟩
abbrev cX9_put : ByteArray := prog_1_method_7_code
def yX9_put : MethodName := ⟨RX9, "put", "(IIIZ)Z"⟩
abbrev cX9_pair : ByteArray := prog_1_method_8_code
def yX9_pair : MethodName := ⟨RX9, "pair", "(JJI)Z"⟩
abbrev cX9_cuts : ByteArray := prog_1_method_9_code
def yX9_cuts : MethodName := ⟨RX9, "cuts", "(JJI)Z"⟩
abbrev cX9_tree : ByteArray := prog_1_method_10_code
def yX9_tree : MethodName := ⟨RX9, "tree", "(IJJI)Z"⟩
abbrev cX9_about : ByteArray := prog_1_method_11_code
def yX9_about : MethodName := ⟨RX9, "about", "(I)I"⟩
abbrev cX9_at : ByteArray := prog_1_method_12_code
def yX9_at : MethodName := ⟨RX9, "at", "(II)I"⟩
abbrev cX9_told : ByteArray := prog_1_method_13_code
def yX9_told : MethodName := ⟨RX9, "told", "(I)J"⟩
abbrev cX9_slack : ByteArray := prog_1_method_14_code
def yX9_slack : MethodName := ⟨RX9, "slack", "(II)I"⟩
abbrev cX9_wires : ByteArray := prog_1_method_15_code
def yX9_wires : MethodName := ⟨RX9, "wires", "()I"⟩
abbrev cX9_from : ByteArray := prog_1_method_16_code
def yX9_from : MethodName := ⟨RX9, "from", "()Z"⟩
abbrev cX9_isCut : ByteArray := prog_1_method_17_code
def yX9_isCut : MethodName := ⟨RX9, "isCut", "()Z"⟩
abbrev cX9_normal : ByteArray := prog_1_method_18_code
def yX9_normal : MethodName := ⟨RX9, "normal", "()I"⟩
abbrev cX9_curve : ByteArray := prog_1_method_19_code
def yX9_curve : MethodName := ⟨RX9, "curve", "()I"⟩
abbrev cX9_shape : ByteArray := prog_1_method_20_code
def yX9_shape : MethodName := ⟨RX9, "shape", "(II)I"⟩
abbrev cX9_best : ByteArray := prog_1_method_21_code
def yX9_best : MethodName := ⟨RX9, "best", "(I)I"⟩
abbrev cX9_swap : ByteArray := prog_1_method_22_code
def yX9_swap : MethodName := ⟨RX9, "swap", "(III)Z"⟩
abbrev cX9_least : ByteArray := prog_1_method_23_code
def yX9_least : MethodName := ⟨RX9, "least", "(I)I"⟩
abbrev cX9_count : ByteArray := prog_1_method_24_code
def yX9_count : MethodName := ⟨RX9, "count", "(II)J"⟩
abbrev cX9_rank : ByteArray := prog_1_method_25_code
def yX9_rank : MethodName := ⟨RX9, "rank", "()J"⟩
abbrev cX9_of : ByteArray := prog_1_method_26_code
def yX9_of : MethodName := ⟨RX9, "of", "(J)Z"⟩
abbrev cX9_needBlock : ByteArray := prog_1_method_27_code
def yX9_needBlock : MethodName := ⟨RX9, "needBlock", "(I)V"⟩
abbrev cX9_needLaying : ByteArray := prog_1_method_28_code
def yX9_needLaying : MethodName := ⟨RX9, "needLaying", "()V"⟩
abbrev cX9_needKind : ByteArray := prog_1_method_29_code
def yX9_needKind : MethodName := ⟨RX9, "needKind", "(I)V"⟩
abbrev cX9_needCountable : ByteArray := prog_1_method_30_code
def yX9_needCountable : MethodName := ⟨RX9, "needCountable", "(I)V"⟩
abbrev cX9_drawWith : ByteArray := prog_1_method_31_code
def yX9_drawWith : MethodName := ⟨RX9, "drawWith", "(I)V"⟩
abbrev cX9_endLaying : ByteArray := prog_1_method_32_code
def yX9_endLaying : MethodName := ⟨RX9, "endLaying", "()V"⟩
abbrev cX9_layOut : ByteArray := prog_1_method_33_code
def yX9_layOut : MethodName := ⟨RX9, "layOut", "(LGroundPlan$Telling;II)V"⟩
abbrev cX9_layFound : ByteArray := prog_1_method_34_code
def yX9_layFound : MethodName := ⟨RX9, "layFound", "(ILGroundPlan$Found;)V"⟩
abbrev cX9_isSide : ByteArray := prog_1_method_35_code
def yX9_isSide : MethodName := ⟨RX9, "isSide", "(I)Z"⟩
abbrev cX9_isPlace : ByteArray := prog_1_method_36_code
def yX9_isPlace : MethodName := ⟨RX9, "isPlace", "(I)Z"⟩
abbrev cX9_bitOf : ByteArray := prog_1_method_37_code
def yX9_bitOf : MethodName := ⟨RX9, "bitOf", "(II)I"⟩
abbrev cX9_factorial : ByteArray := prog_1_method_38_code
def yX9_factorial : MethodName := ⟨RX9, "factorial", "(I)J"⟩
abbrev cX9_nibble : ByteArray := prog_1_method_39_code
def yX9_nibble : MethodName := ⟨RX9, "nibble", "(JI)I"⟩
abbrev cX9_pack : ByteArray := prog_1_method_40_code
def yX9_pack : MethodName := ⟨RX9, "pack", "([III)J"⟩
abbrev cX9_exchange : ByteArray := prog_1_method_41_code
def yX9_exchange : MethodName := ⟨RX9, "exchange", "([III)V"⟩
def RX10 : String := "GroundPlanModel"
def TX10 : u_T := fun k => match k with
  | 0 => ("GroundPlanModel", "code", "I", false)
  | 1 => ("GroundPlanModel", "n", "I", false)
  | 2 => ("GroundPlanModel", "width", "[I", true)
  | 3 => ("GroundPlanModel", "height", "[I", true)
  | 4 => ("GroundPlanModel", "nets", "[I", true)
  | 5 => ("GroundPlanModel", "mayTurn", "[Z", true)
  | 6 => ("GroundPlanModel", "kind", "I", false)
  | 7 => ("GroundPlanModel", "turned", "I", false)
  | 8 => ("GroundPlanModel", "root", "I", false)
  | 9 => ("GroundPlanModel", "x", "[I", true)
  | 10 => ("GroundPlanModel", "y", "[I", true)
  | 11 => ("GroundPlanModel", "one", "[I", true)
  | 12 => ("GroundPlanModel", "two", "[I", true)
  | 13 => ("GroundPlanModel", "tokens", "[I", true)
  | 14 => ("GroundPlanModel", "leftOf", "[I", true)
  | 15 => ("GroundPlanModel", "rightOf", "[I", true)
  | 16 => ("GroundPlanModel", "order", "[I", true)
  | 17 => ("GroundPlanModel", "other", "[I", true)
  | 18 => ("GroundPlanModel", "row", "[I", true)
  | 19 => ("GroundPlanModel", "shapeWide", "[I", true)
  | 20 => ("GroundPlanModel", "shapeHigh", "[I", true)
  | 21 => ("GroundPlanModel", "shapes", "I", false)
  | 22 => ("GroundPlanModel", "laid", "I", false)
  | 23 => ("GroundPlanModel", "laidRow", "[I", true)
  | 24 => ("GroundPlanModel", "partA", "[I", true)
  | 25 => ("GroundPlanModel", "partB", "[I", true)
  | 26 => ("GroundPlanModel", "partWide", "[I", true)
  | 27 => ("GroundPlanModel", "partHigh", "[I", true)
  | 28 => ("GroundPlanModel", "partX", "[I", true)
  | 29 => ("GroundPlanModel", "partY", "[I", true)
  | 30 => ("GroundPlanModel", "stack", "[I", true)
  | 31 => ("GroundPlanModel", "partToken", "[I", true)
  | 32 => ("GroundPlanModel", "tryLeft", "[I", true)
  | 33 => ("GroundPlanModel", "tryRight", "[I", true)
  | 34 => ("GroundPlanModel", "met", "I", false)
  | 35 => ("GroundPlanModel", "firstClash", "I", false)
  | 36 => ("GroundPlanModel", "secondClash", "I", false)
  | 37 => ("GroundPlanModel", "rows", "[I", true)
  | 38 => ("GroundPlanModel", "told0", "I", false)
  | 39 => ("GroundPlanModel", "leastGround", "I", false)
  | 40 => ("GroundPlanModel", "leastTurned", "I", false)
  | 41 => ("GroundPlanModel", "leasts", "I", false)
  | 42 => ("GroundPlanModel", "leastOne", "[I", true)
  | 43 => ("GroundPlanModel", "leastTwo", "[I", true)
  | 44 => ("GroundPlanModel", "childCode", "[I", true)
  | 45 => ("GroundPlanModel", "waiting", "[I", true)
  | 46 => ("GroundPlanModel", "leastCode", "[I", true)
  | 47 => ("GroundPlanModel", "waits", "I", false)
  | 48 => ("GroundPlanModel", "trees", "[J", true)
  | _ => ("GroundPlanModel", "besides", "[J", true)
def tyX10 : Nat → FieldType := fun k => match k with
  | 0 => .int
  | 1 => .int
  | 2 => .array .int
  | 3 => .array .int
  | 4 => .array .int
  | 5 => .array .boolean
  | 6 => .int
  | 7 => .int
  | 8 => .int
  | 9 => .array .int
  | 10 => .array .int
  | 11 => .array .int
  | 12 => .array .int
  | 13 => .array .int
  | 14 => .array .int
  | 15 => .array .int
  | 16 => .array .int
  | 17 => .array .int
  | 18 => .array .int
  | 19 => .array .int
  | 20 => .array .int
  | 21 => .int
  | 22 => .int
  | 23 => .array .int
  | 24 => .array .int
  | 25 => .array .int
  | 26 => .array .int
  | 27 => .array .int
  | 28 => .array .int
  | 29 => .array .int
  | 30 => .array .int
  | 31 => .array .int
  | 32 => .array .int
  | 33 => .array .int
  | 34 => .int
  | 35 => .int
  | 36 => .int
  | 37 => .array .int
  | 38 => .int
  | 39 => .int
  | 40 => .int
  | 41 => .int
  | 42 => .array .int
  | 43 => .array .int
  | 44 => .array .int
  | 45 => .array .int
  | 46 => .array .int
  | 47 => .int
  | 48 => .array .long
  | _ => .array .long
abbrev wsX100 : List Cond := u_ws RX10 TX10 50
theorem nmX10 : ∀ a, a < 50 → ∀ b, b < 50 → a ≠ b → (TX10 a).2.1 ≠ (TX10 b).2.1 := by decide +kernel
theorem tyX10_ok : ∀ k, k < 50 → parseFieldDescriptor (TX10 k).2.2.1 = some (tyX10 k) := by decide +kernel
abbrev cX10_init : ByteArray := prog_12_method_1_code
def yX10_init : MethodName := ⟨RX10, "<init>", "()V"⟩
abbrev cX10_thrown : ByteArray := prog_12_method_2_code
def yX10_thrown : MethodName := ⟨RX10, "thrown", "()I"⟩
abbrev cX10_fail : ByteArray := prog_12_method_3_code
def yX10_fail : MethodName := ⟨RX10, "fail", "()I"⟩
abbrev cX10_isBlock : ByteArray := prog_12_method_4_code
def yX10_isBlock : MethodName := ⟨RX10, "isBlock", "(I)Z"⟩
abbrev cX10_wide : ByteArray := prog_12_method_5_code
def yX10_wide : MethodName := ⟨RX10, "wide", "(I)I"⟩
abbrev cX10_high : ByteArray := prog_12_method_6_code
def yX10_high : MethodName := ⟨RX10, "high", "(I)I"⟩
abbrev cX10_turnable : ByteArray := prog_12_method_7_code
def yX10_turnable : MethodName := ⟨RX10, "turnable", "()I"⟩
abbrev cX10_block : ByteArray := prog_12_method_8_code
def yX10_block : MethodName := ⟨RX10, "block", "(IIZ)I"⟩
abbrev cX10_less : ByteArray := prog_12_method_9_code
def yX10_less : MethodName := ⟨RX10, "less", "()I"⟩
abbrev cX10_side : ByteArray := prog_12_method_10_code
def yX10_side : MethodName := ⟨RX10, "side", "(II)I"⟩
abbrev cX10_net : ByteArray := prog_12_method_11_code
def yX10_net : MethodName := ⟨RX10, "net", "(II)I"⟩
abbrev cX10_places : ByteArray := prog_12_method_12_code
def yX10_places : MethodName := ⟨RX10, "places", "()Z"⟩
abbrev cX10_put : ByteArray := prog_12_method_13_code
def yX10_put : MethodName := ⟨RX10, "put", "(IIIZ)Z"⟩
abbrev cX10_nibble : ByteArray := prog_12_method_14_code
def yX10_nibble : MethodName := ⟨RX10, "nibble", "(JI)I"⟩
abbrev cX10_readOrder : ByteArray := prog_12_method_15_code
def yX10_readOrder : MethodName := ⟨RX10, "readOrder", "(J[I)Z"⟩
abbrev cX10_placeIn : ByteArray := prog_12_method_16_code
def yX10_placeIn : MethodName := ⟨RX10, "placeIn", "([II)I"⟩
abbrev cX10_must : ByteArray := prog_12_method_17_code
def yX10_must : MethodName := ⟨RX10, "must", "(IIZ)Z"⟩
abbrev cX10_layPair : ByteArray := prog_12_method_18_code
def yX10_layPair : MethodName := ⟨RX10, "layPair", "()V"⟩
abbrev cX10_pair : ByteArray := prog_12_method_19_code
def yX10_pair : MethodName := ⟨RX10, "pair", "(JJI)Z"⟩
abbrev cX10_rowSize : ByteArray := prog_12_method_20_code
def yX10_rowSize : MethodName := ⟨RX10, "rowSize", "()I"⟩
abbrev cX10_isRow : ByteArray := prog_12_method_21_code
def yX10_isRow : MethodName := ⟨RX10, "isRow", "()Z"⟩
abbrev cX10_makeParts : ByteArray := prog_12_method_22_code
def yX10_makeParts : MethodName := ⟨RX10, "makeParts", "([I)V"⟩
abbrev cX10_layCuts : ByteArray := prog_12_method_23_code
def yX10_layCuts : MethodName := ⟨RX10, "layCuts", "()V"⟩
abbrev cX10_cuts : ByteArray := prog_12_method_24_code
def yX10_cuts : MethodName := ⟨RX10, "cuts", "(JJI)Z"⟩
abbrev cX10_child : ByteArray := prog_12_method_25_code
def yX10_child : MethodName := ⟨RX10, "child", "(I)I"⟩
abbrev cX10_under : ByteArray := prog_12_method_26_code
def yX10_under : MethodName := ⟨RX10, "under", "(I)I"⟩
abbrev cX10_tree : ByteArray := prog_12_method_27_code
def yX10_tree : MethodName := ⟨RX10, "tree", "(IJJI)Z"⟩
abbrev cX10_layTree : ByteArray := prog_12_method_28_code
def yX10_layTree : MethodName := ⟨RX10, "layTree", "()V"⟩
abbrev cX10_layUnder : ByteArray := prog_12_method_29_code
def yX10_layUnder : MethodName := ⟨RX10, "layUnder", "(II)V"⟩
abbrev cX10_allWide : ByteArray := prog_12_method_30_code
def yX10_allWide : MethodName := ⟨RX10, "allWide", "()I"⟩
abbrev cX10_allHigh : ByteArray := prog_12_method_31_code
def yX10_allHigh : MethodName := ⟨RX10, "allHigh", "()I"⟩
abbrev cX10_isLeftOf : ByteArray := prog_12_method_32_code
def yX10_isLeftOf : MethodName := ⟨RX10, "isLeftOf", "(II)Z"⟩
abbrev cX10_isBelow : ByteArray := prog_12_method_33_code
def yX10_isBelow : MethodName := ⟨RX10, "isBelow", "(II)Z"⟩
abbrev cX10_clash : ByteArray := prog_12_method_34_code
def yX10_clash : MethodName := ⟨RX10, "clash", "(II)Z"⟩
abbrev cX10_clashes : ByteArray := prog_12_method_35_code
def yX10_clashes : MethodName := ⟨RX10, "clashes", "()Z"⟩
abbrev cX10_about : ByteArray := prog_12_method_36_code
def yX10_about : MethodName := ⟨RX10, "about", "(I)I"⟩
abbrev cX10_at : ByteArray := prog_12_method_37_code
def yX10_at : MethodName := ⟨RX10, "at", "(II)I"⟩
abbrev cX10_packed : ByteArray := prog_12_method_38_code
def yX10_packed : MethodName := ⟨RX10, "packed", "([IIII)J"⟩
abbrev cX10_told : ByteArray := prog_12_method_39_code
def yX10_told : MethodName := ⟨RX10, "told", "(I)J"⟩
abbrev cX10_slack : ByteArray := prog_12_method_40_code
def yX10_slack : MethodName := ⟨RX10, "slack", "(II)I"⟩
abbrev cX10_longest : ByteArray := prog_12_method_41_code
def yX10_longest : MethodName := ⟨RX10, "longest", "(IZ)I"⟩
abbrev cX10_wires : ByteArray := prog_12_method_42_code
def yX10_wires : MethodName := ⟨RX10, "wires", "()I"⟩
abbrev cX10_ahead : ByteArray := prog_12_method_43_code
def yX10_ahead : MethodName := ⟨RX10, "ahead", "(IIZ)Z"⟩
abbrev cX10_sort : ByteArray := prog_12_method_44_code
def yX10_sort : MethodName := ⟨RX10, "sort", "(Z[I)Z"⟩
abbrev cX10_from : ByteArray := prog_12_method_45_code
def yX10_from : MethodName := ⟨RX10, "from", "()Z"⟩
abbrev cX10_parts : ByteArray := prog_12_method_46_code
def yX10_parts : MethodName := ⟨RX10, "parts", "(I)Z"⟩
abbrev cX10_isCut : ByteArray := prog_12_method_47_code
def yX10_isCut : MethodName := ⟨RX10, "isCut", "()Z"⟩
abbrev cX10_tellPart : ByteArray := prog_12_method_48_code
def yX10_tellPart : MethodName := ⟨RX10, "tellPart", "(I)V"⟩
abbrev cX10_tellChain : ByteArray := prog_12_method_49_code
def yX10_tellChain : MethodName := ⟨RX10, "tellChain", "(IIZ)V"⟩
abbrev cX10_normal : ByteArray := prog_12_method_50_code
def yX10_normal : MethodName := ⟨RX10, "normal", "()I"⟩
abbrev cX10_findCurve : ByteArray := prog_12_method_51_code
def yX10_findCurve : MethodName := ⟨RX10, "findCurve", "()V"⟩
abbrev cX10_add : ByteArray := prog_12_method_52_code
def yX10_add : MethodName := ⟨RX10, "add", "(II)V"⟩
abbrev cX10_curve : ByteArray := prog_12_method_53_code
def yX10_curve : MethodName := ⟨RX10, "curve", "()I"⟩
abbrev cX10_shape : ByteArray := prog_12_method_54_code
def yX10_shape : MethodName := ⟨RX10, "shape", "(II)I"⟩
abbrev cX10_best : ByteArray := prog_12_method_55_code
def yX10_best : MethodName := ⟨RX10, "best", "(I)I"⟩
abbrev cX10_swap : ByteArray := prog_12_method_56_code
def yX10_swap : MethodName := ⟨RX10, "swap", "(III)Z"⟩
abbrev cX10_tryTurned : ByteArray := prog_12_method_57_code
def yX10_tryTurned : MethodName := ⟨RX10, "tryTurned", "(I)Z"⟩
abbrev cX10_next : ByteArray := prog_12_method_58_code
def yX10_next : MethodName := ⟨RX10, "next", "([II)Z"⟩
abbrev cX10_first : ByteArray := prog_12_method_59_code
def yX10_first : MethodName := ⟨RX10, "first", "([I)V"⟩
abbrev cX10_leastPair : ByteArray := prog_12_method_60_code
def yX10_leastPair : MethodName := ⟨RX10, "leastPair", "()V"⟩
abbrev cX10_isNormal : ByteArray := prog_12_method_61_code
def yX10_isNormal : MethodName := ⟨RX10, "isNormal", "()Z"⟩
abbrev cX10_tryRows : ByteArray := prog_12_method_62_code
def yX10_tryRows : MethodName := ⟨RX10, "tryRows", "(III)V"⟩
abbrev cX10_makeTree : ByteArray := prog_12_method_63_code
def yX10_makeTree : MethodName := ⟨RX10, "makeTree", "()Z"⟩
abbrev cX10_leastTree : ByteArray := prog_12_method_64_code
def yX10_leastTree : MethodName := ⟨RX10, "leastTree", "()V"⟩
abbrev cX10_least : ByteArray := prog_12_method_65_code
def yX10_least : MethodName := ⟨RX10, "least", "(I)I"⟩
abbrev cX10_factorial : ByteArray := prog_12_method_66_code
def yX10_factorial : MethodName := ⟨RX10, "factorial", "(I)J"⟩
abbrev cX10_count : ByteArray := prog_12_method_67_code
def yX10_count : MethodName := ⟨RX10, "count", "(II)J"⟩
abbrev cX10_rankOf : ByteArray := prog_12_method_68_code
def yX10_rankOf : MethodName := ⟨RX10, "rankOf", "([I)J"⟩
abbrev cX10_rank : ByteArray := prog_12_method_69_code
def yX10_rank : MethodName := ⟨RX10, "rank", "()J"⟩
abbrev cX10_orderOf : ByteArray := prog_12_method_70_code
def yX10_orderOf : MethodName := ⟨RX10, "orderOf", "(J[I)V"⟩
abbrev cX10_of : ByteArray := prog_12_method_71_code
def yX10_of : MethodName := ⟨RX10, "of", "(J)Z"⟩
def RJ6 : String := "java/lang/Integer"
def TJ6 : u_T := fun k => match k with
  | _ => ("", "", "", false)
def tyJ6 : Nat → FieldType := fun k => match k with
  | _ => .int
abbrev wsJ60 : List Cond := u_ws RJ6 TJ6 0
theorem nmJ6 : ∀ a, a < 0 → ∀ b, b < 0 → a ≠ b → (TJ6 a).2.1 ≠ (TJ6 b).2.1 := by decide +kernel
theorem tyJ6_ok : ∀ k, k < 0 → parseFieldDescriptor (TJ6 k).2.2.1 = some (tyJ6 k) := by decide +kernel
abbrev cJ6_bitCount_0f7a4 : ByteArray := prog_14_method_49_code
def yJ6_bitCount_0f7a4 : MethodName := ⟨RJ6, "bitCount", "(I)I"⟩
def RJ9 : String := "java/lang/Math"
def TJ9 : u_T := fun k => match k with
  | _ => ("", "", "", false)
def tyJ9 : Nat → FieldType := fun k => match k with
  | _ => .int
abbrev wsJ90 : List Cond := u_ws RJ9 TJ9 0
theorem nmJ9 : ∀ a, a < 0 → ∀ b, b < 0 → a ≠ b → (TJ9 a).2.1 ≠ (TJ9 b).2.1 := by decide +kernel
theorem tyJ9_ok : ∀ k, k < 0 → parseFieldDescriptor (TJ9 k).2.2.1 = some (tyJ9 k) := by decide +kernel
abbrev cJ9_max_7cf53 : ByteArray := prog_15_method_65_code
def yJ9_max_7cf53 : MethodName := ⟨RJ9, "max", "(II)I"⟩
abbrev cJ9_min_7cf53 : ByteArray := prog_15_method_69_code
def yJ9_min_7cf53 : MethodName := ⟨RJ9, "min", "(II)I"⟩
def RJ0 : String := "java/lang/String"
def TJ0 : u_T := fun k => match k with
  | _ => ("", "", "", false)
def tyJ0 : Nat → FieldType := fun k => match k with
  | _ => .int
abbrev wsJ00 : List Cond := u_ws RJ0 TJ0 0
theorem nmJ0 : ∀ a, a < 0 → ∀ b, b < 0 → a ≠ b → (TJ0 a).2.1 ≠ (TJ0 b).2.1 := by decide +kernel
theorem tyJ0_ok : ∀ k, k < 0 → parseFieldDescriptor (TJ0 k).2.2.1 = some (tyJ0 k) := by decide +kernel
def RJ10 : String := "java/lang/System"
def TJ10 : u_T := fun k => match k with
  | _ => ("", "", "", false)
def tyJ10 : Nat → FieldType := fun k => match k with
  | _ => .int
abbrev wsJ100 : List Cond := u_ws RJ10 TJ10 0
theorem nmJ10 : ∀ a, a < 0 → ∀ b, b < 0 → a ≠ b → (TJ10 a).2.1 ≠ (TJ10 b).2.1 := by decide +kernel
theorem tyJ10_ok : ∀ k, k < 0 → parseFieldDescriptor (TJ10 k).2.2.1 = some (tyJ10 k) := by decide +kernel
def RL : String := "GroundPlanLaw"
abbrev cL_side : ByteArray := method_3_code
def yL_side : MethodName := ⟨RL, "side", "(LGroundPlan;II[J)I"⟩
abbrev cL_net : ByteArray := method_4_code
def yL_net : MethodName := ⟨RL, "net", "(LGroundPlan;II[J)I"⟩
abbrev cL_put : ByteArray := method_5_code
def yL_put : MethodName := ⟨RL, "put", "(LGroundPlan;IIIZ[J)I"⟩
abbrev cL_about : ByteArray := method_6_code
def yL_about : MethodName := ⟨RL, "about", "(LGroundPlan;I[J)I"⟩
abbrev cL_at : ByteArray := method_7_code
def yL_at : MethodName := ⟨RL, "at", "(LGroundPlan;II[J)I"⟩
abbrev cL_told : ByteArray := method_8_code
def yL_told : MethodName := ⟨RL, "told", "(LGroundPlan;I[J)I"⟩
abbrev cL_slack : ByteArray := method_9_code
def yL_slack : MethodName := ⟨RL, "slack", "(LGroundPlan;II[J)I"⟩
abbrev cL_wires : ByteArray := method_10_code
def yL_wires : MethodName := ⟨RL, "wires", "(LGroundPlan;[J)I"⟩
abbrev cL_isCut : ByteArray := method_11_code
def yL_isCut : MethodName := ⟨RL, "isCut", "(LGroundPlan;[J)I"⟩
abbrev cL_normal : ByteArray := method_12_code
def yL_normal : MethodName := ⟨RL, "normal", "(LGroundPlan;[J)I"⟩
abbrev cL_curve : ByteArray := method_13_code
def yL_curve : MethodName := ⟨RL, "curve", "(LGroundPlan;[J)I"⟩
abbrev cL_shape : ByteArray := method_14_code
def yL_shape : MethodName := ⟨RL, "shape", "(LGroundPlan;II[J)I"⟩
abbrev cL_best : ByteArray := method_15_code
def yL_best : MethodName := ⟨RL, "best", "(LGroundPlan;I[J)I"⟩
abbrev cL_least : ByteArray := method_16_code
def yL_least : MethodName := ⟨RL, "least", "(LGroundPlan;I[J)I"⟩
abbrev cL_count : ByteArray := method_17_code
def yL_count : MethodName := ⟨RL, "count", "(LGroundPlan;II[J)I"⟩
abbrev cL_rank : ByteArray := method_18_code
def yL_rank : MethodName := ⟨RL, "rank", "(LGroundPlan;[J)I"⟩
abbrev cL_law : ByteArray := code
def yL_law : MethodName := ⟨RL, "law", "([I)Z"⟩
abbrev vwCl : List vw_C := [(RX0, TX0, 4), (RX1, TX1, 5), (RX2, TX2, 7), (RX3, TX3, 6), (RX4, TX4, 6), (RX5, TX5, 6), (RX6, TX6, 6), (RX7, TX7, 11), (RX9, TX9, 10), (RX10, TX10, 50)]
end
section
/-! THE WORLD: the cells of the class, of the reference and of the law, in the order in which they are made; their numbers as two memories -/
abbrev Ev : Type := Nat × (Nat → ClassId) × (Nat → Nat → Nat) × (Nat → ClassId) × (Nat → Nat)
abbrev Mm : Type := (Nat → Nat → Int32) × (Nat → Nat → Int64)
/-- a cell: kind (0 ints, 1 longs, 2 booleans, 3 finds, 4 an object), length or number of its sort, fields (0 int, 1 long, 2 a fixed cell, 3 a cell by number) -/
abbrev Ly : Type := Nat × Nat × List (Nat × Nat)
def LT : List Ly := [(4, 8, [(2, 1), (2, 4), (2, 5), (2, 11), (2, 17), (2, 23), (2, 28), (2, 34), (0, 0), (0, 0)]), (4, 0, [(2, 2), (2, 3), (0, 0), (0, 0)]), (0, 12, []), (0, 12, []), (0, 20, []), (4, 2, [(2, 6), (2, 7), (2, 8), (2, 9), (2, 10), (0, 0), (0, 0)]), (0, 12, []), (0, 12, []), (0, 12, []), (0, 12, []), (0, 13, []), (4, 4, [(2, 12), (2, 13), (2, 14), (2, 15), (2, 16), (0, 0)]), (0, 12, []), (0, 12, []), (0, 12, []), (0, 12, []), (0, 12, []), (4, 6, [(2, 18), (2, 19), (2, 20), (2, 21), (2, 22), (0, 0)]), (0, 23, []), (0, 23, []), (0, 12, []), (0, 12, []), (0, 12, []), (4, 3, [(2, 24), (2, 25), (2, 26), (2, 27), (0, 0), (0, 0)]), (0, 12, []), (0, 12, []), (0, 24, []), (0, 12, []), (4, 5, [(2, 29), (2, 30), (2, 31), (2, 32), (2, 33), (0, 0)]), (0, 26, []), (0, 26, []), (0, 26, []), (0, 26, []), (0, 13, []), (4, 7, [(2, 1), (2, 35), (2, 36), (2, 42), (2, 48), (2, 54), (2, 59), (3, 65), (0, 0), (0, 0), (0, 0)]), (3, 4, [(2, 65), (2, 66), (2, 67), (2, 68)]), (4, 2, [(2, 37), (2, 38), (2, 39), (2, 40), (2, 41), (0, 0), (0, 0)]), (0, 12, []), (0, 12, []), (0, 12, []), (0, 12, []), (0, 13, []), (4, 4, [(2, 43), (2, 44), (2, 45), (2, 46), (2, 47), (0, 0)]), (0, 12, []), (0, 12, []), (0, 12, []), (0, 12, []), (0, 12, []), (4, 6, [(2, 49), (2, 50), (2, 51), (2, 52), (2, 53), (0, 0)]), (0, 23, []), (0, 23, []), (0, 12, []), (0, 12, []), (0, 12, []), (4, 3, [(2, 55), (2, 56), (2, 57), (2, 58), (0, 0), (0, 0)]), (0, 12, []), (0, 12, []), (0, 24, []), (0, 12, []), (4, 5, [(2, 60), (2, 61), (2, 62), (2, 63), (2, 64), (0, 0)]), (0, 26, []), (0, 26, []), (0, 26, []), (0, 26, []), (0, 13, []), (4, 1, [(0, 0), (0, 0), (1, 0), (1, 0), (0, 0)]), (4, 1, [(0, 0), (0, 0), (1, 0), (1, 0), (0, 0)]), (4, 1, [(0, 0), (0, 0), (1, 0), (1, 0), (0, 0)]), (4, 1, [(0, 0), (0, 0), (1, 0), (1, 0), (0, 0)]), (4, 9, [(0, 0), (0, 0), (2, 70), (2, 71), (2, 72), (2, 73), (0, 0), (0, 0), (0, 0), (2, 74), (2, 75), (2, 76), (2, 77), (2, 78), (2, 79), (2, 80), (2, 81), (2, 82), (2, 83), (2, 84), (2, 85), (0, 0), (0, 0), (2, 86), (2, 87), (2, 88), (2, 89), (2, 90), (2, 91), (2, 92), (2, 93), (2, 94), (2, 95), (2, 96), (0, 0), (0, 0), (0, 0), (2, 97), (0, 0), (0, 0), (0, 0), (0, 0), (2, 98), (2, 99), (2, 100), (2, 101), (2, 102), (0, 0), (2, 103), (2, 104)]), (0, 12, []), (0, 12, []), (0, 20, []), (2, 12, []), (0, 12, []), (0, 12, []), (0, 12, []), (0, 12, []), (0, 23, []), (0, 12, []), (0, 12, []), (0, 12, []), (0, 12, []), (0, 23, []), (0, 4096, []), (0, 4096, []), (0, 12, []), (0, 23, []), (0, 23, []), (0, 23, []), (0, 23, []), (0, 23, []), (0, 23, []), (0, 23, []), (0, 23, []), (0, 12, []), (0, 12, []), (0, 12, []), (0, 23, []), (0, 12, []), (0, 12, []), (0, 24, []), (0, 12, []), (1, 11, []), (1, 11, []), (1, 1, [])]

def zA (E : Ev) : Nat → Prop := fun q => E.1 ≤ q
abbrev zD (E : Ev) : va_G := (E.2.1, E.2.2.1)
abbrev zT (E : Ev) : List (ClassId × FieldType) := [(E.2.2.2.1 0, .int), (E.2.2.2.1 1, .long), (E.2.2.2.1 2, .boolean), (E.2.2.2.1 3, .object "GroundPlan$Found")]
def fv (E : Ev) (r : Nat → Int32) (t : Nat → Int64) (i : Nat) (f : Nat × Nat) : Value := match f.1 with
  | 0 => .int (r i)
  | 1 => .long (t i)
  | 2 => .ref (E.1 + f.2)
  | _ => .ref (E.1 + (r i).toNatClampNeg)
def fvs (E : Ev) (r : Nat → Int32) (t : Nat → Int64) : Nat → List (Nat × Nat) → List Value
  | _, [] => []
  | n, f :: l => fv E r t n f :: fvs E r t (n + 1) l
def ce (E : Ev) (r : Nat → Int32) (t : Nat → Int64) (y : Ly) : va_E := match y.1 with
  | 0 => .inl (E.2.2.2.1 0, y.2.1, .inl r)
  | 1 => .inl (E.2.2.2.1 1, y.2.1, .inr (.inl t))
  | 2 => .inl (E.2.2.2.1 2, y.2.1, .inl r)
  | 3 => .inl (E.2.2.2.1 3, y.2.1, .inr (.inr (.inr (.inr (fun i => some (E.1 + (65 + i)))))))
  | _ => .inr (y.2.1, fvs E r t 0 y.2.2)
def WDn (E : Ev) (M : Mm) : Nat → List Ly → va_W
  | _, [] => []
  | k, y :: l => (E.1 + k, ce E (M.1 k) (M.2 k) y) :: WDn E M (k + 1) l
def WD (E : Ev) (M : Mm) : va_W := WDn E M 0 LT
def wi (M : Mm) (k i : Nat) (v : Int32) : Mm := (fun k' => if k' = k then upd (M.1 k) i v else M.1 k', M.2)
def wl (M : Mm) (k i : Nat) (v : Int64) : Mm := (M.1, fun k' => if k' = k then vp_updL (M.2 k) i v else M.2 k')
theorem WDn_get (E : Ev) (M : Mm) : ∀ (L : List Ly) (k j : Nat), (WDn E M k L)[j]? = (L[j]?).map (fun y => (E.1 + (k + j), ce E (M.1 (k + j)) (M.2 (k + j)) y)) := by
  intro L
  induction L with
  | nil => intro k j; simp [WDn]
  | cons a l ih =>
    intro k j
    cases j with
    | zero => simp [WDn]
    | succ j =>
      have e : k + 1 + j = k + (j + 1) := by omega
      simp only [WDn, List.getElem?_cons_succ, ih, e]
theorem WD_get {E : Ev} {M : Mm} {k : Nat} {y : Ly} (h : LT[k]? = some y) : (WD E M)[k]? = some (E.1 + k, ce E (M.1 k) (M.2 k) y) := by
  unfold WD
  rw [WDn_get, h]
  simp
theorem WD_some {E : Ev} {M : Mm} {k : Nat} {q : Nat × va_E} (h : (WD E M)[k]? = some q) : ∃ y, LT[k]? = some y ∧ q = (E.1 + k, ce E (M.1 k) (M.2 k) y) := by
  unfold WD at h
  rw [WDn_get] at h
  cases hy : LT[k]? with
  | none => rw [hy] at h; simp at h
  | some y =>
    rw [hy] at h
    simp at h
    exact ⟨y, rfl, h.symm⟩
theorem WD_D (E : Ev) (M : Mm) : va_D (zA E) (WD E M) := by
  refine ⟨fun i j p q hi hj hpq => ?_, fun k q hk => ?_⟩
  · obtain ⟨y, -, rfl⟩ := WD_some hi
    obtain ⟨z, -, rfl⟩ := WD_some hj
    have : E.1 + i = E.1 + j := hpq
    omega
  · obtain ⟨y, -, rfl⟩ := WD_some hk
    exact Nat.le_add_right _ _
theorem WD_set {E : Ev} {M M' : Mm} {k : Nat} {y : Ly} {c : va_E} (hk : LT[k]? = some y) (hc : ce E (M'.1 k) (M'.2 k) y = c) (h1 : ∀ j, j ≠ k → M'.1 j = M.1 j) (h2 : ∀ j, j ≠ k → M'.2 j = M.2 j) :
    (WD E M).set k (E.1 + k, c) = WD E M' := by
  apply List.ext_getElem?
  intro j
  by_cases hj : j = k
  · subst hj
    have hl : j < (WD E M).length := (List.getElem?_eq_some_iff.mp (WD_get (E := E) (M := M) hk)).1
    rw [List.getElem?_set_self hl, WD_get hk, hc]
  · rw [List.getElem?_set_ne (Ne.symm hj)]
    unfold WD
    rw [WDn_get, WDn_get, Nat.zero_add, h1 j hj, h2 j hj]
theorem wi_k (M : Mm) (k i : Nat) (v : Int32) : (wi M k i v).1 k = upd (M.1 k) i v := by simp [wi]
theorem wi_n (M : Mm) {k j : Nat} (i : Nat) (v : Int32) (h : j ≠ k) : (wi M k i v).1 j = M.1 j := by simp [wi, h]
theorem wi_2 (M : Mm) (k i : Nat) (v : Int32) : (wi M k i v).2 = M.2 := rfl
theorem wl_k (M : Mm) (k i : Nat) (v : Int64) : (wl M k i v).2 k = vp_updL (M.2 k) i v := by simp [wl]
theorem wl_n (M : Mm) {k j : Nat} (i : Nat) (v : Int64) (h : j ≠ k) : (wl M k i v).2 j = M.2 j := by simp [wl, h]
theorem wl_1 (M : Mm) (k i : Nat) (v : Int64) : (wl M k i v).1 = M.1 := rfl
theorem fvs_get (E : Ev) (r : Nat → Int32) (t : Nat → Int64) : ∀ (L : List (Nat × Nat)) (n i : Nat), (fvs E r t n L)[i]? = (L[i]?).map (fv E r t (n + i)) := by
  intro L
  induction L with
  | nil => intro n i; simp [fvs]
  | cons a l ih =>
    intro n i
    cases i with
    | zero => simp [fvs]
    | succ i =>
      have e : n + 1 + i = n + (i + 1) := by omega
      simp only [fvs, List.getElem?_cons_succ, ih, e]
theorem fvs_len (E : Ev) (r : Nat → Int32) (t : Nat → Int64) : ∀ (L : List (Nat × Nat)) (n : Nat), (fvs E r t n L).length = L.length := by
  intro L
  induction L with
  | nil => intro n; rfl
  | cons a l ih => intro n; simp [fvs, ih]
theorem fv_off {E : Ev} {r r' : Nat → Int32} {t t' : Nat → Int64} {i : Nat} (f : Nat × Nat) (h1 : r' i = r i) (h2 : t' i = t i) : fv E r' t' i f = fv E r t i f := by
  unfold fv
  rw [h1, h2]
theorem fvs_off {E : Ev} {r r' : Nat → Int32} {t t' : Nat → Int64} : ∀ (L : List (Nat × Nat)) (n : Nat), (∀ j, n ≤ j → r' j = r j) → (∀ j, n ≤ j → t' j = t j) → fvs E r' t' n L = fvs E r t n L := by
  intro L
  induction L with
  | nil => intro n _ _; rfl
  | cons a l ih =>
    intro n h1 h2
    show fv E r' t' n a :: fvs E r' t' (n + 1) l = fv E r t n a :: fvs E r t (n + 1) l
    rw [fv_off a (h1 n (Nat.le_refl n)) (h2 n (Nat.le_refl n)), ih (n + 1) (fun j hj => h1 j (by omega)) (fun j hj => h2 j (by omega))]
theorem fvs_setN {E : Ev} {r r' : Nat → Int32} {t t' : Nat → Int64} {f : Nat × Nat} {v : Value} : ∀ (L : List (Nat × Nat)) (n i : Nat), L[i]? = some f → fv E r' t' (n + i) f = v → (∀ j, j ≠ n + i → r' j = r j) → (∀ j, j ≠ n + i → t' j = t j) → (fvs E r t n L).set i v = fvs E r' t' n L := by
  intro L
  induction L with
  | nil => intro n i hi; simp at hi
  | cons a l ih =>
    intro n i hi hv h1 h2
    cases i with
    | zero =>
      rw [List.getElem?_cons_zero] at hi
      cases hi
      show v :: fvs E r t (n + 1) l = fv E r' t' n f :: fvs E r' t' (n + 1) l
      rw [fvs_off l (n + 1) (fun j hj => h1 j (by omega)) (fun j hj => h2 j (by omega)), ← hv]
      rfl
    | succ i =>
      rw [List.getElem?_cons_succ] at hi
      have e : n + 1 + i = n + (i + 1) := by omega
      show fv E r t n a :: (fvs E r t (n + 1) l).set i v = fv E r' t' n a :: fvs E r' t' (n + 1) l
      rw [ih (n + 1) i hi (by rw [e]; exact hv) (fun j hj => h1 j (by omega)) (fun j hj => h2 j (by omega)), fv_off a (h1 n (by omega)) (h2 n (by omega))]
theorem fvs_set {E : Ev} {r r' : Nat → Int32} {t t' : Nat → Int64} {L : List (Nat × Nat)} {i : Nat} {f : Nat × Nat} {v : Value} (hi : L[i]? = some f) (hv : fv E r' t' i f = v) (h1 : ∀ j, j ≠ i → r' j = r j) (h2 : ∀ j, j ≠ i → t' j = t j) :
    (fvs E r t 0 L).set i v = fvs E r' t' 0 L := by
  have e : 0 + i = i := Nat.zero_add i
  exact fvs_setN L 0 i hi (by rw [e]; exact hv) (fun j hj => h1 j (by rw [e] at hj; exact hj)) (fun j hj => h2 j (by rw [e] at hj; exact hj))
theorem upd_ne {f : Nat → Int32} {k j : Nat} {v : Int32} (h : j ≠ k) : upd f k v j = f j := by simp [upd, h]
theorem upd_eq {f : Nat → Int32} {k : Nat} {v : Int32} : upd f k v k = v := by simp [upd]
theorem updL_ne {f : Nat → Int64} {k j : Nat} {v : Int64} (h : j ≠ k) : vp_updL f k v j = f j := by simp [vp_updL, h]
theorem updL_eq {f : Nat → Int64} {k : Nat} {v : Int64} : vp_updL f k v k = v := by simp [vp_updL]
/-- an array of ints is written -/
theorem WD_wi {E : Ev} {M : Mm} {k n i : Nat} {v : Int32} {z : List (Nat × Nat)} (hk : LT[k]? = some (0, n, z)) : (WD E M).set k (E.1 + k, .inl (E.2.2.2.1 0, n, .inl (upd (M.1 k) i v))) = WD E (wi M k i v) :=
  WD_set hk (by rw [wi_k]; rfl) (fun j h => wi_n M i v h) (fun _ _ => rfl)
theorem WD_wz {E : Ev} {M : Mm} {k n i : Nat} {v : Int32} {z : List (Nat × Nat)} (hk : LT[k]? = some (2, n, z)) : (WD E M).set k (E.1 + k, .inl (E.2.2.2.1 2, n, .inl (upd (M.1 k) i v))) = WD E (wi M k i v) :=
  WD_set hk (by rw [wi_k]; rfl) (fun j h => wi_n M i v h) (fun _ _ => rfl)
theorem WD_wl {E : Ev} {M : Mm} {k n i : Nat} {v : Int64} {z : List (Nat × Nat)} (hk : LT[k]? = some (1, n, z)) : (WD E M).set k (E.1 + k, .inl (E.2.2.2.1 1, n, .inr (.inl (vp_updL (M.2 k) i v)))) = WD E (wl M k i v) :=
  WD_set hk (by rw [wl_k]; rfl) (fun _ _ => rfl) (fun j h => wl_n M i v h)
/-- a field is written -/
theorem WD_fi {E : Ev} {M : Mm} {k ci i : Nat} {v : Int32} {z : List (Nat × Nat)} {b : Nat} (hk : LT[k]? = some (4, ci, z)) (hi : z[i]? = some (0, b)) :
    (WD E M).set k (E.1 + k, .inr (ci, (fvs E (M.1 k) (M.2 k) 0 z).set i (.int v))) = WD E (wi M k i v) :=
  WD_set hk (by rw [fvs_set (r' := (wi M k i v).1 k) (t' := M.2 k) hi (by rw [wi_k]; show Value.int (upd (M.1 k) i v i) = _; rw [upd_eq]) (fun j h => by rw [wi_k, upd_ne h]) (fun _ _ => rfl)]; rfl) (fun j h => wi_n M i v h) (fun _ _ => rfl)
theorem WD_fl {E : Ev} {M : Mm} {k ci i : Nat} {v : Int64} {z : List (Nat × Nat)} {b : Nat} (hk : LT[k]? = some (4, ci, z)) (hi : z[i]? = some (1, b)) :
    (WD E M).set k (E.1 + k, .inr (ci, (fvs E (M.1 k) (M.2 k) 0 z).set i (.long v))) = WD E (wl M k i v) :=
  WD_set hk (by rw [fvs_set (r' := M.1 k) (t' := (wl M k i v).2 k) hi (by rw [wl_k]; show Value.long (vp_updL (M.2 k) i v i) = _; rw [updL_eq]) (fun _ _ => rfl) (fun j h => by rw [wl_k, updL_ne h])]; rfl) (fun _ _ => rfl) (fun j h => wl_n M i v h)
theorem nI_clamp' {j : Nat} (h : j < 200) : (Int32.ofNat j).toNatClampNeg = j := nI_clamp (by omega)
theorem WD_fr {E : Ev} {M : Mm} {k ci i j : Nat} {z : List (Nat × Nat)} {b : Nat} (hk : LT[k]? = some (4, ci, z)) (hi : z[i]? = some (3, b)) (hj : j < 200) :
    (WD E M).set k (E.1 + k, .inr (ci, (fvs E (M.1 k) (M.2 k) 0 z).set i (.ref (E.1 + j)))) = WD E (wi M k i (Int32.ofNat j)) :=
  WD_set hk (by rw [fvs_set (r' := (wi M k i (Int32.ofNat j)).1 k) (t' := M.2 k) hi (by rw [wi_k]; show Value.ref (E.1 + (upd (M.1 k) i (Int32.ofNat j) i).toNatClampNeg) = _; rw [upd_eq, nI_clamp' hj]) (fun j h => by rw [wi_k, upd_ne h]) (fun _ _ => rfl)]; rfl) (fun j' h => wi_n M i _ h) (fun _ _ => rfl)
end
section
/-! THE MACHINE OVER THE WORLD: G K cs pc lv st M: from pc, with the locals lv, the stack st and the memory M, the method K comes to its end -/
def offOf : Instr → Option Int
  | .goto o => some o
  | .ifCond _ o => some o
  | .if_icmp _ o => some o
  | _ => none
def dC (cc : ByteArray) (pc : Nat) (i : Instr) (len q tgt : Nat) : Prop := decode cc pc = .ok (i, len) ∧ pc + len = q ∧ ∀ o, offOf i = some o → (pc : Int) + o = (tgt : Int)
def ckD (cc : ByteArray) (L : List (Nat × Instr × Nat × Nat × Nat)) : Bool := L.all fun x => decide (decode cc x.1 = .ok (x.2.1, x.2.2.1)) && (decide (x.1 + x.2.2.1 = x.2.2.2.1) && (match offOf x.2.1 with | some o => decide ((x.1 : Int) + o = (x.2.2.2.2 : Int)) | none => true))
theorem ckD_get {cc : ByteArray} {L : List (Nat × Instr × Nat × Nat × Nat)} (h : ckD cc L = true) (j : Nat) {pc : Nat} {i : Instr} {len q tgt : Nat} (hj : L[j]? = some (pc, i, len, q, tgt)) : dC cc pc i len q tgt := by
  have h1 := List.all_eq_true.mp h _ (List.mem_of_getElem? hj)
  simp only [Bool.and_eq_true, decide_eq_true_eq] at h1
  refine ⟨h1.1, h1.2.1, fun o ho => ?_⟩
  have h2 := h1.2.2
  rw [ho] at h2
  simpa using h2
def RQ : List Cond := lw_tbl.filter goodWord
def hardW : Cond → Bool
  | .methodLinkNest .. => true
  | .castable .. => true
  | .declares .. => true
  | _ => false
def HWs : List Cond := lw_tbl.filter hardW
theorem RQ_in {w : Cond} (i : Nat) (h : lw_tbl[i]? = some w) (hg : goodWord w = true) : w ∈ RQ := List.mem_filter.mpr ⟨List.mem_of_getElem? h, hg⟩
theorem HW_in {w : Cond} (i : Nat) (h : lw_tbl[i]? = some w) (hg : hardW w = true) : w ∈ HWs := List.mem_filter.mpr ⟨List.mem_of_getElem? h, hg⟩
theorem hard_warm {w : Cond} (h : hardW w = true) {s U : State} (hW : s.WarmedH U.vm) (hZ : va_Nw w s) : va_Nw w U := by
  cases w <;> first | (simp [hardW] at h; done) | exact va_Nw.warmM hW hZ | exact va_Nw.warmC hW hZ | exact va_tabs rfl (rfl : (s.setVm U.vm).vm = U.vm) (by rw [Cond.declares_setVm hW.alike]; exact hZ)
theorem hard_tab {w : Cond} (h : hardW w = true) : w.onTables = true := by
  cases w <;> first | (simp [hardW] at h; done) | rfl
def sF : Nat → Value := fun j => .long (([1, 1, 2, 6, 24, 120, 720, 5040, 40320, 362880, 3628800, 39916800, 479001600] : List Int64).getD j 0)
def sC : Nat → Value := fun j => .long (([0, 1, 2, 6, 22, 90, 394, 1806, 8558, 41586, 206098] : List Int64).getD j 0)
def sT : Nat → Value := fun j => .long (([0, 1, 2, 5, 14, 42, 132, 429, 1430, 4862, 16796] : List Int64).getD j 0)
abbrev nse : String := "java/util/NoSuchElementException"
def SS : List (Nat × String) := [(111, "no such side"), (116, "no such net"), (186, "nothing such about a laying"), (193, "nothing such of a block"), (225, "nothing such is told"), (234, "no such way to slide"), (262, "no such side of a shape"), (311, "no such block"), (313, "there is no laying"), (315, "the laying is not of that kind"), (317, "no such kind"), (319, "no such shape")]
/-- what every state of a run keeps -/
def Iv (E : Ev) (U : State) : Prop :=
  va_K (zD E) vwCl (zT E) U ∧ (∀ w ∈ HWs, va_Nw w U) ∧
  (va_Z "GroundPlan" "FACTORIALS" "[J" (.ref (E.2.2.2.2 0)) (zA E) U U.heap ∧ va_T .long (E.2.2.2.2 0) 13 sF (zA E) U U.heap) ∧
  (va_Z "GroundPlan" "CUT_FORMS" "[J" (.ref (E.2.2.2.2 1)) (zA E) U U.heap ∧ va_T .long (E.2.2.2.2 1) 11 sC (zA E) U U.heap) ∧
  (va_Z "GroundPlan" "TREE_FORMS" "[J" (.ref (E.2.2.2.2 2)) (zA E) U U.heap ∧ va_T .long (E.2.2.2.2 2) 11 sT (zA E) U U.heap) ∧
  vx_Zq Bundle.tN "UNASSIGNED_STACK" Bundle.steD (zA E) U U.heap ∧ vx_Zq Bundle.tN "SUPPRESSED_SENTINEL" Bundle.listD (zA E) U U.heap ∧
  ∀ q ∈ SS, ∃ sa, vk_R "GroundPlan" q.1 q.2 sa U
theorem Iv.same {E : Ev} {u U : State} (hv : U.vm = u.vm) (hh : U.heap = u.heap) (h : Iv E u) : Iv E U := by
  obtain ⟨h1, h2, ⟨h3, h3'⟩, ⟨h4, h4'⟩, ⟨h5, h5'⟩, h6, h7, h8⟩ := h
  have ha : u.vm.Alike U.vm := by rw [hv]; exact Vm.Alike.refl _
  refine ⟨va_K.moved ha h1, fun w hw => va_Nw.same (hard_tab (List.mem_filter.mp hw).2) hv.symm (h2 w hw), ⟨?_, ?_⟩, ⟨?_, ?_⟩, ⟨?_, ?_⟩, ?_, ?_, fun q hq => ?_⟩
  · rw [hh]; exact va_Z.moved ha h3
  · rw [hh]; exact va_T.moved ha h3'
  · rw [hh]; exact va_Z.moved ha h4
  · rw [hh]; exact va_T.moved ha h4'
  · rw [hh]; exact va_Z.moved ha h5
  · rw [hh]; exact va_T.moved ha h5'
  · rw [hh]; exact vx_Zq.moved ha h6
  · rw [hh]; exact vx_Zq.moved ha h7
  · obtain ⟨sa, hs⟩ := h8 q hq
    exact ⟨sa, vk_R.same hv hs⟩
theorem Iv.warm {E : Ev} {s U : State} (hW : s.WarmedH U.vm) (hq : ∀ a : Nat, a < s.heap.size → ¬ zA E a → U.heap[a]? = s.heap[a]?) (h : Iv E s) : Iv E U := by
  obtain ⟨h1, h2, ⟨h3, h3'⟩, ⟨h4, h4'⟩, ⟨h5, h5'⟩, h6, h7, h8⟩ := h
  have ha : s.vm.Alike U.vm := hW.alike
  refine ⟨va_K.moved ha h1, fun w hw => hard_warm (List.mem_filter.mp hw).2 hW (h2 w hw), ⟨?_, ?_⟩, ⟨?_, ?_⟩, ⟨?_, ?_⟩, ?_, ?_, fun q hq => ?_⟩
  · exact va_Z.moved ha (h3.kept hq)
  · exact va_T.moved ha (h3'.kept hq)
  · exact va_Z.moved ha (h4.kept hq)
  · exact va_T.moved ha (h4'.kept hq)
  · exact va_Z.moved ha (h5.kept hq)
  · exact va_T.moved ha (h5'.kept hq)
  · exact vx_Zq.moved ha (h6.kept hq)
  · exact vx_Zq.moved ha (h7.kept hq)
  · obtain ⟨sa, hs⟩ := h8 q hq
    exact ⟨sa, vk_R.warm hW hs⟩
abbrev Gm : Type := Program × Launch × Env × Room × State × MethodId × Array Value × List Frame × Method × Code
abbrev Gm.p (Γ : Gm) : Program := Γ.1
abbrev Gm.l (Γ : Gm) : Launch := Γ.2.1
abbrev Gm.e (Γ : Gm) : Env := Γ.2.2.1
abbrev Gm.R (Γ : Gm) : Room := Γ.2.2.2.1
abbrev Gm.s (Γ : Gm) : State := Γ.2.2.2.2.1
abbrev Gm.m (Γ : Gm) : MethodId := Γ.2.2.2.2.2.1
abbrev Gm.args (Γ : Gm) : Array Value := Γ.2.2.2.2.2.2.1
abbrev Gm.below (Γ : Gm) : List Frame := Γ.2.2.2.2.2.2.2.1
abbrev Gm.meth (Γ : Gm) : Method := Γ.2.2.2.2.2.2.2.2.1
abbrev Gm.c (Γ : Gm) : Code := Γ.2.2.2.2.2.2.2.2.2
/-- a method under way: the machine, the world's numbers, how many locals, what is owed at its end -/
abbrev Kx : Type := Gm × Ev × Nat × (State → Prop)
def W0 (K : Kx) (H : Heap) (locs : List Loc) (cs : Nat × Nat) (g : JFrame) : Prop := W K.1.p K.1.l K.1.e K.1.R K.1.s K.1.m K.1.args K.1.below K.1.meth K.1.c H locs cs.1 cs.2 K.2.2.2 g
def G (K : Kx) (cs : Nat × Nat) (pc : Nat) (lv : List (Nat × Value)) (st : List Value) (M : Mm) : Prop :=
  ∀ (H : Heap) (locs : List Loc) (ls : Array Slot), va_P (zD K.2.1) vwCl (WD K.2.1 M) H → va_S (zA K.2.1) K.1.s.heap H locs → lv_has ls K.2.2.1 lv → W0 K H locs cs (F0 K.1.m pc ls st)
/-- the world of a start: what a call may count on -/
def Wv (E : Ev) (M : Mm) (U : State) : Prop := Iv E U ∧ E.1 ≤ U.heap.size ∧ va_P (zD E) vwCl (WD E M) U.heap
def Cx (K : Kx) (cc : ByteArray) (own : String) (d : Nat) : Prop :=
  K.1.p.tables.exec = Jvm.exec ∧ K.1.c.code = cc ∧ K.1.c.maxLocals = K.2.2.1 ∧ K.1.s.vm.findClass own = some K.1.m.cls ∧ (∀ w ∈ RQ, w.before K.1.args K.1.s = true) ∧ K.1.meth.locks = false ∧ Iv K.2.1 K.1.s ∧ K.2.1.1 ≤ K.1.s.heap.size ∧
  d ≤ K.1.R.frames ∧ 64 * d + 100 ≤ K.1.R.locals ∧ K.1.l.stackTraces = false
theorem Cx.ex {K : Kx} {cc : ByteArray} {own : String} {d : Nat} (C : Cx K cc own d) : K.1.p.tables.exec = Jvm.exec := C.1
theorem Cx.by {K : Kx} {cc : ByteArray} {own : String} {d : Nat} (C : Cx K cc own d) : K.1.c.code = cc := C.2.1
theorem Cx.ml {K : Kx} {cc : ByteArray} {own : String} {d : Nat} (C : Cx K cc own d) : K.1.c.maxLocals = K.2.2.1 := C.2.2.1
theorem Cx.ow {K : Kx} {cc : ByteArray} {own : String} {d : Nat} (C : Cx K cc own d) : K.1.s.vm.findClass own = some K.1.m.cls := C.2.2.2.1
theorem Cx.rq {K : Kx} {cc : ByteArray} {own : String} {d : Nat} (C : Cx K cc own d) : ∀ w ∈ RQ, w.before K.1.args K.1.s = true := C.2.2.2.2.1
theorem Cx.lk {K : Kx} {cc : ByteArray} {own : String} {d : Nat} (C : Cx K cc own d) : K.1.meth.locks = false := C.2.2.2.2.2.1
theorem Cx.iv {K : Kx} {cc : ByteArray} {own : String} {d : Nat} (C : Cx K cc own d) : Iv K.2.1 K.1.s := C.2.2.2.2.2.2.1
theorem Cx.sz {K : Kx} {cc : ByteArray} {own : String} {d : Nat} (C : Cx K cc own d) : K.2.1.1 ≤ K.1.s.heap.size := C.2.2.2.2.2.2.2.1
theorem Cx.fr {K : Kx} {cc : ByteArray} {own : String} {d : Nat} (C : Cx K cc own d) : d ≤ K.1.R.frames := C.2.2.2.2.2.2.2.2.1
theorem Cx.lo {K : Kx} {cc : ByteArray} {own : String} {d : Nat} (C : Cx K cc own d) : 64 * d + 100 ≤ K.1.R.locals := C.2.2.2.2.2.2.2.2.2.1
theorem Cx.tr {K : Kx} {cc : ByteArray} {own : String} {d : Nat} (C : Cx K cc own d) : K.1.l.stackTraces = false := C.2.2.2.2.2.2.2.2.2.2
section GRows
variable {K : Kx} {cc : ByteArray} {own : String} {d : Nat} {cs : Nat × Nat} {pc len q tgt : Nat} {lv : List (Nat × Value)} {rest : List Value} {M : Mm}
theorem G.sub {lv' : List (Nat × Value)} (ks : List Nat) (hl : lv_pick lv ks = lv') (h : G K cs pc lv' rest M) : G K cs pc lv rest M := fun H locs ls hP hS hv => h H locs ls hP hS (lv_sub hv ks hl)
theorem G.wid {cs' : Nat × Nat} (h1 : cs.1 ≤ cs'.1) (h2 : cs.2 ≤ cs'.2) (h : G K cs' pc lv rest M) : G K cs pc lv rest M := fun H locs ls hP hS hv => W.widen h1 h2 (h H locs ls hP hS hv)

theorem g_iadd {x y : Int32} (C : Cx K cc own d) (hd : dC cc pc (.iadd) 1 q tgt)  (h : G K cs q lv (.int (x + y) :: rest) M) : G K cs pc lv (.int y :: .int x :: rest) M := by
  obtain ⟨e1, rfl, -⟩ := hd
  intro H locs ls hP hS hl
  exact lv_iadd C.ex C.by e1  (h H locs ls hP hS hl)
theorem g_isub {x y : Int32} (C : Cx K cc own d) (hd : dC cc pc (.isub) 1 q tgt)  (h : G K cs q lv (.int (x - y) :: rest) M) : G K cs pc lv (.int y :: .int x :: rest) M := by
  obtain ⟨e1, rfl, -⟩ := hd
  intro H locs ls hP hS hl
  exact lv_isub C.ex C.by e1  (h H locs ls hP hS hl)
theorem g_imul {x y : Int32} (C : Cx K cc own d) (hd : dC cc pc (.imul) 1 q tgt)  (h : G K cs q lv (.int (x * y) :: rest) M) : G K cs pc lv (.int y :: .int x :: rest) M := by
  obtain ⟨e1, rfl, -⟩ := hd
  intro H locs ls hP hS hl
  exact lv_imul C.ex C.by e1  (h H locs ls hP hS hl)
theorem g_iand {x y : Int32} (C : Cx K cc own d) (hd : dC cc pc (.iand) 1 q tgt)  (h : G K cs q lv (.int (x &&& y) :: rest) M) : G K cs pc lv (.int y :: .int x :: rest) M := by
  obtain ⟨e1, rfl, -⟩ := hd
  intro H locs ls hP hS hl
  exact lv_iand C.ex C.by e1  (h H locs ls hP hS hl)
theorem g_ior {x y : Int32} (C : Cx K cc own d) (hd : dC cc pc (.ior) 1 q tgt)  (h : G K cs q lv (.int (x ||| y) :: rest) M) : G K cs pc lv (.int y :: .int x :: rest) M := by
  obtain ⟨e1, rfl, -⟩ := hd
  intro H locs ls hP hS hl
  exact lv_ior C.ex C.by e1  (h H locs ls hP hS hl)
theorem g_ixor {x y : Int32} (C : Cx K cc own d) (hd : dC cc pc (.ixor) 1 q tgt)  (h : G K cs q lv (.int (x ^^^ y) :: rest) M) : G K cs pc lv (.int y :: .int x :: rest) M := by
  obtain ⟨e1, rfl, -⟩ := hd
  intro H locs ls hP hS hl
  exact lv_ixor C.ex C.by e1  (h H locs ls hP hS hl)
theorem g_ishl {x y : Int32} (C : Cx K cc own d) (hd : dC cc pc (.ishl) 1 q tgt)  (h : G K cs q lv (.int (x <<< (y &&& 31)) :: rest) M) : G K cs pc lv (.int y :: .int x :: rest) M := by
  obtain ⟨e1, rfl, -⟩ := hd
  intro H locs ls hP hS hl
  exact lv_ishl C.ex C.by e1  (h H locs ls hP hS hl)
theorem g_ishr {x y : Int32} (C : Cx K cc own d) (hd : dC cc pc (.ishr) 1 q tgt)  (h : G K cs q lv (.int (x >>> (y &&& 31)) :: rest) M) : G K cs pc lv (.int y :: .int x :: rest) M := by
  obtain ⟨e1, rfl, -⟩ := hd
  intro H locs ls hP hS hl
  exact lv_ishr C.ex C.by e1  (h H locs ls hP hS hl)
theorem g_idiv {x y : Int32} (C : Cx K cc own d) (hd : dC cc pc (.idiv) 1 q tgt) (hne : ¬ y = 0) (h : G K cs q lv (.int (x / y) :: rest) M) : G K cs pc lv (.int y :: .int x :: rest) M := by
  obtain ⟨e1, rfl, -⟩ := hd
  intro H locs ls hP hS hl
  exact lv_idiv C.ex C.by e1 hne (h H locs ls hP hS hl)
theorem g_irem {x y : Int32} (C : Cx K cc own d) (hd : dC cc pc (.irem) 1 q tgt) (hne : ¬ y = 0) (h : G K cs q lv (.int (x - x / y * y) :: rest) M) : G K cs pc lv (.int y :: .int x :: rest) M := by
  obtain ⟨e1, rfl, -⟩ := hd
  intro H locs ls hP hS hl
  exact lv_irem C.ex C.by e1 hne (h H locs ls hP hS hl)
theorem g_ladd {x y : Int64} (C : Cx K cc own d) (hd : dC cc pc (.ladd) 1 q tgt)  (h : G K cs q lv (.long (x + y) :: rest) M) : G K cs pc lv (.long y :: .long x :: rest) M := by
  obtain ⟨e1, rfl, -⟩ := hd
  intro H locs ls hP hS hl
  exact lv_ladd C.ex C.by e1  (h H locs ls hP hS hl)
theorem g_lsub {x y : Int64} (C : Cx K cc own d) (hd : dC cc pc (.lsub) 1 q tgt)  (h : G K cs q lv (.long (x - y) :: rest) M) : G K cs pc lv (.long y :: .long x :: rest) M := by
  obtain ⟨e1, rfl, -⟩ := hd
  intro H locs ls hP hS hl
  exact lv_lsub C.ex C.by e1  (h H locs ls hP hS hl)
theorem g_lmul {x y : Int64} (C : Cx K cc own d) (hd : dC cc pc (.lmul) 1 q tgt)  (h : G K cs q lv (.long (x * y) :: rest) M) : G K cs pc lv (.long y :: .long x :: rest) M := by
  obtain ⟨e1, rfl, -⟩ := hd
  intro H locs ls hP hS hl
  exact lv_lmul C.ex C.by e1  (h H locs ls hP hS hl)
theorem g_land {x y : Int64} (C : Cx K cc own d) (hd : dC cc pc (.land) 1 q tgt)  (h : G K cs q lv (.long (x &&& y) :: rest) M) : G K cs pc lv (.long y :: .long x :: rest) M := by
  obtain ⟨e1, rfl, -⟩ := hd
  intro H locs ls hP hS hl
  exact lv_land C.ex C.by e1  (h H locs ls hP hS hl)
theorem g_lor {x y : Int64} (C : Cx K cc own d) (hd : dC cc pc (.lor) 1 q tgt)  (h : G K cs q lv (.long (x ||| y) :: rest) M) : G K cs pc lv (.long y :: .long x :: rest) M := by
  obtain ⟨e1, rfl, -⟩ := hd
  intro H locs ls hP hS hl
  exact lv_lor C.ex C.by e1  (h H locs ls hP hS hl)
theorem g_lxor {x y : Int64} (C : Cx K cc own d) (hd : dC cc pc (.lxor) 1 q tgt)  (h : G K cs q lv (.long (x ^^^ y) :: rest) M) : G K cs pc lv (.long y :: .long x :: rest) M := by
  obtain ⟨e1, rfl, -⟩ := hd
  intro H locs ls hP hS hl
  exact lv_lxor C.ex C.by e1  (h H locs ls hP hS hl)
theorem g_ldiv {x y : Int64} (C : Cx K cc own d) (hd : dC cc pc (.ldiv) 1 q tgt) (hne : ¬ y = 0) (h : G K cs q lv (.long (x / y) :: rest) M) : G K cs pc lv (.long y :: .long x :: rest) M := by
  obtain ⟨e1, rfl, -⟩ := hd
  intro H locs ls hP hS hl
  exact lv_ldiv C.ex C.by e1 hne (h H locs ls hP hS hl)
theorem g_lrem {x y : Int64} (C : Cx K cc own d) (hd : dC cc pc (.lrem) 1 q tgt) (hne : ¬ y = 0) (h : G K cs q lv (.long (x - x / y * y) :: rest) M) : G K cs pc lv (.long y :: .long x :: rest) M := by
  obtain ⟨e1, rfl, -⟩ := hd
  intro H locs ls hP hS hl
  exact lv_lrem C.ex C.by e1 hne (h H locs ls hP hS hl)
theorem g_lshl {x : Int64} {y : Int32} (C : Cx K cc own d) (hd : dC cc pc (.lshl) 1 q tgt)  (h : G K cs q lv (.long (x <<< (y.toInt64 &&& 63)) :: rest) M) : G K cs pc lv (.int y :: .long x :: rest) M := by
  obtain ⟨e1, rfl, -⟩ := hd
  intro H locs ls hP hS hl
  exact lv_lshl C.ex C.by e1 rfl (h H locs ls hP hS hl)
theorem g_lshr {x : Int64} {y : Int32} (C : Cx K cc own d) (hd : dC cc pc (.lshr) 1 q tgt)  (h : G K cs q lv (.long (x >>> (y.toInt64 &&& 63)) :: rest) M) : G K cs pc lv (.int y :: .long x :: rest) M := by
  obtain ⟨e1, rfl, -⟩ := hd
  intro H locs ls hP hS hl
  exact lv_lshr C.ex C.by e1 rfl (h H locs ls hP hS hl)
theorem g_iushr {x y : Int32} (C : Cx K cc own d) (hd : dC cc pc (.iushr) 1 q tgt)  (h : G K cs q lv (.int ((x.toUInt32 >>> (y.toUInt32 &&& Int32.toUInt32 31)).toInt32) :: rest) M) : G K cs pc lv (.int y :: .int x :: rest) M := by
  obtain ⟨e1, rfl, -⟩ := hd
  intro H locs ls hP hS hl
  exact lv_iushr C.ex C.by e1 rfl (h H locs ls hP hS hl)
theorem g_i2l {x : Int32} (C : Cx K cc own d) (hd : dC cc pc (.i2l) 1 q tgt)  (h : G K cs q lv (.long (x.toInt64) :: rest) M) : G K cs pc lv (.int x :: rest) M := by
  obtain ⟨e1, rfl, -⟩ := hd
  intro H locs ls hP hS hl
  exact lv_i2l C.ex C.by e1 rfl (h H locs ls hP hS hl)
theorem g_l2i {x : Int64} (C : Cx K cc own d) (hd : dC cc pc (.l2i) 1 q tgt)  (h : G K cs q lv (.int (x.toInt32) :: rest) M) : G K cs pc lv (.long x :: rest) M := by
  obtain ⟨e1, rfl, -⟩ := hd
  intro H locs ls hP hS hl
  exact lv_l2i C.ex C.by e1 rfl (h H locs ls hP hS hl)
theorem g_lcmp {x y : Int64} (C : Cx K cc own d) (hd : dC cc pc (.lcmp) 1 q tgt)  (h : G K cs q lv (.int (lg_cmp x y) :: rest) M) : G K cs pc lv (.long y :: .long x :: rest) M := by
  obtain ⟨e1, rfl, -⟩ := hd
  intro H locs ls hP hS hl
  exact W.lcmp C.ex C.by e1  (h H locs ls hP hS hl)
theorem g_dup {va : Value} (C : Cx K cc own d) (hd : dC cc pc (.dup) 1 q tgt) (hva : va.category = 1) (h : G K cs q lv (va :: va :: rest) M) : G K cs pc lv (va :: rest) M := by
  obtain ⟨e1, rfl, -⟩ := hd
  intro H locs ls hP hS hl
  exact lv_dup C.ex C.by e1 hva (h H locs ls hP hS hl)
theorem g_dup2 {va vb : Value} (C : Cx K cc own d) (hd : dC cc pc (.dup2) 1 q tgt) (hva : va.category = 1) (hvb : vb.category = 1) (h : G K cs q lv (va :: vb :: va :: vb :: rest) M) : G K cs pc lv (va :: vb :: rest) M := by
  obtain ⟨e1, rfl, -⟩ := hd
  intro H locs ls hP hS hl
  exact lv_dup2_11 C.ex C.by e1 hva hvb (h H locs ls hP hS hl)
theorem g_dup2l {va : Value} (C : Cx K cc own d) (hd : dC cc pc (.dup2) 1 q tgt) (hva : va.category = 2) (h : G K cs q lv (va :: va :: rest) M) : G K cs pc lv (va :: rest) M := by
  obtain ⟨e1, rfl, -⟩ := hd
  intro H locs ls hP hS hl
  exact lv_dup2_2 C.ex C.by e1 hva (h H locs ls hP hS hl)
theorem g_dup_x1 {va vb : Value} (C : Cx K cc own d) (hd : dC cc pc (.dup_x1) 1 q tgt) (hva : va.category = 1) (hvb : vb.category = 1) (h : G K cs q lv (va :: vb :: va :: rest) M) : G K cs pc lv (va :: vb :: rest) M := by
  obtain ⟨e1, rfl, -⟩ := hd
  intro H locs ls hP hS hl
  exact lv_dup_x1 C.ex C.by e1 hva hvb (h H locs ls hP hS hl)
theorem g_pop {va : Value} (C : Cx K cc own d) (hd : dC cc pc (.pop) 1 q tgt) (hva : va.category = 1) (h : G K cs q lv (rest) M) : G K cs pc lv (va :: rest) M := by
  obtain ⟨e1, rfl, -⟩ := hd
  intro H locs ls hP hS hl
  exact lv_pop C.ex C.by e1 hva (h H locs ls hP hS hl)
theorem g_iconst {n : Int} {v : Int32} (C : Cx K cc own d) (hd : dC cc pc (.iconst n) 1 q tgt) (hv : Int32.ofInt n = v) (h : G K cs q lv (.int v :: rest) M) : G K cs pc lv (rest) M := by
  obtain ⟨e1, rfl, -⟩ := hd
  intro H locs ls hP hS hl
  exact lv_iconst C.ex C.by e1 hv (h H locs ls hP hS hl)
theorem g_bipush {n : Int} {v : Int32} (C : Cx K cc own d) (hd : dC cc pc (.bipush n) 2 q tgt) (hv : (Int8.ofInt n).toInt32 = v) (h : G K cs q lv (.int v :: rest) M) : G K cs pc lv (rest) M := by
  obtain ⟨e1, rfl, -⟩ := hd
  intro H locs ls hP hS hl
  exact lv_bipush C.ex C.by e1 hv (h H locs ls hP hS hl)
theorem g_sipush {n : Int} {v : Int32} (C : Cx K cc own d) (hd : dC cc pc (.sipush n) 3 q tgt) (hv : (Int16.ofInt n).toInt32 = v) (h : G K cs q lv (.int v :: rest) M) : G K cs pc lv (rest) M := by
  obtain ⟨e1, rfl, -⟩ := hd
  intro H locs ls hP hS hl
  exact lv_sipush C.ex C.by e1 hv (h H locs ls hP hS hl)
theorem g_lconst {n : Fin 2} {v : Int64} (C : Cx K cc own d) (hd : dC cc pc (.lconst n) 1 q tgt) (hv : Int64.ofNat (n : Nat) = v) (h : G K cs q lv (.long v :: rest) M) : G K cs pc lv (rest) M := by
  obtain ⟨e1, rfl, -⟩ := hd
  intro H locs ls hP hS hl
  exact lv_lconst C.ex C.by e1 hv (h H locs ls hP hS hl)
theorem g_ldc {k : Nat} {v : Int32} (C : Cx K cc own d) (hd : dC cc pc (.ldc k) 2 q tgt) (hw : Cond.constant own k v ∈ RQ) (h : G K cs q lv (.int v :: rest) M) : G K cs pc lv rest M := by
  obtain ⟨e1, rfl, -⟩ := hd
  intro H locs ls hP hS hl
  exact lv_ldc C.ex C.by C.ow (C.rq _ hw) e1 (h H locs ls hP hS hl)
theorem g_ldcw {k : Nat} {v : Int32} (C : Cx K cc own d) (hd : dC cc pc (.ldc_w k) 3 q tgt) (hw : Cond.constant own k v ∈ RQ) (h : G K cs q lv (.int v :: rest) M) : G K cs pc lv rest M := by
  obtain ⟨e1, rfl, -⟩ := hd
  intro H locs ls hP hS hl
  exact lv_ldcw C.ex C.by C.ow (C.rq _ hw) e1 (h H locs ls hP hS hl)
theorem g_ldc2 {k : Nat} {v : Int64} (C : Cx K cc own d) (hd : dC cc pc (.ldc2_w k) 3 q tgt) (hw : Cond.constantLong own k v ∈ RQ) (h : G K cs q lv (.long v :: rest) M) : G K cs pc lv rest M := by
  obtain ⟨e1, rfl, -⟩ := hd
  intro H locs ls hP hS hl
  exact lv_ldc2 C.ex C.by C.ow (C.rq _ hw) e1 (h H locs ls hP hS hl)
theorem g_iload_n {k : Fin 4} {i : Nat} {x : Int32} (j : Nat) (C : Cx K cc own d) (hd : dC cc pc (.iload_n k) 1 q tgt) (hj : lv[j]? = some (i, .int x)) (hi : (k : Nat) = i) (h : G K cs q lv (.int x :: rest) M) : G K cs pc lv rest M := by
  obtain ⟨e1, rfl, -⟩ := hd
  intro H locs ls hP hS hl
  exact lv_iload_n C.ex C.by e1 hi (lv_at hl j hj) (h H locs ls hP hS hl)
theorem g_iload {i : Nat} {x : Int32} (j : Nat) (C : Cx K cc own d) (hd : dC cc pc (.iload i) 2 q tgt) (hj : lv[j]? = some (i, .int x)) (h : G K cs q lv (.int x :: rest) M) : G K cs pc lv rest M := by
  obtain ⟨e1, rfl, -⟩ := hd
  intro H locs ls hP hS hl
  exact lv_iload C.ex C.by e1 (lv_at hl j hj) (h H locs ls hP hS hl)
theorem g_istore_n {k : Fin 4} {i : Nat} {x : Int32} {lv' : List (Nat × Value)} (C : Cx K cc own d) (hd : dC cc pc (.istore_n k) 1 q tgt) (hi : (k : Nat) = i) (hn : i < K.2.2.1) (hl : (i, Value.int x) :: lv.filter (fun q => !(q.1 == i) && !(q.1 + 1 == i && q.2.category == 2)) = lv') (h : G K cs q lv' rest M) : G K cs pc lv (.int x :: rest) M := by
  obtain ⟨e1, rfl, -⟩ := hd
  intro H locs ls hP hS hv
  exact lv_istore_n C.ex C.by e1 hi hv hn hl (fun ls2 hv2 => h H locs ls2 hP hS hv2)
theorem g_istore {i : Nat} {x : Int32} {lv' : List (Nat × Value)} (C : Cx K cc own d) (hd : dC cc pc (.istore i) 2 q tgt) (hn : i < K.2.2.1) (hl : (i, Value.int x) :: lv.filter (fun q => !(q.1 == i) && !(q.1 + 1 == i && q.2.category == 2)) = lv') (h : G K cs q lv' rest M) : G K cs pc lv (.int x :: rest) M := by
  obtain ⟨e1, rfl, -⟩ := hd
  intro H locs ls hP hS hv
  exact lv_istore C.ex C.by e1 hv hn hl (fun ls2 hv2 => h H locs ls2 hP hS hv2)
theorem g_lload_n {k : Fin 4} {i : Nat} {x : Int64} (j : Nat) (C : Cx K cc own d) (hd : dC cc pc (.lload_n k) 1 q tgt) (hj : lv[j]? = some (i, .long x)) (hi : (k : Nat) = i) (h : G K cs q lv (.long x :: rest) M) : G K cs pc lv rest M := by
  obtain ⟨e1, rfl, -⟩ := hd
  intro H locs ls hP hS hl
  exact lv_lload_n C.ex C.by e1 hi (lv_at hl j hj) (h H locs ls hP hS hl)
theorem g_lload {i : Nat} {x : Int64} (j : Nat) (C : Cx K cc own d) (hd : dC cc pc (.lload i) 2 q tgt) (hj : lv[j]? = some (i, .long x)) (h : G K cs q lv (.long x :: rest) M) : G K cs pc lv rest M := by
  obtain ⟨e1, rfl, -⟩ := hd
  intro H locs ls hP hS hl
  exact lv_lload C.ex C.by e1 (lv_at hl j hj) (h H locs ls hP hS hl)
theorem g_lstore_n {k : Fin 4} {i : Nat} {x : Int64} {lv' : List (Nat × Value)} (C : Cx K cc own d) (hd : dC cc pc (.lstore_n k) 1 q tgt) (hi : (k : Nat) = i) (hn : i + 1 < K.2.2.1) (hl : (i, Value.long x) :: lv.filter (fun q => !(q.1 == i) && (!(q.1 == i + 1) && !(q.1 + 1 == i && q.2.category == 2))) = lv') (h : G K cs q lv' rest M) : G K cs pc lv (.long x :: rest) M := by
  obtain ⟨e1, rfl, -⟩ := hd
  intro H locs ls hP hS hv
  exact lv_lstore_n C.ex C.by e1 hi hv hn hl (fun ls2 hv2 => h H locs ls2 hP hS hv2)
theorem g_lstore {i : Nat} {x : Int64} {lv' : List (Nat × Value)} (C : Cx K cc own d) (hd : dC cc pc (.lstore i) 2 q tgt) (hn : i + 1 < K.2.2.1) (hl : (i, Value.long x) :: lv.filter (fun q => !(q.1 == i) && (!(q.1 == i + 1) && !(q.1 + 1 == i && q.2.category == 2))) = lv') (h : G K cs q lv' rest M) : G K cs pc lv (.long x :: rest) M := by
  obtain ⟨e1, rfl, -⟩ := hd
  intro H locs ls hP hS hv
  exact lv_lstore C.ex C.by e1 hv hn hl (fun ls2 hv2 => h H locs ls2 hP hS hv2)
theorem g_aload_n {k : Fin 4} {i : Nat} {x : Nat} (j : Nat) (C : Cx K cc own d) (hd : dC cc pc (.aload_n k) 1 q tgt) (hj : lv[j]? = some (i, .ref x)) (hi : (k : Nat) = i) (h : G K cs q lv (.ref x :: rest) M) : G K cs pc lv rest M := by
  obtain ⟨e1, rfl, -⟩ := hd
  intro H locs ls hP hS hl
  exact lv_aload_n C.ex C.by e1 hi (lv_at hl j hj) (h H locs ls hP hS hl)
theorem g_aload {i : Nat} {x : Nat} (j : Nat) (C : Cx K cc own d) (hd : dC cc pc (.aload i) 2 q tgt) (hj : lv[j]? = some (i, .ref x)) (h : G K cs q lv (.ref x :: rest) M) : G K cs pc lv rest M := by
  obtain ⟨e1, rfl, -⟩ := hd
  intro H locs ls hP hS hl
  exact lv_aload C.ex C.by e1 (lv_at hl j hj) (h H locs ls hP hS hl)
theorem g_astore_n {k : Fin 4} {i : Nat} {x : Nat} {lv' : List (Nat × Value)} (C : Cx K cc own d) (hd : dC cc pc (.astore_n k) 1 q tgt) (hi : (k : Nat) = i) (hn : i < K.2.2.1) (hl : (i, Value.ref x) :: lv.filter (fun q => !(q.1 == i) && !(q.1 + 1 == i && q.2.category == 2)) = lv') (h : G K cs q lv' rest M) : G K cs pc lv (.ref x :: rest) M := by
  obtain ⟨e1, rfl, -⟩ := hd
  intro H locs ls hP hS hv
  exact lv_astore_n C.ex C.by e1 hi hv hn hl (fun ls2 hv2 => h H locs ls2 hP hS hv2)
theorem g_astore {i : Nat} {x : Nat} {lv' : List (Nat × Value)} (C : Cx K cc own d) (hd : dC cc pc (.astore i) 2 q tgt) (hn : i < K.2.2.1) (hl : (i, Value.ref x) :: lv.filter (fun q => !(q.1 == i) && !(q.1 + 1 == i && q.2.category == 2)) = lv') (h : G K cs q lv' rest M) : G K cs pc lv (.ref x :: rest) M := by
  obtain ⟨e1, rfl, -⟩ := hd
  intro H locs ls hP hS hv
  exact lv_astore C.ex C.by e1 hv hn hl (fun ls2 hv2 => h H locs ls2 hP hS hv2)
theorem g_iinc {i : Nat} {n : Int} {x v : Int32} {lv' : List (Nat × Value)} (j : Nat) (C : Cx K cc own d) (hd : dC cc pc (.iinc i n) 3 q tgt) (hj : lv[j]? = some (i, .int x)) (hv : x + Int32.ofInt n = v) (hn : i < K.2.2.1) (hl : (i, Value.int v) :: lv.filter (fun q => !(q.1 == i) && !(q.1 + 1 == i && q.2.category == 2)) = lv') (h : G K cs q lv' rest M) : G K cs pc lv rest M := by
  obtain ⟨e1, rfl, -⟩ := hd
  intro H locs ls hP hS hw
  exact lv_iinc C.ex C.by e1 hw hj hv hn hl (fun ls2 hv2 => h H locs ls2 hP hS hv2)
theorem g_if_eq {x : Int32} {o : Int} (C : Cx K cc own d) (hd : dC cc pc (.ifCond .eq o) 3 q tgt) (kt : x = 0 → G K cs tgt lv rest M) (kf : ¬ x = 0 → G K cs q lv rest M) : G K cs pc lv (.int x :: rest) M := by
  obtain ⟨e1, rfl, e3⟩ := hd
  intro H locs ls hP hS hl
  exact lv_if_eq C.ex C.by e1 (e3 _ rfl) (fun z => kt z H locs ls hP hS hl) (fun z => kf z H locs ls hP hS hl)
theorem g_if_ne {x : Int32} {o : Int} (C : Cx K cc own d) (hd : dC cc pc (.ifCond .ne o) 3 q tgt) (kt : ¬ x = 0 → G K cs tgt lv rest M) (kf : x = 0 → G K cs q lv rest M) : G K cs pc lv (.int x :: rest) M := by
  obtain ⟨e1, rfl, e3⟩ := hd
  intro H locs ls hP hS hl
  exact lv_if_ne C.ex C.by e1 (e3 _ rfl) (fun z => kt z H locs ls hP hS hl) (fun z => kf z H locs ls hP hS hl)
theorem g_if_lt {x : Int32} {o : Int} (C : Cx K cc own d) (hd : dC cc pc (.ifCond .lt o) 3 q tgt) (kt : x < 0 → G K cs tgt lv rest M) (kf : ¬ x < 0 → G K cs q lv rest M) : G K cs pc lv (.int x :: rest) M := by
  obtain ⟨e1, rfl, e3⟩ := hd
  intro H locs ls hP hS hl
  exact lv_if_lt C.ex C.by e1 (e3 _ rfl) (fun z => kt z H locs ls hP hS hl) (fun z => kf z H locs ls hP hS hl)
theorem g_if_ge {x : Int32} {o : Int} (C : Cx K cc own d) (hd : dC cc pc (.ifCond .ge o) 3 q tgt) (kt : 0 ≤ x → G K cs tgt lv rest M) (kf : ¬ 0 ≤ x → G K cs q lv rest M) : G K cs pc lv (.int x :: rest) M := by
  obtain ⟨e1, rfl, e3⟩ := hd
  intro H locs ls hP hS hl
  exact lv_if_ge C.ex C.by e1 (e3 _ rfl) (fun z => kt z H locs ls hP hS hl) (fun z => kf z H locs ls hP hS hl)
theorem g_if_gt {x : Int32} {o : Int} (C : Cx K cc own d) (hd : dC cc pc (.ifCond .gt o) 3 q tgt) (kt : 0 < x → G K cs tgt lv rest M) (kf : ¬ 0 < x → G K cs q lv rest M) : G K cs pc lv (.int x :: rest) M := by
  obtain ⟨e1, rfl, e3⟩ := hd
  intro H locs ls hP hS hl
  exact lv_if_gt C.ex C.by e1 (e3 _ rfl) (fun z => kt z H locs ls hP hS hl) (fun z => kf z H locs ls hP hS hl)
theorem g_if_le {x : Int32} {o : Int} (C : Cx K cc own d) (hd : dC cc pc (.ifCond .le o) 3 q tgt) (kt : x ≤ 0 → G K cs tgt lv rest M) (kf : ¬ x ≤ 0 → G K cs q lv rest M) : G K cs pc lv (.int x :: rest) M := by
  obtain ⟨e1, rfl, e3⟩ := hd
  intro H locs ls hP hS hl
  exact lv_if_le C.ex C.by e1 (e3 _ rfl) (fun z => kt z H locs ls hP hS hl) (fun z => kf z H locs ls hP hS hl)
theorem g_icmp_eq {x y : Int32} {o : Int} (C : Cx K cc own d) (hd : dC cc pc (.if_icmp .eq o) 3 q tgt) (kt : x = y → G K cs tgt lv rest M) (kf : ¬ x = y → G K cs q lv rest M) : G K cs pc lv (.int y :: .int x :: rest) M := by
  obtain ⟨e1, rfl, e3⟩ := hd
  intro H locs ls hP hS hl
  exact lv_icmp_eq C.ex C.by e1 (e3 _ rfl) (fun z => kt z H locs ls hP hS hl) (fun z => kf z H locs ls hP hS hl)
theorem g_icmp_ne {x y : Int32} {o : Int} (C : Cx K cc own d) (hd : dC cc pc (.if_icmp .ne o) 3 q tgt) (kt : ¬ x = y → G K cs tgt lv rest M) (kf : x = y → G K cs q lv rest M) : G K cs pc lv (.int y :: .int x :: rest) M := by
  obtain ⟨e1, rfl, e3⟩ := hd
  intro H locs ls hP hS hl
  exact lv_icmp_ne C.ex C.by e1 (e3 _ rfl) (fun z => kt z H locs ls hP hS hl) (fun z => kf z H locs ls hP hS hl)
theorem g_icmp_lt {x y : Int32} {o : Int} (C : Cx K cc own d) (hd : dC cc pc (.if_icmp .lt o) 3 q tgt) (kt : x < y → G K cs tgt lv rest M) (kf : ¬ x < y → G K cs q lv rest M) : G K cs pc lv (.int y :: .int x :: rest) M := by
  obtain ⟨e1, rfl, e3⟩ := hd
  intro H locs ls hP hS hl
  exact lv_icmp_lt C.ex C.by e1 (e3 _ rfl) (fun z => kt z H locs ls hP hS hl) (fun z => kf z H locs ls hP hS hl)
theorem g_icmp_ge {x y : Int32} {o : Int} (C : Cx K cc own d) (hd : dC cc pc (.if_icmp .ge o) 3 q tgt) (kt : y ≤ x → G K cs tgt lv rest M) (kf : ¬ y ≤ x → G K cs q lv rest M) : G K cs pc lv (.int y :: .int x :: rest) M := by
  obtain ⟨e1, rfl, e3⟩ := hd
  intro H locs ls hP hS hl
  exact lv_icmp_ge C.ex C.by e1 (e3 _ rfl) (fun z => kt z H locs ls hP hS hl) (fun z => kf z H locs ls hP hS hl)
theorem g_icmp_gt {x y : Int32} {o : Int} (C : Cx K cc own d) (hd : dC cc pc (.if_icmp .gt o) 3 q tgt) (kt : y < x → G K cs tgt lv rest M) (kf : ¬ y < x → G K cs q lv rest M) : G K cs pc lv (.int y :: .int x :: rest) M := by
  obtain ⟨e1, rfl, e3⟩ := hd
  intro H locs ls hP hS hl
  exact lv_icmp_gt C.ex C.by e1 (e3 _ rfl) (fun z => kt z H locs ls hP hS hl) (fun z => kf z H locs ls hP hS hl)
theorem g_icmp_le {x y : Int32} {o : Int} (C : Cx K cc own d) (hd : dC cc pc (.if_icmp .le o) 3 q tgt) (kt : x ≤ y → G K cs tgt lv rest M) (kf : ¬ x ≤ y → G K cs q lv rest M) : G K cs pc lv (.int y :: .int x :: rest) M := by
  obtain ⟨e1, rfl, e3⟩ := hd
  intro H locs ls hP hS hl
  exact lv_icmp_le C.ex C.by e1 (e3 _ rfl) (fun z => kt z H locs ls hP hS hl) (fun z => kf z H locs ls hP hS hl)
theorem g_goto {o : Int} (C : Cx K cc own d) (hd : dC cc pc (.goto o) 3 q tgt) (h : G K cs tgt lv rest M) : G K cs pc lv rest M := by
  obtain ⟨e1, -, e3⟩ := hd
  intro H locs ls hP hS hl
  exact lv_goto C.ex C.by e1 (e3 _ rfl) (h H locs ls hP hS hl)
end GRows
end
section
/-! FIELDS, ARRAYS, CALLS, ENDS over the world -/
theorem fvs_at {E : Ev} {r : Nat → Int32} {t : Nat → Int64} {z : List (Nat × Nat)} {i : Nat} {f : Nat × Nat} (h : z[i]? = some f) : (fvs E r t 0 z)[i]? = some (fv E r t i f) := by
  rw [fvs_get, h, Nat.zero_add, Option.map_some]
/-- a field by an entry of the class own: which field of which sort it is -/
def FK (own : String) (ix ci i : Nat) (ty : FieldType) (fin : Bool) : Prop := ∃ (Cn : String) (T : u_T) (N : Nat) (ty0 : Nat → FieldType), vwCl[ci]? = some (Cn, T, N) ∧ i < N ∧ (∀ w ∈ u_ws Cn T N, w ∈ RQ) ∧ Cond.fieldLink own ix (T i).1 (T i).2.1 (T i).2.2.1 ∈ RQ ∧
  (∀ k, k < N → parseFieldDescriptor (T k).2.2.1 = some (ty0 k)) ∧ (∀ a, a < N → ∀ b, b < N → a ≠ b → (T a).2.1 ≠ (T b).2.1) ∧ (T i).2.2.2 = fin ∧ parseFieldDescriptor (T i).2.2.1 = some ty
section GMem
variable {K : Kx} {cc : ByteArray} {own : String} {d : Nat} {cs : Nat × Nat} {pc len q tgt : Nat} {lv : List (Nat × Value)} {rest : List Value} {M : Mm}
theorem g_getf {k ci i ix : Nat} {z : List (Nat × Nat)} {f : Nat × Nat} {ty : FieldType} {fin : Bool} (C : Cx K cc own d) (hd : dC cc pc (.getfield ix) 3 q tgt) (hk : LT[k]? = some (4, ci, z)) (hi : z[i]? = some f) (hF : FK own ix ci i ty fin)
    (h : G K cs q lv (fv K.2.1 (M.1 k) (M.2 k) i f :: rest) M) : G K cs pc lv (.ref (K.2.1.1 + k) :: rest) M := by
  obtain ⟨e1, rfl, -⟩ := hd
  obtain ⟨Cn, T, N, ty0, f1, f2, f3, f4, -, -, -, -⟩ := hF
  intro H locs ls hP hS hl
  exact va_get C.ex C.by C.rq f3 C.ow C.iv.1 hP k (WD_get hk) f1 i f2 (C.rq _ f4) (fun _ x => x) (fvs_at hi) e1 (h H locs ls hP hS hl)
theorem g_getI {k ci i ix b : Nat} {z : List (Nat × Nat)} {ty : FieldType} {fin : Bool} (C : Cx K cc own d) (hd : dC cc pc (.getfield ix) 3 q tgt) (hF : FK own ix ci i ty fin) (hk : LT[k]? = some (4, ci, z)) (hi : z[i]? = some (0, b))
    (h : G K cs q lv (.int (M.1 k i) :: rest) M) : G K cs pc lv (.ref (K.2.1.1 + k) :: rest) M := g_getf C hd hk hi hF h
theorem g_getL {k ci i ix b : Nat} {z : List (Nat × Nat)} {ty : FieldType} {fin : Bool} (C : Cx K cc own d) (hd : dC cc pc (.getfield ix) 3 q tgt) (hF : FK own ix ci i ty fin) (hk : LT[k]? = some (4, ci, z)) (hi : z[i]? = some (1, b))
    (h : G K cs q lv (.long (M.2 k i) :: rest) M) : G K cs pc lv (.ref (K.2.1.1 + k) :: rest) M := g_getf C hd hk hi hF h
theorem g_getR {k ci i ix b : Nat} {z : List (Nat × Nat)} {ty : FieldType} {fin : Bool} (C : Cx K cc own d) (hd : dC cc pc (.getfield ix) 3 q tgt) (hF : FK own ix ci i ty fin) (hk : LT[k]? = some (4, ci, z)) (hi : z[i]? = some (2, b))
    (h : G K cs q lv (.ref (K.2.1.1 + b) :: rest) M) : G K cs pc lv (.ref (K.2.1.1 + k) :: rest) M := g_getf C hd hk hi hF h
theorem g_getV {k ci i ix b : Nat} {z : List (Nat × Nat)} {ty : FieldType} {fin : Bool} (C : Cx K cc own d) (hd : dC cc pc (.getfield ix) 3 q tgt) (hF : FK own ix ci i ty fin) (hk : LT[k]? = some (4, ci, z)) (hi : z[i]? = some (3, b))
    (h : G K cs q lv (.ref (K.2.1.1 + (M.1 k i).toNatClampNeg) :: rest) M) : G K cs pc lv (.ref (K.2.1.1 + k) :: rest) M := g_getf C hd hk hi hF h
theorem g_putf {k ci i ix : Nat} {z : List (Nat × Nat)} {v : Value} {M' : Mm} {ty : FieldType} (C : Cx K cc own d) (hd : dC cc pc (.putfield ix) 3 q tgt) (hF : FK own ix ci i ty false) (hk : LT[k]? = some (4, ci, z)) (hi : i < z.length) (hn : narrow ty v = v) (hfit : fits ty v = true)
    (hM : (WD K.2.1 M).set k (K.2.1.1 + k, .inr (ci, (fvs K.2.1 (M.1 k) (M.2 k) 0 z).set i v)) = WD K.2.1 M')
    (h : G K cs q lv rest M') : G K cs pc lv (v :: .ref (K.2.1.1 + k) :: rest) M := by
  obtain ⟨e1, rfl, -⟩ := hd
  obtain ⟨Cn, T, N, ty0, f1, f2, f3, f4, f5, f6, f7, f8⟩ := hF
  intro H locs ls hP hS hl
  refine va_put C.ex C.by C.rq f3 ty0 f5 f6 C.ow C.iv.1 hP (WD_D K.2.1 M) hS k (WD_get hk) f1 i f2 (C.rq _ f4) (fun _ x => x) f7 f8 hn hfit (by rw [fvs_len]; exact hi) e1 (fun H1 locs1 hP1 _ hS1 => ?_)
  have hP2 : va_P (zD K.2.1) vwCl ((WD K.2.1 M).set k (K.2.1.1 + k, .inr (ci, (fvs K.2.1 (M.1 k) (M.2 k) 0 z).set i v))) H1 := hP1
  rw [hM] at hP2
  exact h H1 locs1 ls hP2 hS1 hl
theorem g_putI {k ci i ix b : Nat} {z : List (Nat × Nat)} {x : Int32} (C : Cx K cc own d) (hd : dC cc pc (.putfield ix) 3 q tgt) (hF : FK own ix ci i .int false) (hk : LT[k]? = some (4, ci, z)) (hi : z[i]? = some (0, b))
    (h : G K cs q lv rest (wi M k i x)) : G K cs pc lv (.int x :: .ref (K.2.1.1 + k) :: rest) M :=
  g_putf C hd hF hk (List.getElem?_eq_some_iff.mp hi).1 rfl rfl (WD_fi hk hi) h
theorem g_putL {k ci i ix b : Nat} {z : List (Nat × Nat)} {x : Int64} (C : Cx K cc own d) (hd : dC cc pc (.putfield ix) 3 q tgt) (hF : FK own ix ci i .long false) (hk : LT[k]? = some (4, ci, z)) (hi : z[i]? = some (1, b))
    (h : G K cs q lv rest (wl M k i x)) : G K cs pc lv (.long x :: .ref (K.2.1.1 + k) :: rest) M :=
  g_putf C hd hF hk (List.getElem?_eq_some_iff.mp hi).1 rfl rfl (WD_fl hk hi) h
theorem g_putV {k ci i ix b j : Nat} {z : List (Nat × Nat)} {nm : String} (C : Cx K cc own d) (hd : dC cc pc (.putfield ix) 3 q tgt) (hF : FK own ix ci i (.object nm) false) (hk : LT[k]? = some (4, ci, z)) (hi : z[i]? = some (3, b)) (hj : j < 200)
    (h : G K cs q lv rest (wi M k i (Int32.ofNat j))) : G K cs pc lv (.ref (K.2.1.1 + j) :: .ref (K.2.1.1 + k) :: rest) M :=
  g_putf C hd hF hk (List.getElem?_eq_some_iff.mp hi).1 rfl rfl (WD_fr hk hi hj) h
theorem g_iald {k n : Nat} {z : List (Nat × Nat)} {i : Int32} (C : Cx K cc own d) (hd : dC cc pc .iaload 1 q tgt) (hk : LT[k]? = some (0, n, z)) (hin : vp_in i n)
    (h : G K cs q lv (.int (M.1 k i.toNatClampNeg) :: rest) M) : G K cs pc lv (.int i :: .ref (K.2.1.1 + k) :: rest) M := by
  obtain ⟨e1, rfl, -⟩ := hd
  intro H locs ls hP hS hl
  exact va_iald C.ex C.by C.iv.1 hP k 0 (WD_get hk) rfl hin e1 (h H locs ls hP hS hl)
theorem g_zald {k n : Nat} {z : List (Nat × Nat)} {i : Int32} (C : Cx K cc own d) (hd : dC cc pc .baload 1 q tgt) (hk : LT[k]? = some (2, n, z)) (hin : vp_in i n)
    (h : G K cs q lv (.int (M.1 k i.toNatClampNeg) :: rest) M) : G K cs pc lv (.int i :: .ref (K.2.1.1 + k) :: rest) M := by
  obtain ⟨e1, rfl, -⟩ := hd
  intro H locs ls hP hS hl
  exact va_zald C.ex C.by C.iv.1 hP k 2 (WD_get hk) rfl hin e1 (h H locs ls hP hS hl)
theorem g_lald {k n : Nat} {z : List (Nat × Nat)} {i : Int32} (C : Cx K cc own d) (hd : dC cc pc .laload 1 q tgt) (hk : LT[k]? = some (1, n, z)) (hin : vp_in i n)
    (h : G K cs q lv (.long (M.2 k i.toNatClampNeg) :: rest) M) : G K cs pc lv (.int i :: .ref (K.2.1.1 + k) :: rest) M := by
  obtain ⟨e1, rfl, -⟩ := hd
  intro H locs ls hP hS hl
  exact va_lald C.ex C.by C.iv.1 hP k 1 (WD_get hk) rfl hin e1 (h H locs ls hP hS hl)
theorem g_aald {k n : Nat} {z : List (Nat × Nat)} {i : Int32} (C : Cx K cc own d) (hd : dC cc pc .aaload 1 q tgt) (hk : LT[k]? = some (3, n, z)) (hin : vp_in i n)
    (h : G K cs q lv (.ref (K.2.1.1 + (65 + i.toNatClampNeg)) :: rest) M) : G K cs pc lv (.int i :: .ref (K.2.1.1 + k) :: rest) M := by
  obtain ⟨e1, rfl, -⟩ := hd
  intro H locs ls hP hS hl
  exact va_aldq (C := "GroundPlan$Found") C.ex C.by C.iv.1 hP k 3 (WD_get hk) rfl hin e1 (h H locs ls hP hS hl)
theorem g_iast {k n : Nat} {z : List (Nat × Nat)} {i x : Int32} (C : Cx K cc own d) (hd : dC cc pc .iastore 1 q tgt) (hk : LT[k]? = some (0, n, z)) (hin : vp_in i n)
    (h : G K cs q lv rest (wi M k i.toNatClampNeg x)) : G K cs pc lv (.int x :: .int i :: .ref (K.2.1.1 + k) :: rest) M := by
  obtain ⟨e1, rfl, -⟩ := hd
  intro H locs ls hP hS hl
  refine va_iast C.ex C.by C.iv.1 hP (WD_D K.2.1 M) hS k 0 (WD_get hk) rfl hin e1 (fun H1 locs1 hP1 _ hS1 => ?_)
  have hP2 : va_P (zD K.2.1) vwCl ((WD K.2.1 M).set k (K.2.1.1 + k, .inl (K.2.1.2.2.2.1 0, n, .inl (upd (M.1 k) i.toNatClampNeg x)))) H1 := hP1
  rw [WD_wi hk] at hP2
  exact h H1 locs1 ls hP2 hS1 hl
theorem g_zast {k n : Nat} {z : List (Nat × Nat)} {i x : Int32} (C : Cx K cc own d) (hd : dC cc pc .bastore 1 q tgt) (hk : LT[k]? = some (2, n, z)) (hin : vp_in i n)
    (h : G K cs q lv rest (wi M k i.toNatClampNeg (vp_nar .boolean x))) : G K cs pc lv (.int x :: .int i :: .ref (K.2.1.1 + k) :: rest) M := by
  obtain ⟨e1, rfl, -⟩ := hd
  intro H locs ls hP hS hl
  refine va_zast C.ex C.by C.iv.1 hP (WD_D K.2.1 M) hS k 2 (WD_get hk) rfl hin e1 (fun H1 locs1 hP1 _ hS1 => ?_)
  have hP2 : va_P (zD K.2.1) vwCl ((WD K.2.1 M).set k (K.2.1.1 + k, .inl (K.2.1.2.2.2.1 2, n, .inl (upd (M.1 k) i.toNatClampNeg (vp_nar .boolean x))))) H1 := hP1
  rw [WD_wz hk] at hP2
  exact h H1 locs1 ls hP2 hS1 hl
theorem g_last {k n : Nat} {z : List (Nat × Nat)} {i : Int32} {x : Int64} (C : Cx K cc own d) (hd : dC cc pc .lastore 1 q tgt) (hk : LT[k]? = some (1, n, z)) (hin : vp_in i n)
    (h : G K cs q lv rest (wl M k i.toNatClampNeg x)) : G K cs pc lv (.long x :: .int i :: .ref (K.2.1.1 + k) :: rest) M := by
  obtain ⟨e1, rfl, -⟩ := hd
  intro H locs ls hP hS hl
  refine va_last C.ex C.by C.iv.1 hP (WD_D K.2.1 M) hS k 1 (WD_get hk) rfl hin e1 (fun H1 locs1 hP1 _ hS1 => ?_)
  have hP2 : va_P (zD K.2.1) vwCl ((WD K.2.1 M).set k (K.2.1.1 + k, .inl (K.2.1.2.2.2.1 1, n, .inr (.inl (vp_updL (M.2 k) i.toNatClampNeg x))))) H1 := hP1
  rw [WD_wl hk] at hP2
  exact h H1 locs1 ls hP2 hS1 hl
theorem g_alen {k n : Nat} {z : List (Nat × Nat)} {v : Int32} (C : Cx K cc own d) (hd : dC cc pc .arraylength 1 q tgt) (hk : LT[k]? = some (0, n, z)) (hv : Int32.ofNat n = v)
    (h : G K cs q lv (.int v :: rest) M) : G K cs pc lv (.ref (K.2.1.1 + k) :: rest) M := by
  obtain ⟨e1, rfl, -⟩ := hd
  intro H locs ls hP hS hl
  exact va_alen C.ex C.by C.iv.1 hP k 0 (ty := .int) (WD_get hk) rfl hv e1 (h H locs ls hP hS hl)
/-- the three rows of numbers of the class -/
theorem g_gets {n : String} {ix j : Nat} (C : Cx K cc own d) (hd : dC cc pc (.getstatic ix) 3 q tgt) (hZ : va_Z "GroundPlan" n "[J" (.ref (K.2.1.2.2.2.2 j)) (zA K.2.1) K.1.s K.1.s.heap) (hw : Cond.fieldLink own ix "GroundPlan" n "[J" ∈ RQ)
    (h : G K cs q lv (.ref (K.2.1.2.2.2.2 j) :: rest) M) : G K cs pc lv rest M := by
  obtain ⟨e1, rfl, -⟩ := hd
  intro H locs ls hP hS hl
  exact va_gets C.ex C.by hZ hS C.ow (C.rq _ hw) (fun _ x => x) e1 (h H locs ls hP hS hl)
theorem g_tl {j N : Nat} {f : Nat → Value} {i : Int32} {v : Int64} (C : Cx K cc own d) (hd : dC cc pc .laload 1 q tgt) (hT : va_T .long (K.2.1.2.2.2.2 j) N f (zA K.2.1) K.1.s K.1.s.heap) (hin : vp_in i N) (hv : f i.toNatClampNeg = .long v)
    (h : G K cs q lv (.long v :: rest) M) : G K cs pc lv (.int i :: .ref (K.2.1.2.2.2.2 j) :: rest) M := by
  obtain ⟨e1, rfl, -⟩ := hd
  intro H locs ls hP hS hl
  exact va_tl C.ex C.by hT hS hin hv e1 (h H locs ls hP hS hl)
theorem g_tlen {j N : Nat} {f : Nat → Value} {v : Int32} (C : Cx K cc own d) (hd : dC cc pc .arraylength 1 q tgt) (hT : va_T .long (K.2.1.2.2.2.2 j) N f (zA K.2.1) K.1.s K.1.s.heap) (hv : Int32.ofNat N = v)
    (h : G K cs q lv (.int v :: rest) M) : G K cs pc lv (.ref (K.2.1.2.2.2.2 j) :: rest) M := by
  obtain ⟨e1, rfl, -⟩ := hd
  intro H locs ls hP hS hl
  exact va_tlen C.ex C.by hT hS hv e1 (h H locs ls hP hS hl)
theorem g_mmax {ix : Nat} {x y : Int32} (C : Cx K cc own d) (hd : dC cc pc (.invokestatic ix) 3 q tgt) (w : Cond.methodLink own ix Lib.Math.max.name ∈ RQ ∧ Cond.static Lib.Math.max.name ∈ RQ ∧ Cond.initialized "java/lang/Math" ∈ RQ ∧ Cond.code Lib.Math.max.name Lib.Math.max.code 2 (some .int) ∈ RQ) (h0 : 0 < d) (hr : (rest.map fun v => v.category).sum ≤ 20) (hc : cs.1 ≤ K.1.R.cells ∧ cs.2 ≤ K.1.R.slots)
    (h : G K cs q lv (.int (if x < y then y else x) :: rest) M) : G K cs pc lv (.int y :: .int x :: rest) M := by
  obtain ⟨e1, rfl, -⟩ := hd
  intro H locs ls hP hS hl
  have := C.fr; have := C.lo
  have hA : 1 ≤ K.1.R.frames := by omega
  have hB : (rest.map fun v => v.category).sum + 13 ≤ K.1.R.locals := by omega
  exact va_mmax C.ex C.by (C.ml.trans hl.1.symm) C.ow (C.rq _ w.1) (C.rq _ w.2.1) (C.rq _ w.2.2.1) (C.rq _ w.2.2.2) hA hB hc.1 hc.2 e1 (h H locs ls hP hS hl)
theorem g_mmin {ix : Nat} {x y : Int32} (C : Cx K cc own d) (hd : dC cc pc (.invokestatic ix) 3 q tgt) (w : Cond.methodLink own ix Lib.Math.min.name ∈ RQ ∧ Cond.static Lib.Math.min.name ∈ RQ ∧ Cond.initialized "java/lang/Math" ∈ RQ ∧ Cond.code Lib.Math.min.name Lib.Math.min.code 2 (some .int) ∈ RQ) (h0 : 0 < d) (hr : (rest.map fun v => v.category).sum ≤ 20) (hc : cs.1 ≤ K.1.R.cells ∧ cs.2 ≤ K.1.R.slots)
    (h : G K cs q lv (.int (if y < x then y else x) :: rest) M) : G K cs pc lv (.int y :: .int x :: rest) M := by
  obtain ⟨e1, rfl, -⟩ := hd
  intro H locs ls hP hS hl
  have := C.fr; have := C.lo
  have hA : 1 ≤ K.1.R.frames := by omega
  have hB : (rest.map fun v => v.category).sum + 13 ≤ K.1.R.locals := by omega
  exact va_mmin C.ex C.by (C.ml.trans hl.1.symm) C.ow (C.rq _ w.1) (C.rq _ w.2.1) (C.rq _ w.2.2.1) (C.rq _ w.2.2.2) hA hB hc.1 hc.2 e1 (h H locs ls hP hS hl)
/-- the row k1 becomes cpy -/
def wr (M : Mm) (k : Nat) (f : Nat → Int32) : Mm := (fun k' => if k' = k then f else M.1 k', M.2)
theorem WD_wr {E : Ev} {M : Mm} {k n : Nat} {f : Nat → Int32} {z : List (Nat × Nat)} (hk : LT[k]? = some (0, n, z)) : (WD E M).set k (E.1 + k, .inl (E.2.2.2.1 0, n, .inl f)) = WD E (wr M k f) :=
  WD_set hk (by simp [wr]; rfl) (fun j h => by simp [wr, h]) (fun _ _ => rfl)
theorem g_copy {ix k0 k1 n0 n1 : Nat} {z0 z1 : List (Nat × Nat)} {sp dp n : Int32} (C : Cx K cc own d) (hd : dC cc pc (.invokestatic ix) 3 q tgt) (w : Cond.methodLink own ix arraycopyName ∈ RQ ∧ Cond.native arraycopyName ∈ RQ ∧ Cond.static arraycopyName ∈ RQ ∧ Cond.initialized "java/lang/System" ∈ RQ)
    (hk0 : LT[k0]? = some (0, n0, z0)) (hk1 : LT[k1]? = some (0, n1, z1)) (h1 : ¬ sp < 0) (h2 : ¬ dp < 0) (h3 : ¬ n < 0) (h4 : sp.toNatClampNeg + n.toNatClampNeg ≤ n0) (h5 : dp.toNatClampNeg + n.toNatClampNeg ≤ n1) (h0 : 0 < d) (hr : (rest.map fun v => v.category).sum ≤ 20)
    (h : G K cs q lv rest (wr M k1 (va_cpy (M.1 k0) (M.1 k1) sp.toNatClampNeg dp.toNatClampNeg n.toNatClampNeg))) : G K cs pc lv (.int n :: .int dp :: .ref (K.2.1.1 + k1) :: .int sp :: .ref (K.2.1.1 + k0) :: rest) M := by
  obtain ⟨e1, rfl, -⟩ := hd
  intro H locs ls hP hS hl
  have := C.fr; have := C.lo
  have hA : 1 ≤ K.1.R.frames := by omega
  have h6 : nativeFrameWords "java/lang/System" "arraycopy" 5 ≤ 60 := by decide +kernel
  have hB : (rest.map fun v => v.category).sum + (nativeFrameWords "java/lang/System" "arraycopy" 5 + 11) ≤ K.1.R.locals := by omega
  refine va_copyi C.ex C.by (C.ml.trans hl.1.symm) C.ow (C.rq _ w.1) (C.rq _ w.2.1) (C.rq _ w.2.2.1) (C.rq _ w.2.2.2) C.iv.1 hP (WD_D K.2.1 M) hS k0 k1 0 0 (ty := .int) (WD_get hk0) (WD_get hk1) rfl rfl rfl h1 h2 h3 h4 h5 (fun _ _ => rfl) hA hB e1 (fun H1 locs1 hP1 _ hS1 => ?_)
  have hP2 : va_P (zD K.2.1) vwCl ((WD K.2.1 M).set k1 (K.2.1.1 + k1, .inl (K.2.1.2.2.2.1 0, n1, .inl (va_cpy (M.1 k0) (M.1 k1) sp.toNatClampNeg dp.toNatClampNeg n.toNatClampNeg)))) H1 := hP1
  rw [WD_wr hk1] at hP2
  exact h H1 locs1 ls hP2 hS1 hl
theorem g_tabIn {dflt lo hi : Int} {offs : Array Int} {x : Int32} {off : Int} (C : Cx K cc own d) (hd : dC cc pc (.tableswitch dflt lo hi offs) len q tgt) (h1 : ¬ x.toInt < lo) (h2 : ¬ hi < x.toInt) (ho : offs[(x.toInt - lo).toNat]? = some off) {t : Nat} (ht : (pc : Int) + off = (t : Int))
    (h : G K cs t lv rest M) : G K cs pc lv (.int x :: rest) M := by
  obtain ⟨e1, -, -⟩ := hd
  intro H locs ls hP hS hl
  exact lv_tableIn C.ex C.by e1 h1 h2 ho ht (h H locs ls hP hS hl)
theorem g_tabOut {dflt lo hi : Int} {offs : Array Int} {x : Int32} (C : Cx K cc own d) (hd : dC cc pc (.tableswitch dflt lo hi offs) len q tgt) (h1 : x.toInt < lo ∨ hi < x.toInt) {t : Nat} (ht : (pc : Int) + dflt = (t : Int))
    (h : G K cs t lv rest M) : G K cs pc lv (.int x :: rest) M := by
  obtain ⟨e1, -, -⟩ := hd
  intro H locs ls hP hS hl
  exact lv_tableOut C.ex C.by e1 h1 ht (h H locs ls hP hS hl)
theorem g_look {dflt : Int} {ps : Array (Int × Int)} {x : Int32} {off : Int} (C : Cx K cc own d) (hd : dC cc pc (.lookupswitch dflt ps) len q tgt) (hp : (ps.toList.zip (ps.toList.drop 1)).all (fun (a, next) => a.1 < next.1) = true) (ho : Op.lookupswitch.offset ps.toList dflt x.toInt = off) {t : Nat} (ht : (pc : Int) + off = (t : Int))
    (h : G K cs t lv rest M) : G K cs pc lv (.int x :: rest) M := by
  obtain ⟨e1, -, -⟩ := hd
  intro H locs ls hP hS hl
  exact lv_lookup C.ex C.by e1 hp ho ht (h H locs ls hP hS hl)
end GMem
end
section
/-! CONTRACTS: what a method answers at these arguments and this memory; calls, ends -/
def rmD (d mc ms : Nat) : Room := { frames := d, cells := mc, slots := ms, locals := 64 * d + 100 }
def Pv (E : Ev) (av : List Value) (M : Mm) : Array Value → State → Prop := va_Pc av (Wv E M)
def Qv (E : Ev) (out : Option Value) (M' : Mm) : Array Value → State → Outcome → State → Prop := fun _ st o t => o = .returned out ∧ va_P (zD E) vwCl (WD E M') t.heap ∧ va_F (zA E) st t
def CM (E : Ev) (l : Launch) (d mc ms : Nat) (y : MethodName) (cc : ByteArray) (maxL : Nat) (ret : Option FieldType) (av : List Value) (M : Mm) (out : Option Value) (M' : Mm) : Prop :=
  Met l y (Cond.code y cc maxL ret :: RQ) (rmD d mc ms) (Pv E av M) (Qv E out M') mc ms (zA E)
def QvX (E : Ev) (o : Option (Option Value)) (M' : Mm) : Array Value → State → Outcome → State → Prop := fun _ st oc t => ∃ v, o = some v ∧ oc = .returned v ∧ va_P (zD E) vwCl (WD E M') t.heap ∧ va_F (zA E) st t
def XvX (E : Ev) (o : Option (Option Value)) (M' : Mm) : String → State → State → Prop := fun Ec st t => o = none ∧ Ec = nse ∧ va_P (zD E) vwCl (WD E M') t.heap ∧ va_F (zA E) st t
/-- .. of one that may throw: none is the throw -/
def CX (E : Ev) (l : Launch) (d mc ms : Nat) (y : MethodName) (cc : ByteArray) (maxL : Nat) (ret : Option FieldType) (av : List Value) (M : Mm) (o : Option (Option Value)) (M' : Mm) : Prop :=
  vx_Met l y (Cond.code y cc maxL ret :: RQ) (rmD d mc ms) (Pv E av M) (QvX E o M') (XvX E o M') mc ms (zA E)
theorem Pv.blind {E : Ev} {av : List Value} {M : Mm} : FrameBlind (Pv E av M) := fun _ U _ _ h => ⟨h.1, Iv.same (u := U) rfl rfl h.2.1, h.2.2.1, h.2.2.2⟩
def Rv (K : Kx) (mc ms : Nat) (out : Option Value) (M' : Mm) : Prop := ∀ t : State, MQ K.1.below (Qv K.2.1 out M') K.1.args K.1.s mc ms (zA K.2.1) t → K.2.2.2 t
def Xq (E : Ev) (M' : Mm) : String → State → State → Prop := fun Ec st t => Ec = nse ∧ va_P (zD E) vwCl (WD E M') t.heap ∧ va_F (zA E) st t
def Xv (K : Kx) (mc ms : Nat) (M' : Mm) : Prop := ∀ t : State, vx_MQ K.1.below (fun _ _ _ _ => False) (Xq K.2.1 M') K.1.args K.1.s mc ms (zA K.2.1) t → K.2.2.2 t
theorem W_mono {p : Program} {l : Launch} {e : Env} {R : Room} {s : State} {m : MethodId} {args : Array Value} {below : List Frame} {meth : Method} {c : Code} {H : Heap} {locs : List Loc} {cells slots : Nat} {Q Q' : State → Prop} {g : JFrame} (hQ : ∀ t, Q t → Q' t)
    (h : W p l e R s m args below meth c H locs cells slots Q g) : W p l e R s m args below meth c H locs cells slots Q' g := by
  intro T hT X
  obtain ⟨t, a, b⟩ := h T hT X
  exact ⟨t, a, hQ t b⟩
theorem vxW_mono {p : Program} {l : Launch} {e : Env} {R : Room} {s : State} {m : MethodId} {args : Array Value} {below : List Frame} {meth : Method} {c : Code} {H : Heap} {locs : List Loc} {cells slots : Nat} {Q Q' : State → Prop} {g : JFrame} {q : Addr} (hQ : ∀ t, Q t → Q' t)
    (h : vx_W p l e R s m args below meth c H locs cells slots Q g q) : vx_W p l e R s m args below meth c H locs cells slots Q' g q := by
  intro T hT X
  obtain ⟨t, a, b⟩ := h T hT X
  exact ⟨t, a, hQ t b⟩
section GEnd
variable {K : Kx} {cc : ByteArray} {own : String} {d mc ms : Nat} {cs : Nat × Nat} {pc len q tgt : Nat} {lv : List (Nat × Value)} {rest : List Value} {M : Mm}
theorem g_iret {v : Int32} (C : Cx K cc own d) (hd : dC cc pc .ireturn 1 q tgt) (hr : K.1.meth.sig.returnType = some .int) (hR : Rv K mc ms (some (.int v)) M) (hc : cs.1 ≤ mc) (hs : cs.2 ≤ ms) : G K cs pc lv [.int v] M := by
  obtain ⟨e1, -, -⟩ := hd
  intro H locs ls hP hS hl
  exact W.widen hc hs (W_mono hR (W.iret C.ex C.by hr (fun t ht hW => ⟨rfl, by rw [ht]; exact hP, hS.F ht⟩) hS.2.2 e1 (hlocks := C.lk)))
theorem g_zret {v : Int32} (C : Cx K cc own d) (hd : dC cc pc .ireturn 1 q tgt) (hr : K.1.meth.sig.returnType = some .boolean) (hn : narrow .boolean (.int v) = .int v) (hR : Rv K mc ms (some (.int v)) M) (hc : cs.1 ≤ mc) (hs : cs.2 ≤ ms) : G K cs pc lv [.int v] M := by
  obtain ⟨e1, -, -⟩ := hd
  intro H locs ls hP hS hl
  exact W.widen hc hs (W_mono hR (W.zret C.ex C.by hr hn (fun t ht hW => ⟨rfl, by rw [ht]; exact hP, hS.F ht⟩) hS.2.2 e1 (hlocks := C.lk)))
theorem g_lret {v : Int64} (C : Cx K cc own d) (hd : dC cc pc .lreturn 1 q tgt) (hr : K.1.meth.sig.returnType = some .long) (hR : Rv K mc ms (some (.long v)) M) (hc : cs.1 ≤ mc) (hs : cs.2 ≤ ms) : G K cs pc lv [.long v] M := by
  obtain ⟨e1, -, -⟩ := hd
  intro H locs ls hP hS hl
  exact W.widen hc hs (W_mono hR (W.lret C.ex C.by hr (fun t ht hW => ⟨rfl, by rw [ht]; exact hP, hS.F ht⟩) hS.2.2 e1 (hlocks := C.lk)))
theorem g_vret (C : Cx K cc own d) (hd : dC cc pc .return_ 1 q tgt) (hr : K.1.meth.sig.returnType = none) (hR : Rv K mc ms none M) (hc : cs.1 ≤ mc) (hs : cs.2 ≤ ms) : G K cs pc lv [] M := by
  obtain ⟨e1, -, -⟩ := hd
  intro H locs ls hP hS hl
  exact W.widen hc hs (W_mono hR (W.vret C.ex C.by hr (fun t ht hW => ⟨rfl, by rw [ht]; exact hP, hS.F ht⟩) hS.2.2 e1 (hlocks := C.lk)))
theorem g_aret {a : Nat} {nm : String} (C : Cx K cc own d) (hd : dC cc pc .areturn 1 q tgt) (hr : K.1.meth.sig.returnType = some (.object nm)) (hR : Rv K mc ms (some (.ref a)) M) (hc : cs.1 ≤ mc) (hs : cs.2 ≤ ms) : G K cs pc lv [.ref a] M := by
  obtain ⟨e1, -, -⟩ := hd
  intro H locs ls hP hS hl
  exact W.widen hc hs (W_mono hR (W.aret C.ex C.by hr (Or.inl ⟨nm, rfl⟩) (Or.inr ⟨a, rfl⟩) (fun t ht hW => ⟨rfl, by rw [ht]; exact hP, hS.F ht⟩) hS.2.2 e1 (hlocks := C.lk)))
/-- the start of a call, out of this point -/
theorem g_pre {H : Heap} {locs : List Loc} {As : List Value} (C : Cx K cc own d) (hP : va_P (zD K.2.1) vwCl (WD K.2.1 M) H) (hS : va_S (zA K.2.1) K.1.s.heap H locs) : ∀ U : State, U.heap = H → K.1.s.WarmedH U.vm → Pv K.2.1 As M As.toArray U := by
  intro U hU hW
  refine ⟨rfl, Iv.warm hW (fun a h1 h2 => by rw [hU]; exact hS.2.1 a h1 h2) C.iv, ?_, by rw [hU]; exact hP⟩
  rw [hU]
  exact Nat.le_trans C.sz hS.1
theorem g_fin {H : Heap} {locs : List Loc} {mc' ms' : Nat} {out : Option Value} {M' : Mm} {av : Array Value} {ls : Array Slot} {st : List Value}
    (hr : va_Run K.1.p K.1.l K.1.e K.1.R K.1.s K.1.m K.1.args K.1.below K.1.meth K.1.c H locs cs.1 cs.2 mc' ms' (F0 K.1.m pc ls st) rest (Qv K.2.1 out M' av) (zA K.2.1)) (hS : va_S (zA K.2.1) K.1.s.heap H locs) (hl : lv_has ls K.2.2.1 lv)
    (h : G K (cs.1 + mc', cs.2 + ms') (pc + 3) lv (out.toList ++ rest) M') : W0 K H locs cs (F0 K.1.m pc ls st) := by
  intro T hT X
  obtain ⟨v, st₀, t, T', L, h0, X', hL, e1, e2, ⟨hv, hP1, hz, hk⟩, hst⟩ := hr T hT X
  cases hv
  rw [h0] at hz hk
  have hS1 : va_S (zA K.2.1) K.1.s.heap T'.heap (locs ++ L) := ⟨Nat.le_trans hS.1 (by rw [e1]; exact hz), fun z h1 h2 => by rw [e1, hk z (Nat.lt_of_lt_of_le h1 hS.1) h2]; exact hS.2.1 z h1 h2, fun z hz => by
    rcases List.mem_append.mp hz with h | h
    · exact hS.2.2 z h
    · exact hL z h⟩
  obtain ⟨t2, a1, b1⟩ := h T'.heap (locs ++ L) ls (by rw [e1]; exact hP1) hS1 hl T' rfl X'
  exact ⟨t2, hst t2 a1, b1⟩
end GEnd
/-- a call by a name of the class own: which method it is -/
def VK (own : String) (ix ci : Nat) (y : MethodName) (bytes : ByteArray) (maxL : Nat) (ret : Option FieldType) (n : Nat) : Prop := ∃ (Cn : String) (T : u_T) (N : Nat), vwCl[ci]? = some (Cn, T, N) ∧ y.cls = Cn ∧ Cond.methodLink own ix y ∈ RQ ∧ Cond.instanceMethod y ∈ RQ ∧ Cond.selects Cn y y ∈ RQ ∧ Cond.initialized Cn ∈ RQ ∧ Cond.code y bytes maxL ret ∈ RQ ∧
  (y.cls ≠ "java/lang/invoke/MethodHandle" ∧ y.cls ≠ "java/lang/invoke/VarHandle") ∧ (parseMethodDescriptor y.desc).map (fun d => d.parameters.length) = some n ∧ maxL ≤ 40
def SK (own : String) (ix : Nat) (y : MethodName) (bytes : ByteArray) (maxL : Nat) (ret : Option FieldType) (n : Nat) : Prop := Cond.methodLink own ix y ∈ RQ ∧ Cond.static y ∈ RQ ∧ Cond.initialized y.cls ∈ RQ ∧ Cond.code y bytes maxL ret ∈ RQ ∧
  (y.cls ≠ "java/lang/invoke/MethodHandle" ∧ y.cls ≠ "java/lang/invoke/VarHandle") ∧ (parseMethodDescriptor y.desc).map (fun d => d.parameters.length) = some n ∧ maxL ≤ 40
/-- .. of a nest mate -/
def NK (own : String) (ix : Nat) (y : MethodName) (host : String) (bytes : ByteArray) (maxL : Nat) (ret : Option FieldType) (n : Nat) : Prop := Cond.methodLinkNest own ix y host ∈ HWs ∧ Cond.static y ∈ RQ ∧ Cond.initialized y.cls ∈ RQ ∧ Cond.code y bytes maxL ret ∈ RQ ∧
  (y.cls ≠ "java/lang/invoke/MethodHandle" ∧ y.cls ≠ "java/lang/invoke/VarHandle") ∧ (parseMethodDescriptor y.desc).map (fun d => d.parameters.length) = some n ∧ maxL ≤ 40
/-- .. of a method x that Telling only declares -/
def UK (own : String) (ix ci : Nat) (x y : MethodName) (bytes : ByteArray) (maxL : Nat) (ret : Option FieldType) (n : Nat) : Prop := ∃ (Cn : String) (T : u_T) (N : Nat), vwCl[ci]? = some (Cn, T, N) ∧ Cond.methodLink own ix x ∈ RQ ∧ Cond.sameMethod x.cls x.cls x.name x.desc ∈ RQ ∧ Cond.selects Cn x y ∈ RQ ∧ Cond.instanceMethod y ∈ RQ ∧ Cond.initialized y.cls ∈ RQ ∧ Cond.code y bytes maxL ret ∈ RQ ∧ Cond.declares ⟨x.cls, x.name, x.desc⟩ ∈ HWs ∧
  (x.cls ≠ "java/lang/invoke/MethodHandle" ∧ x.cls ≠ "java/lang/invoke/VarHandle") ∧ (parseMethodDescriptor x.desc).map (fun d => d.parameters.length) = some n ∧ maxL ≤ 40
theorem RQ_gi {a b c e f : Cond} {ws : List Cond} (ha : a ∈ RQ) (hb : b ∈ RQ) (hc : c ∈ RQ) (he : e ∈ RQ) (hf : f ∈ RQ) (hw : ∀ w ∈ ws, w ∈ RQ) : GoodIn RQ (([a, b, c, e] : List Cond) ++ f :: ws) := by
  intro w h
  have : w ∈ RQ := by
    simp only [List.cons_append, List.nil_append, List.mem_cons] at h
    rcases h with rfl | rfl | rfl | rfl | rfl | h
    · exact ha
    · exact hb
    · exact hc
    · exact he
    · exact hf
    · exact hw _ h
  exact ⟨this, good_of_word (List.mem_filter.mp this).2⟩
theorem RQ_gi3 {a b c f : Cond} {ws : List Cond} (ha : a ∈ RQ) (hb : b ∈ RQ) (hc : c ∈ RQ) (hf : f ∈ RQ) (hw : ∀ w ∈ ws, w ∈ RQ) : GoodIn RQ (([a, b, c] : List Cond) ++ f :: ws) := by
  intro w h
  have : w ∈ RQ := by
    simp only [List.cons_append, List.nil_append, List.mem_cons] at h
    rcases h with rfl | rfl | rfl | rfl | h
    · exact ha
    · exact hb
    · exact hc
    · exact hf
    · exact hw _ h
  exact ⟨this, good_of_word (List.mem_filter.mp this).2⟩
theorem RQ_gi5 {a b c e x f : Cond} {ws : List Cond} (ha : a ∈ RQ) (hb : b ∈ RQ) (hc : c ∈ RQ) (he : e ∈ RQ) (hx : x ∈ RQ) (hf : f ∈ RQ) (hw : ∀ w ∈ ws, w ∈ RQ) : GoodIn RQ (([a, b, c, e, x] : List Cond) ++ f :: ws) := by
  intro w h
  have : w ∈ RQ := by
    simp only [List.cons_append, List.nil_append, List.mem_cons] at h
    rcases h with rfl | rfl | rfl | rfl | rfl | rfl | h
    · exact ha
    · exact hb
    · exact hc
    · exact he
    · exact hx
    · exact hf
    · exact hw _ h
  exact ⟨this, good_of_word (List.mem_filter.mp this).2⟩
theorem RQ_gi1 {f : Cond} {ws : List Cond} (hf : f ∈ RQ) (hw : ∀ w ∈ ws, w ∈ RQ) : GoodIn RQ (f :: ws) := by
  intro w h
  have : w ∈ RQ := by
    rcases List.mem_cons.mp h with rfl | h
    · exact hf
    · exact hw _ h
  exact ⟨this, good_of_word (List.mem_filter.mp this).2⟩
section GCall
variable {K : Kx} {cc : ByteArray} {own : String} {d : Nat} {cs : Nat × Nat} {pc len q tgt : Nat} {lv : List (Nat × Value)} {st : List Value} {M M' : Mm} {y : MethodName} {bytes : ByteArray} {maxL n d' mc' ms' ix : Nat} {ret : Option FieldType} {out : Option Value}
theorem g_cV {k ci : Nat} {z : List (Nat × Nat)} (As rest : List Value) (C : Cx K cc own d) (hd : dC cc pc (.invokevirtual ix) 3 q tgt) (hV : VK own ix ci y bytes maxL ret n) (hM : CM K.2.1 K.1.l d' mc' ms' y bytes maxL ret (.ref (K.2.1.1 + k) :: As) M out M') (hk : LT[k]? = some (4, ci, z))
    (hst : st = As.reverse ++ .ref (K.2.1.1 + k) :: rest) (hn : As.length = n) (hW : (rest.map fun v => v.category).sum ≤ 8) (hdd : d' < d) (hc : cs.1 + mc' ≤ K.1.R.cells ∧ cs.2 + ms' ≤ K.1.R.slots)
    (h : G K (cs.1 + mc', cs.2 + ms') q lv (out.toList ++ rest) M') : G K cs pc lv st M := by
  obtain ⟨e1, rfl, -⟩ := hd
  obtain ⟨Cn, T, N, v1, v2, v3, v4, v5, v6, v7, v8, v9, v10⟩ := hV
  have hfr := C.fr; have hlo := C.lo
  intro H locs ls hP hS hl
  refine g_fin (va_runV (C := Cn) (As := As) (rest := rest) (b := K.2.1.1 + k) (n := n) ⟨C.ex, C.by, C.ml, C.ow, C.rq⟩ hM (cwV n C.rq (RQ_gi v3 v4 v5 v6 v7 (fun _ h => h)) rfl rfl rfl ⟨v2, v8.1, v8.2, v9⟩ ⟨?_, ?_⟩) ⟨Pv.blind, ?_, g_pre C hP hS⟩ rfl hn hl.1 hst (by simpa using hW) e1 hc) hS hl h
  · show d' + 1 ≤ K.1.R.frames
    omega
  · show 8 + (maxL + 11) + (64 * d' + 100) ≤ K.1.R.locals
    omega
  · exact va_recv C.iv.1 hP v1 (WD_get hk)
theorem g_cS (As rest : List Value) (C : Cx K cc own d) (hd : dC cc pc (.invokestatic ix) 3 q tgt) (hV : SK own ix y bytes maxL ret n) (hM : CM K.2.1 K.1.l d' mc' ms' y bytes maxL ret As M out M')
    (hst : st = As.reverse ++ rest) (hn : As.length = n) (hW : (rest.map fun v => v.category).sum ≤ 8) (hdd : d' < d) (hc : cs.1 + mc' ≤ K.1.R.cells ∧ cs.2 + ms' ≤ K.1.R.slots)
    (h : G K (cs.1 + mc', cs.2 + ms') q lv (out.toList ++ rest) M') : G K cs pc lv st M := by
  obtain ⟨e1, rfl, -⟩ := hd
  obtain ⟨v3, v4, v6, v7, v8, v9, v10⟩ := hV
  have hfr := C.fr; have hlo := C.lo
  intro H locs ls hP hS hl
  refine g_fin (va_runS (As := As) (rest := rest) (n := n) ⟨C.ex, C.by, C.ml, C.ow, C.rq⟩ hM (va_cwS n C.rq (RQ_gi3 v3 v4 v6 v7 (fun _ h => h)) rfl rfl rfl ⟨v8.1, v8.2, v9⟩ ⟨?_, ?_⟩) ⟨Pv.blind, g_pre C hP hS⟩ rfl hn hl.1 hst (by simpa using hW) e1 hc) hS hl h
  · show d' + 1 ≤ K.1.R.frames
    omega
  · show 8 + (maxL + 11) + (64 * d' + 100) ≤ K.1.R.locals
    omega
theorem g_cN {host : String} (As rest : List Value) (C : Cx K cc own d) (hd : dC cc pc (.invokestatic ix) 3 q tgt) (hV : NK own ix y host bytes maxL ret n) (hM : CM K.2.1 K.1.l d' mc' ms' y bytes maxL ret As M out M')
    (hst : st = As.reverse ++ rest) (hn : As.length = n) (hW : (rest.map fun v => v.category).sum ≤ 8) (hdd : d' < d) (hc : cs.1 + mc' ≤ K.1.R.cells ∧ cs.2 + ms' ≤ K.1.R.slots)
    (h : G K (cs.1 + mc', cs.2 + ms') q lv (out.toList ++ rest) M') : G K cs pc lv st M := by
  obtain ⟨e1, rfl, -⟩ := hd
  obtain ⟨v3, v4, v6, v7, v8, v9, v10⟩ := hV
  have hfr := C.fr; have hlo := C.lo
  intro H locs ls hP hS hl
  refine g_fin (va_runSN (As := As) (rest := rest) (n := n) ⟨C.ex, C.by, C.ml, C.ow, C.rq⟩ hM ⟨va_cnB n C.rq (RQ_gi1 v7 (fun _ h => h)) rfl rfl rfl (C.iv.2.1 _ v3) (C.rq _ v6) ⟨v8.1, v8.2, v9⟩ ⟨?_, ?_⟩, C.rq _ v4, trivial⟩ ⟨Pv.blind, g_pre C hP hS⟩ rfl hn hl.1 hst (by simpa using hW) e1 hc) hS hl h
  · show d' + 1 ≤ K.1.R.frames
    omega
  · show 8 + (maxL + 11) + (64 * d' + 100) ≤ K.1.R.locals
    omega
theorem g_cU {x : MethodName} {k ci : Nat} {z : List (Nat × Nat)} (As rest : List Value) (C : Cx K cc own d) (hd : dC cc pc (.invokevirtual ix) 3 q tgt) (hV : UK own ix ci x y bytes maxL ret n) (hM : CM K.2.1 K.1.l d' mc' ms' y bytes maxL ret (.ref (K.2.1.1 + k) :: As) M out M') (hk : LT[k]? = some (4, ci, z))
    (hst : st = As.reverse ++ .ref (K.2.1.1 + k) :: rest) (hn : As.length = n) (hW : (rest.map fun v => v.category).sum ≤ 8) (hdd : d' < d) (hc : cs.1 + mc' ≤ K.1.R.cells ∧ cs.2 + ms' ≤ K.1.R.slots)
    (h : G K (cs.1 + mc', cs.2 + ms') q lv (out.toList ++ rest) M') : G K cs pc lv st M := by
  obtain ⟨e1, rfl, -⟩ := hd
  obtain ⟨Cn, T, N, v1, v3, v4, v5, v6, v7, v11, v12, v8, v9, v10⟩ := hV
  have hfr := C.fr; have hlo := C.lo
  intro H locs ls hP hS hl
  refine g_fin (va_runU (C := Cn) (owner := x.cls) (As := As) (rest := rest) (b := K.2.1.1 + k) (n := n) ⟨C.ex, C.by, C.ml, C.ow, C.rq⟩ hM (va_cwA n C.rq (RQ_gi5 v3 v4 v5 v6 v7 v11 (fun _ h => h)) rfl rfl rfl (C.iv.2.1 _ v12) ⟨v8.1, v8.2, v9⟩ ⟨?_, ?_⟩) ⟨Pv.blind, ?_, g_pre C hP hS⟩ rfl hn hl.1 hst (by simpa using hW) e1 hc) hS hl h
  · show d' + 1 ≤ K.1.R.frames
    omega
  · show 8 + (maxL + 11) + (64 * d' + 100) ≤ K.1.R.locals
    omega
  · exact va_recv C.iv.1 hP v1 (WD_get hk)
end GCall
/-- a contract out of a walk -/
theorem CM.of {E : Ev} {l : Launch} {d mc ms : Nat} {y : MethodName} {cc : ByteArray} {maxL : Nat} {ret : Option FieldType} {av : List Value} {M : Mm} {out : Option Value} {M' : Mm} (htr : l.stackTraces = false) (hy : plainName y.cls = true) (hav : (lg_sl av).length ≤ maxL)
    (body : ∀ K : Kx, K.2.1 = E → K.2.2.1 = maxL → K.1.l = l → K.1.R = rmD d mc ms → Cx K cc y.cls d → K.1.meth.sig.returnType = ret → Rv K mc ms out M' → G K (0, 0) 0 (lv_args 0 av) [] M) : CM E l d mc ms y cc maxL ret av M out M' := by
  refine Met.ofW (cc := cc) (maxL := maxL) (ret := ret) hy rfl ?_
  intro p e s m args below meth c s₁ B hml hv
  obtain ⟨rfl, hI, hsz, hP⟩ := hv
  have hts := atoms_spec (ws := Cond.code y cc maxL ret :: RQ) B.pre
  have hown : s.vm.findClass y.cls = some m.cls := findClass_of_methodNamed B.named
  have hl := lv_entry av (n := maxL) hav
  rw [lg_entry_eq]
  exact body ((p, l, e, rmD d mc ms, s, m, av.toArray, below, meth, c), E, maxL, MQ below (Qv E out M') av.toArray s mc ms (zA E)) rfl rfl rfl rfl
    ⟨B.exec, B.bytes, hml, hown, fun w hw => hts w (List.mem_cons_of_mem _ hw), B.notSynchronized, hI, hsz, Nat.le_refl _, Nat.le_refl _, htr⟩ B.returns (fun t h => h) s.heap [] _ hP va_S.rf hl
theorem CX.of {E : Ev} {l : Launch} {d mc ms : Nat} {y : MethodName} {cc : ByteArray} {maxL : Nat} {ret : Option FieldType} {av : List Value} {M : Mm} {o : Option (Option Value)} {M' : Mm} (htr : l.stackTraces = false) (hy : plainName y.cls = true) (hav : (lg_sl av).length ≤ maxL)
    (body : ∀ K : Kx, K.2.1 = E → K.2.2.1 = maxL → K.1.l = l → K.1.R = rmD d mc ms → Cx K cc y.cls d → K.1.meth.sig.returnType = ret → (∀ x ∈ K.1.c.exceptionTable.toList, False) → (∀ v, o = some v → Rv K mc ms v M') → (o = none → Xv K mc ms M') → G K (0, 0) 0 (lv_args 0 av) [] M) : CX E l d mc ms y cc maxL ret av M o M' := by
  refine vx_ofW (cc := cc) (maxL := maxL) (ret := ret) hy rfl ?_
  intro p e s m args below meth c s₁ B hml htab hv
  obtain ⟨rfl, hI, hsz, hP⟩ := hv
  have hts := atoms_spec (ws := Cond.code y cc maxL ret :: RQ) B.pre
  have hown : s.vm.findClass y.cls = some m.cls := findClass_of_methodNamed B.named
  have hl := lv_entry av (n := maxL) hav
  rw [lg_entry_eq]
  refine body ((p, l, e, rmD d mc ms, s, m, av.toArray, below, meth, c), E, maxL, vx_MQ below (QvX E o M') (XvX E o M') av.toArray s mc ms (zA E)) rfl rfl rfl rfl
    ⟨B.exec, B.bytes, hml, hown, fun w hw => hts w (List.mem_cons_of_mem _ hw), B.notSynchronized, hI, hsz, Nat.le_refl _, Nat.le_refl _, htr⟩ B.returns htab ?_ ?_ s.heap [] _ hP va_S.rf hl
  · intro v hov t ⟨oc, h1, h2, ⟨h3, h4, h5⟩, h6⟩
    exact ⟨oc, h1, h2, Or.inl ⟨⟨v, hov, h3, h4, h5⟩, h6⟩⟩
  · intro hov t ⟨oc, h1, h2, h3⟩
    refine ⟨oc, h1, h2, ?_⟩
    rcases h3 with ⟨h, -⟩ | ⟨qq, h4, Ec, ce, L, ⟨h5, h6, h7⟩, h8⟩
    · exact h.elim
    · exact Or.inr ⟨qq, h4, Ec, ce, L, ⟨hov, h5, h6, h7⟩, h8⟩
end
section
/-! THROWS: made here, passed on, caught. The class that is thrown calls its superclass's constructor by its entry 13 (the library's rows for such a throw want 7): nx_ctor, nx_throw go the same way as ctorThrowS, vx_throwS with that one entry. -/
def nxB : ByteArray := prog_20_method_4_code
def nxAt (own : String) (ic : Nat) : List Cond := Bundle.throwableAtoms ++ Bundle.throwableSAtoms ++ Bundle.passSAtoms nse "java/lang/RuntimeException" 13 nxB ++ Bundle.chainSAtoms "java/lang/RuntimeException" ["java/lang/Exception"] ++
  [.methodLink own ic (Bundle.initS nse), .instantiable nse 6, .castable nse nse, .selects nse Bundle.tFill0 Bundle.tFill0, .selects nse Bundle.tFill Bundle.tFill,
   .lays nse Bundle.tN "cause" "Ljava/lang/Throwable;", .lays nse Bundle.tN "stackTrace" Bundle.steD, .lays nse Bundle.tN "suppressedExceptions" Bundle.listD, .lays nse Bundle.tN "detailMessage" "Ljava/lang/String;",
   .isRef (.static Bundle.tN "UNASSIGNED_STACK" Bundle.steD), .isRef (.static Bundle.tN "SUPPRESSED_SENTINEL" Bundle.listD),
   .fieldLink Bundle.tN 198 Bundle.tN "backtrace" "Ljava/lang/Object;", .lays Bundle.tN Bundle.tN "backtrace" "Ljava/lang/Object;", .lays nse Bundle.tN "backtrace" "Ljava/lang/Object;"]
theorem nxB_0 : decode nxB 0 = .ok (.aload_n 0, 1) := by decide +kernel
theorem nxB_1 : decode nxB 1 = .ok (.aload_n 1, 1) := by decide +kernel
theorem nxB_2 : decode nxB 2 = .ok (.invokespecial 13, 3) := by decide +kernel
theorem nxB_5 : decode nxB 5 = .ok (.return_, 1) := by decide +kernel
theorem x_fit : Bundle.fit nse = true ∧ Bundle.fit "java/lang/RuntimeException" = true ∧ ∀ n ∈ ["java/lang/Exception"], Bundle.fit n = true := by decide +kernel
section NX
variable {p : Program} {l : Launch} {e : Env} {R : Room} {s : State} {m₀ : MethodId} {args : Array Value} {below : List Frame} {meth : Method} {c : Code} {W : State} {locs : List Loc} {cells slots : Nat}
set_option maxHeartbeats 1000000 in
theorem nx_ctor (X : Stand p l e R s m₀ args below meth c W locs cells slots) (hexec : p.tables.exec = Jvm.exec) (htr : e.platform.stackTraces = false) {own : String} {ic : Nat}
    (hown : s.vm.findClass own = some m₀.cls) (h : ∀ a ∈ nxAt own ic, a.before args s = true)
    (hlocs : ∀ x ∈ locs, ∀ cell, s.heap[x.base]? = some cell → cell.vm.isStatics = false)
    {a : Addr} {cX : ClassId} {kX : Class} (hfoundX : s.vm.findClass nse = some cX) (hkX : s.vm.classes[cX]? = some kX) (hcell : W.heap[a]? = some (freshCell cX kX)) (hnew : s.heap.size ≤ a)
    {msg : Value} (hmsg : msg.isRef = true)
    {g : JFrame} (hg : g.method = m₀) (hsize : g.locals.size = c.maxLocals) (hlocked : g.locked = none) (hentered : g.entered = []) {rest : List Value} (hstack : g.stack = msg :: .ref a :: .ref a :: rest)
    (hd6 : decode c.code g.pc = .ok (.invokespecial ic, 3)) (hd9 : decode c.code (g.pc + 3) = .ok (.athrow, 1)) (hout : ∀ x ∈ c.exceptionTable.toList, covers x (g.pc + 3) = false)
    (hRframes : 5 < R.frames) (hRlocals : 2 * g.monitorRoom + ((Value.ref a :: rest).map fun v => v.category).sum + 81 ≤ R.locals) (hlocks : meth.locks = false) :
    ∃ U : State, Steps p.tables e below (W.setTop g) U ∧ U.status = .running ∧ Ended U below (.threw a) ∧ s.WarmedH U.vm ∧ s.sameButNew ({ U with vm := s.vm } : State) locs cells slots ∧
      ∃ ce, U.heap[a]? = some ce ∧ ce.vm = .none ∧ s.vm.findClass nse = some ce.cls := by
  have howns : e.platform.frameOwnsMonitors = true := by rw [X.admits.platform]
  have hfin : e.platform.finalization = false := by rw [X.admits.platform]
  have hpl : e.platform.magicAccessors = ({} : Platform).magicAccessors := by rw [X.admits.platform]
  have a' : ∀ x, x ∈ nxAt own ic → x.holds args s none s [] = true := fun x hx => h x hx
  obtain ⟨T, Z0, L, -, Y⟩ := ThrowableC.of_atoms (args := args) howns hfin hpl (fun x hx => h x (by simp [nxAt, hx]))
  obtain ⟨Z, M, LZ, LM, hnZ⟩ := Init0T.ofS_atoms (args := args) hpl L Y (fun x hx => h x (by simp [nxAt, hx]))
  obtain ⟨P1, L1, hP1m, hs1⟩ := PassC.ofS_atoms (args := args) (s := s) hpl (X := nse) (Y := "java/lang/RuntimeException") (Bundle.fit_spec x_fit.1).1 (Bundle.fit_spec x_fit.2.1).2 nxB_0 nxB_1 nxB_2 nxB_5 (fun x hx => h x (by simp [nxAt, hx]))
  obtain ⟨P2, Ps2, hlen2, L2, hL2, hP2m, hlink2, hlink3⟩ := Bundle.chainS (args := args) hpl hnZ ["java/lang/Exception"] "java/lang/RuntimeException" x_fit.2.1 x_fit.2.2 (fun x hx => h x (by simp [nxAt, hx]))
  have hlink1 : P1.sup = firstOf (Z.m T.toThrowableT) ((P2 :: Ps2).map (·.toPassT)) := Option.some.inj (hs1.symm.trans hP2m)
  have hfound : s.vm.findClass nse = some P1.m.cls := findClass_of_methodNamed hP1m
  cases Option.some.inj (hfoundX.symm.trans hfound)
  obtain ⟨c1, kX', hc1, hk, hord, -, -, hn6⟩ := Cond.instantiable_spec (a' (.instantiable nse 6) (by simp [nxAt]))
  cases Option.some.inj (hc1.symm.trans hfound)
  cases Option.some.inj (hkX.symm.trans hk)
  have hsel0 : selectMethod e.platform s.vm P1.m.cls T.fill0 = .method T.fill0 := by
    obtain ⟨c2, r2, m2, q1, q2, q3, q4, -⟩ := Cond.selects_spec (a' (.selects nse Bundle.tFill0 Bundle.tFill0) (by simp [nxAt]))
    cases Option.some.inj (q1.symm.trans hfound)
    cases Option.some.inj (q2.symm.trans (State.methodFound?_of_named Y.fill0 (by decide)))
    cases Option.some.inj (q3.symm.trans Y.fill0)
    rw [Launch.admits_selectMethod X.admits]; exact q4
  have hselF : selectMethod e.platform s.vm P1.m.cls T.fill = .method T.fill := by
    obtain ⟨c2, r2, m2, q1, q2, q3, q4, -⟩ := Cond.selects_spec (a' (.selects nse Bundle.tFill Bundle.tFill) (by simp [nxAt]))
    cases Option.some.inj (q1.symm.trans hfound)
    cases Option.some.inj (q2.symm.trans (State.methodFound?_of_named Y.fill (by decide)))
    cases Option.some.inj (q3.symm.trans Y.fill)
    rw [Launch.admits_selectMethod X.admits]; exact q4
  obtain ⟨cellS0, hcS0, hiss⟩ := Y.statics
  obtain ⟨u0, hu0⟩ := Cond.staticRefV Y.unassigned L.unassignedStatic L.statics hcS0 hiss (a' (.isRef (.static Bundle.tN "UNASSIGNED_STACK" Bundle.steD)) (by simp [nxAt]))
  obtain ⟨sen, hsen⟩ := Cond.staticRefV Y.sentinel L.sentinelStatic L.statics hcS0 hiss (a' (.isRef (.static Bundle.tN "SUPPRESSED_SENTINEL" Bundle.listD)) (by simp [nxAt]))
  obtain ⟨ci198, i198, fB, hk198, hg198, ha198, hsB, -, hnB, htB, hffB⟩ := Cond.ownField (t := .object "java/lang/Object") Y.found L.cls (by decide +kernel) (a' (.fieldLink Bundle.tN 198 Bundle.tN "backtrace" "Ljava/lang/Object;") (by simp [nxAt])) (a' (.lays Bundle.tN Bundle.tN "backtrace" "Ljava/lang/Object;") (by simp [nxAt])) e.platform hpl
  obtain ⟨cellS, hcS', heS, -, hkeep⟩ := X.same.2.2.2.2.2 T.aS cellS0 hcS0
  have hcellS : W.heap[T.aS]? = some cellS := hcS'
  have hout' : ∀ i, (⟨T.aS, i⟩ : Loc) ∉ locs := fun i hmem => by
    have := hlocs _ hmem cellS0 hcS0
    rw [hiss] at this; cases this
  have hknownS : cellS.vm ≠ .unknown := by
    rw [heS]; intro hu
    rw [show cellS0.vm = .unknown from hu] at hiss
    cases hiss
  have hneS : T.aS ≠ a := Nat.ne_of_lt (Nat.lt_of_lt_of_le (Array.getElem?_eq_some_iff.mp hcS0).1 hnew)
  obtain ⟨iM, hffM⟩ := Y.msg
  obtain ⟨tyC, dC, hdC, hdnC⟩ := Cond.laysAt hfound hk Y.cause (a' (.lays nse Bundle.tN "cause" "Ljava/lang/Throwable;") (by simp [nxAt]))
  obtain ⟨tyS, dS, hdS, hdnS⟩ := Cond.laysAt hfound hk Y.stack (a' (.lays nse Bundle.tN "stackTrace" Bundle.steD) (by simp [nxAt]))
  obtain ⟨tyP, dP, hdP, hdnP⟩ := Cond.laysAt hfound hk Y.supp (a' (.lays nse Bundle.tN "suppressedExceptions" Bundle.listD) (by simp [nxAt]))
  obtain ⟨tyM, dM, hdM, hdnM⟩ := Cond.laysAt hfound hk hffM (a' (.lays nse Bundle.tN "detailMessage" "Ljava/lang/String;") (by simp [nxAt]))
  obtain ⟨tyB, dB, hdB, hdnB⟩ := Cond.laysAt hfound hk hffB (a' (.lays nse Bundle.tN "backtrace" "Ljava/lang/Object;") (by simp [nxAt]))
  have bC := Cond.laysApart hdB hdC hdnB hdnC (by rw [hnB, Y.causeName]; decide)
  have bS := Cond.laysApart hdB hdS hdnB hdnS (by rw [hnB, Y.stackName]; decide)
  have bP := Cond.laysApart hdB hdP hdnB hdnP (by rw [hnB, Y.suppName]; decide)
  have hskip : SkipFacts T e.platform s (fun u => u) u0 ((preparedCellV T.toThrowableT (freshCell P1.m.cls kX) a u0 sen).withEntry W.cur) :=
    ⟨{ ci198 := ci198, i198 := i198, fBack := fB }, ⟨hk198, hg198, ha198, hsB⟩, by
      have := fresh_default (c := P1.m.cls) tyB
      rw [htB] at this
      simpa [preparedCellV, Cell.setSlot, Cell.withEntry, Array.getElem?_setIfInBounds, bC, bS, bP, bC.symm, bS.symm, bP.symm, defaultValue] using this, fun _ _ => rfl⟩
  obtain ⟨tm, methC, cdC, kC, vm₁, hnC, -, -, -, -, -, -, -, hW₁, st1⟩ := Steps.initColdS (tb := p.tables) (e := e) (below := below) (s := s) (U := W) X.here hexec X.warmed hpl hown (t := Bundle.initS nse) rfl rfl (Bundle.fit_spec x_fit.1).2
    (a' (.methodLink own ic (Bundle.initS nse)) (by simp [nxAt])) (h (.instanceMethod (Bundle.initS nse)) (by simp [nxAt, Bundle.passSAtoms])) (bytes := nxB) (maxL := 2) (h (.code (Bundle.initS nse) nxB 2 none) (by simp [nxAt, Bundle.passSAtoms]))
    (f := g) hg (a := a) (msg := msg) (rest := .ref a :: rest) hstack hd6
  cases Option.some.inj (hnC.symm.trans hP1m)
  have X₁ := X.noted hW₁
  obtain ⟨vm₂, X₂, st2⟩ := X₁.ctorMessageOffV hexec (g := { g with stack := .ref a :: rest }) hg hsize T L Z LZ M LM (P1 :: P2 :: Ps2)
    (fun P hP => by
      rcases List.mem_cons.mp hP with rfl | hP
      · exact L1
      · rcases List.mem_cons.mp hP with rfl | hP
        · exact L2
        · exact hL2 P hP) ⟨hlink1, hlink2, hlink3⟩ (u0 := u0) (sen := sen) (self := a) hmsg (cell := freshCell P1.m.cls kX) (cellS := cellS)
    hcell (fun _ => by simp) (by simp) rfl rfl hsel0 hselF hcellS hneS hknownS (by rw [hkeep _ (hout' _)]; exact hu0) (by rw [hkeep _ (hout' _)]; exact hsen)
    (Takes.of_laid hk hord tyC (by rw [Y.causeType]; rfl)) (Takes.of_laid hk hord tyS (by rw [Y.stackType]; exact fits_refV_array _ u0)) (Takes.of_laid hk hord tyP (by rw [Y.suppType]; exact fits_refV_object _ sen))
    (Takes.of_laid hk hord tyM (by rw [Y.msgType]; exact fits_refV_object _ ⟨msg, hmsg⟩)) Y.objLocals hskip htr [] hd6
    (by simp only [List.length_cons, hlen2]; simp; omega) (by simp only [List.length_cons, hlen2]; simp at hRlocals ⊢; omega)
  obtain ⟨hwalk, hrun, hended, hWU, hsame⟩ := X₂.athrowLeaves hexec (g := { g with stack := .ref a :: rest, pc := g.pc + 3 }) hg hlocked hentered hout (a := a) (rest := rest) rfl hd9
  have hlt : a < ((W.setVm vm₁).setVm vm₂).heap.size := (Array.getElem?_eq_some_iff.mp hcell).1
  have hU := heapAt_setCell_self (s := (W.setVm vm₁).setVm vm₂) (plainBareV T.toThrowableT (freshCell P1.m.cls kX) a u0 sen msg) hlt
  refine ⟨_, st1 _ (fun acts => ?_), hrun, hended, hWU, hsame.weaken (fun y hy hlt' => ?_) (Nat.le_refl _) (Nat.le_refl _), _, hU, rfl, hfound⟩
  · rw [doInvoke_state]
    exact st2 _ hwalk
  · rcases List.mem_append.mp hy with h1 | h1
    · exact h1
    · exfalso
      have hb : y.base = a := by
        simp only [List.mem_cons, List.not_mem_nil, or_false] at h1
        rcases h1 with rfl | rfl | rfl | rfl | rfl <;> rfl
      rw [hb] at hlt'
      exact Nat.not_lt.mpr hnew hlt'
end NX
def nxS (own : String) (ic : Nat) : List Cond := (nxAt own ic).filter vx_no
section NXT
variable {p : Program} {l : Launch} {e : Env} {R : Room} {s : State} {m : MethodId} {args : Array Value} {below : List Frame} {meth : Method} {c : Code} {H : Heap} {locs : List Loc} {cells slots mc ms : Nat} {ls : Array Slot} {rest : List Value} {free : Addr → Prop}
variable {Qc : Array Value → State → Outcome → State → Prop} {XC : String → State → State → Prop}
theorem nx_throw {cc : ByteArray} {pc : Nat} (hexec : p.tables.exec = Jvm.exec) (hb : c.code = cc) (hl : l.stackTraces = false) {own text : String} {ik is ic sa : Nat} {A : Nat → Prop}
    (hown : s.vm.findClass own = some m.cls)
    (hk : (Cond.classLink own ik nse).before args s = true) (hini : (Cond.initialized nse).before args s = true) (hstr : vk_R own is text sa s) (hat : ∀ w ∈ nxS own ic, w.before args s = true)
    (hgood : ∀ w ∈ Cond.classLink own ik nse :: Cond.initialized nse :: nxS own ic, vx_ot w = true)
    (hU : vx_Zq Bundle.tN "UNASSIGNED_STACK" Bundle.steD A s s.heap) (hN : vx_Zq Bundle.tN "SUPPRESSED_SENTINEL" Bundle.listD A s s.heap) (hS : va_S A s.heap H locs) (hsize : ls.size = c.maxLocals)
    (d0 : decode cc pc = .ok (.new ik, 3)) (d3 : decode cc (pc + 3) = .ok (.dup, 1)) (d4 : decode cc (pc + 3 + 1) = .ok (.ldc is, 2)) (d6 : decode cc (pc + 3 + 1 + 2) = .ok (.invokespecial ic, 3)) (d9 : decode cc (pc + 3 + 1 + 2 + 3) = .ok (.athrow, 1))
    (hout : ∀ x ∈ c.exceptionTable.toList, False)
    (hRframes : 5 < R.frames) (hRlocals : (rest.map fun v => v.category).sum + 82 ≤ R.locals) (hRcells : cells + 1 ≤ R.cells) (hRslots : slots + 6 ≤ R.slots) (hlocks : meth.locks = false)
    (hx : ∀ t : State, s.vm.Alike t.vm → H.size ≤ t.heap.size → (∀ q : Nat, q < H.size → t.heap[q]? = H[q]?) → XC nse s t)
    (hf : ∀ z ∈ locs, free z.base) (hc : cells + 1 ≤ mc) (hs : slots + 6 ≤ ms) :
    W p l e R s m args below meth c H locs cells slots (vx_MQ below Qc XC args s mc ms free) (F0 m pc ls rest) := by
  intro T hT X
  have htr : e.platform.stackTraces = false := (show e.platform.stackTraces = l.stackTraces by rw [X.admits.platform]).trans hl
  have Y := vx_rebase X (R' := { frames := R.frames, locals := R.locals, cells := 1, slots := 6 }) (Nat.le_refl _) (Nat.le_refl _) hRcells hRslots
  obtain ⟨s', hA⟩ : ∃ z, z = (T.setVm s.vm).setFrames (.invoking m args :: below) := ⟨_, rfl⟩
  rw [← hA] at Y
  have hvm : s'.vm = s.vm := by rw [hA]; rfl
  have hhp : s'.heap = H := by rw [hA]; exact hT
  have hW0 : s.WarmedH s'.vm := by rw [hvm]; exact State.WarmedH.refl s
  have hat' : ∀ w ∈ nxS own ic, w.before args s' = true := fun w hw => vx_ot_at hW0 hvm.symm (hgood w (List.mem_cons_of_mem _ (List.mem_cons_of_mem _ hw))) (hat w hw)
  have hk' : (Cond.classLink own ik nse).before args s' = true := vx_ot_at hW0 hvm.symm (hgood _ List.mem_cons_self) hk
  have hini' : (Cond.initialized nse).before args s' = true := vx_ot_at hW0 hvm.symm (hgood _ (List.mem_cons_of_mem _ List.mem_cons_self)) hini
  have hU' : vx_Zq Bundle.tN "UNASSIGNED_STACK" Bundle.steD A s' s'.heap := by rw [hhp]; exact vx_Zq.moved hW0.alike (hU.kept hS.2.1)
  have hN' : vx_Zq Bundle.tN "SUPPRESSED_SENTINEL" Bundle.listD A s' s'.heap := by rw [hhp]; exact vx_Zq.moved hW0.alike (hN.kept hS.2.1)
  have h : ∀ w ∈ nxAt own ic, w.before args s' = true := vx_own hat' (vx_isRefq hU'.1) (vx_isRefq hN'.1) hU'.2.word hN'.2.word
  have hown' : s'.vm.findClass own = some m.cls := by rw [hvm]; exact hown
  have hins : (Cond.instantiable nse 6).before args s' = true := h _ (by simp [nxAt])
  obtain ⟨vm₁, cX, kX, hfX, hkX, -, -, X₁, st1⟩ := Y.newCold hexec (own := own) (C := nse) (index := ik) (n := 6) hown' hk' hins hini'
    (g := F0 m pc ls rest) rfl (by rw [hb]; exact d0) (Nat.le_refl _) (Nat.le_refl _)
  generalize hT1 : (T.setVm vm₁).pushCell { cls := cX, slots := kX.instanceTypes.map defaultValue, vm := .none } = T1 at X₁ st1
  have hcat : (Value.ref T.heap.size).category = 1 := rfl
  have hcellA : T1.heap[T.heap.size]? = some (freshCell cX kX) := by rw [← hT1]; exact State.heap_pushCell_size _ _
  have d3' : decode c.code (pc + 3) = .ok (.dup, 1) := by rw [hb]; exact d3
  have d4' : decode c.code (pc + 4) = .ok (.ldc is, 2) := by rw [hb]; exact d4
  have hstr' : vk_R own is text sa s' := vk_R.warm hW0 hstr
  obtain ⟨U, hsteps, hrun, hend, hW, hsame, ce, hce, hO, hO2⟩ := nx_ctor X₁ hexec htr (own := own) (ic := ic) hown' h (fun x hx => nomatch hx) hfX hkX hcellA (by rw [hhp, hT]; exact Nat.le_refl _) (msg := .ref sa) rfl
    (g := { method := m, pc := pc + 6, locals := ls, stack := .ref sa :: .ref T.heap.size :: .ref T.heap.size :: rest, locked := none }) rfl hsize rfl rfl (rest := rest) rfl
    (by rw [hb]; exact d6) (by rw [hb]; exact d9) (fun x hx => (hout x hx).elim) hRframes (by simp only [List.map_cons, List.sum_cons, hcat]; show 2 * 0 + _ + _ ≤ _; omega) hlocks
  obtain ⟨f1, f2⟩ := vx_frame hsame
  rw [hhp] at f1 f2
  have hWs : s.WarmedH U.vm := State.WarmedH.trans hW0 hW
  have hcl : s.vm.findClass nse = some ce.cls := by
    rw [hvm] at hO2
    exact hO2
  have hall : s.sameButNew ({ U with vm := s.vm } : State) locs mc ms := by
    subst hA
    obtain ⟨e1, e2⟩ := hsame
    rw [State.setFrames_setFrames] at e1
    have h2 : (T.setVm s.vm).sameButNew ({ U with vm := s.vm } : State) [] (0 + 1) (0 + 6) := ⟨e1, e2⟩
    have h3 := X.same.trans h2
    rw [List.append_nil] at h3
    exact h3.mono hc hs
  refine ⟨U, ?_, .threw T.heap.size, hrun, hend, Or.inr ⟨T.heap.size, rfl, nse, ce, locs, hx U hWs.alike f1 (fun q hq => f2 q hq (fun z hz => nomatch hz)), hce, hO, hcl, hWs, hall, hf⟩⟩
  refine st1 _ ?_
  show Steps p.tables e below (T1.setTop { method := m, pc := pc + 3, locals := ls, stack := .ref T.heap.size :: rest, locked := none }) _
  jvm_step X₁.here [X₁.here.top, hexec, d3', Value.category]
  exact X₁.ldcString hexec (own := own) (text := text) (index := is) (a := sa) hown' hstr'.1 hstr'.2
    (g := { method := m, pc := pc + 4, locals := ls, stack := .ref T.heap.size :: .ref T.heap.size :: rest, locked := none }) rfl d4' _ hsteps
end NXT
set_option maxRecDepth 100000 in
theorem x_good : ∀ w ∈ (nxS "GroundPlan" 113).filter goodWord, w ∈ lw_tbl := by decide +kernel
set_option maxRecDepth 100000 in
theorem x_hard : ∀ w ∈ (nxS "GroundPlan" 113).filter (fun w => !goodWord w), w ∈ lw_tbl ∧ hardW w = true := by decide +kernel
set_option maxRecDepth 100000 in
theorem x_ot : ∀ w ∈ Cond.classLink "GroundPlan" 109 nse :: Cond.initialized nse :: nxS "GroundPlan" 113, vx_ot w = true := by decide +kernel
theorem x_link : Cond.classLink "GroundPlan" 109 nse ∈ lw_tbl ∧ Cond.initialized nse ∈ lw_tbl := by decide +kernel
section GThrow
variable {K : Kx} {cc : ByteArray} {own : String} {d mc ms : Nat} {cs : Nat × Nat} {pc len q tgt : Nat} {lv : List (Nat × Value)} {rest : List Value} {M : Mm}
theorem x_rq {w : Cond} (h : w ∈ lw_tbl) (g : goodWord w = true) : w ∈ RQ := List.mem_filter.mpr ⟨h, g⟩
theorem g_throw {is q1 q2 q3 q4 q5 t1 t2 t3 t4 t5 : Nat} {text : String} (C : Cx K cc "GroundPlan" d) (d0 : dC cc pc (.new 109) 3 q1 t1) (d1 : dC cc q1 .dup 1 q2 t2) (d2 : dC cc q2 (.ldc is) 2 q3 t3) (d3 : dC cc q3 (.invokespecial 113) 3 q4 t4) (d4 : dC cc q4 .athrow 1 q5 t5)
    (hs : (is, text) ∈ SS) (hT : ∀ x ∈ K.1.c.exceptionTable.toList, False) (hX : Xv K mc ms M) (h6 : 6 ≤ d) (hr : (rest.map fun v => v.category).sum ≤ 20) (hc : cs.1 + 1 ≤ mc ∧ cs.2 + 6 ≤ ms) (hR : mc ≤ K.1.R.cells ∧ ms ≤ K.1.R.slots) : G K cs pc lv rest M := by
  obtain ⟨a0, rfl, -⟩ := d0
  obtain ⟨a1, rfl, -⟩ := d1
  obtain ⟨a2, rfl, -⟩ := d2
  obtain ⟨a3, rfl, -⟩ := d3
  obtain ⟨a4, rfl, -⟩ := d4
  have hfr := C.fr; have hlo := C.lo
  obtain ⟨sa, hsa⟩ := C.iv.2.2.2.2.2.2.2 _ hs
  have hat : ∀ w ∈ nxS "GroundPlan" 113, w.before K.1.args K.1.s = true := by
    intro w hw
    by_cases g : goodWord w = true
    · exact C.rq _ (x_rq (x_good w (List.mem_filter.mpr ⟨hw, g⟩)) g)
    · obtain ⟨h1, h2⟩ := x_hard w (List.mem_filter.mpr ⟨hw, by simpa using g⟩)
      exact va_Nw.use (hard_tab h2) (C.iv.2.1 w (List.mem_filter.mpr ⟨h1, h2⟩))
  intro H locs ls hP hS hl
  have hA : 5 < K.1.R.frames := by omega
  have hB : (rest.map fun v => v.category).sum + 82 ≤ K.1.R.locals := by omega
  refine W_mono hX (nx_throw (Qc := fun _ _ _ _ => False) (XC := Xq K.2.1 M) (text := text) (sa := sa) C.ex C.by C.tr C.ow (C.rq _ (x_rq x_link.1 rfl)) (C.rq _ (x_rq x_link.2 rfl)) hsa hat x_ot C.iv.2.2.2.2.2.1 C.iv.2.2.2.2.2.2.1 hS (hl.1.trans C.ml.symm)
    a0 a1 a2 a3 a4 hT hA hB (by omega) (by omega) C.lk ?_ hS.2.2 hc.1 hc.2)
  intro t hal hz hk
  refine ⟨rfl, hP.kept (fun k z hz2 => hk _ (hP k z hz2).lt), ⟨Nat.le_trans hS.1 hz, fun z h1 h2 => ?_⟩⟩
  rw [hk z (Nat.lt_of_lt_of_le h1 hS.1)]
  exact hS.2.1 z h1 h2
theorem g_finX {H : Heap} {locs : List Loc} {mc' ms' : Nat} {o : Option (Option Value)} {M' : Mm} {av : Array Value} {ls : Array Slot} {st : List Value} (C : Cx K cc own d)
    (hr : vx_Run K.1.p K.1.l K.1.e K.1.R K.1.s K.1.m K.1.args K.1.below K.1.meth K.1.c H locs cs.1 cs.2 mc' ms' (F0 K.1.m pc ls st) rest (QvX K.2.1 o M' av) (XvX K.2.1 o M') (zA K.2.1)) (hS : va_S (zA K.2.1) K.1.s.heap H locs) (hl : lv_has ls K.2.2.1 lv)
    (hT : ∀ x ∈ K.1.c.exceptionTable.toList, False) (hX : o = none → Xv K mc ms M') (hc : cs.1 + mc' ≤ mc ∧ cs.2 + ms' ≤ ms)
    (h : ∀ v, o = some v → G K (cs.1 + mc', cs.2 + ms') (pc + 3) lv (v.toList ++ rest) M') : W0 K H locs cs (F0 K.1.m pc ls st) := by
  intro T hT2 X
  rcases hr T hT2 X with ⟨v, st₀, t, T', L, h0, X', hL, e1, e2, ⟨w, hov, hv, hP1, hz, hk⟩, hst⟩ | ⟨qq, st₀, t, T', L, Ec, ce, h0, X', hL, e1, e2, ⟨hov, rfl, hP1, hz, hk⟩, hce, hcv, hcl, hst⟩
  · cases hv
    rw [h0] at hz hk
    have hS1 : va_S (zA K.2.1) K.1.s.heap T'.heap (locs ++ L) := ⟨Nat.le_trans hS.1 (by rw [e1]; exact hz), fun z h1 h2 => by rw [e1, hk z (Nat.lt_of_lt_of_le h1 hS.1) h2]; exact hS.2.1 z h1 h2, fun z hz => by
      rcases List.mem_append.mp hz with h | h
      · exact hS.2.2 z h
      · exact hL z h⟩
    obtain ⟨t2, a1, b1⟩ := h _ hov T'.heap (locs ++ L) ls (by rw [e1]; exact hP1) hS1 hl T' rfl X'
    exact ⟨t2, hst t2 a1, b1⟩
  · rw [h0] at hz hk
    have hS1 : va_S (zA K.2.1) K.1.s.heap T'.heap (locs ++ L) := ⟨Nat.le_trans hS.1 (by rw [e1]; exact hz), fun z h1 h2 => by rw [e1, hk z (Nat.lt_of_lt_of_le h1 hS.1) h2]; exact hS.2.1 z h1 h2, fun z hz => by
      rcases List.mem_append.mp hz with h | h
      · exact hS.2.2 z h
      · exact hL z h⟩
    have hP2 : va_P (zD K.2.1) vwCl (WD K.2.1 M') T'.heap := by rw [e1]; exact hP1
    have key := vxW_mono (hX hov) (vx_out (Qc := fun _ _ _ _ => False) (XC := Xq K.2.1 M') (pc := pc) (ls := ls) (rest := rest) (E := nse) (ce := ce) (q := qq) (H := T'.heap) (locs := locs ++ L) (cells := cs.1 + mc') (slots := cs.2 + ms') (mc := mc) (ms := ms) (p := K.1.p) (l := K.1.l) (e := K.1.e) (R := K.1.R) (m := K.1.m) (args := K.1.args) (below := K.1.below)
      (fun x hx => (hT x hx).elim) C.lk (by rw [e1]; exact hce) hcv hcl (fun t2 ht2 _ => ⟨rfl, by rw [ht2]; exact hP2, hS1.F ht2⟩) hS1.2.2 hc.1 hc.2)
    obtain ⟨t2, a1, b1⟩ := key T' rfl X'
    exact ⟨t2, hst.trans a1, b1⟩
end GThrow
section GCallX
variable {K : Kx} {cc : ByteArray} {own : String} {d mc ms : Nat} {cs : Nat × Nat} {pc len q tgt : Nat} {lv : List (Nat × Value)} {st : List Value} {M M' : Mm} {y : MethodName} {bytes : ByteArray} {maxL n d' mc' ms' ix : Nat} {ret : Option FieldType} {o : Option (Option Value)}
theorem g_cVX {k ci : Nat} {z : List (Nat × Nat)} (As rest : List Value) (C : Cx K cc own d) (hd : dC cc pc (.invokevirtual ix) 3 q tgt) (hV : VK own ix ci y bytes maxL ret n) (hM : CX K.2.1 K.1.l d' mc' ms' y bytes maxL ret (.ref (K.2.1.1 + k) :: As) M o M') (hk : LT[k]? = some (4, ci, z))
    (hst : st = As.reverse ++ .ref (K.2.1.1 + k) :: rest) (hn : As.length = n) (hW : (rest.map fun v => v.category).sum ≤ 8) (hdd : d' < d) (hc : cs.1 + mc' ≤ mc ∧ cs.2 + ms' ≤ ms) (hR : mc ≤ K.1.R.cells ∧ ms ≤ K.1.R.slots)
    (hT : ∀ x ∈ K.1.c.exceptionTable.toList, False) (hX : o = none → Xv K mc ms M')
    (h : ∀ v, o = some v → G K (cs.1 + mc', cs.2 + ms') q lv (v.toList ++ rest) M') : G K cs pc lv st M := by
  obtain ⟨e1, rfl, -⟩ := hd
  obtain ⟨Cn, T, N, v1, v2, v3, v4, v5, v6, v7, v8, v9, v10⟩ := hV
  have hfr := C.fr; have hlo := C.lo
  intro H locs ls hP hS hl
  refine g_finX C (vx_runV (C := Cn) (As := As) (rest := rest) (b := K.2.1.1 + k) (n := n) ⟨C.ex, C.by, C.ml, C.ow, C.rq⟩ hM (cwV n C.rq (RQ_gi v3 v4 v5 v6 v7 (fun _ h => h)) rfl rfl rfl ⟨v2, v8.1, v8.2, v9⟩ ⟨?_, ?_⟩) ⟨Pv.blind, ?_, g_pre C hP hS⟩ rfl hn hl.1 hst (by simpa using hW) e1 ⟨Nat.le_trans hc.1 hR.1, Nat.le_trans hc.2 hR.2⟩) hS hl hT hX hc h
  · show d' + 1 ≤ K.1.R.frames
    omega
  · show 8 + (maxL + 11) + (64 * d' + 100) ≤ K.1.R.locals
    omega
  · exact va_recv C.iv.1 hP v1 (WD_get hk)
theorem g_cSX (As rest : List Value) (C : Cx K cc own d) (hd : dC cc pc (.invokestatic ix) 3 q tgt) (hV : SK own ix y bytes maxL ret n) (hM : CX K.2.1 K.1.l d' mc' ms' y bytes maxL ret As M o M')
    (hst : st = As.reverse ++ rest) (hn : As.length = n) (hW : (rest.map fun v => v.category).sum ≤ 8) (hdd : d' < d) (hc : cs.1 + mc' ≤ mc ∧ cs.2 + ms' ≤ ms) (hR : mc ≤ K.1.R.cells ∧ ms ≤ K.1.R.slots)
    (hT : ∀ x ∈ K.1.c.exceptionTable.toList, False) (hX : o = none → Xv K mc ms M')
    (h : ∀ v, o = some v → G K (cs.1 + mc', cs.2 + ms') q lv (v.toList ++ rest) M') : G K cs pc lv st M := by
  obtain ⟨e1, rfl, -⟩ := hd
  obtain ⟨v3, v4, v6, v7, v8, v9, v10⟩ := hV
  have hfr := C.fr; have hlo := C.lo
  intro H locs ls hP hS hl
  refine g_finX C (vx_runS (As := As) (rest := rest) (n := n) ⟨C.ex, C.by, C.ml, C.ow, C.rq⟩ hM (va_cwS n C.rq (RQ_gi3 v3 v4 v6 v7 (fun _ h => h)) rfl rfl rfl ⟨v8.1, v8.2, v9⟩ ⟨?_, ?_⟩) ⟨Pv.blind, g_pre C hP hS⟩ rfl hn hl.1 hst (by simpa using hW) e1 ⟨Nat.le_trans hc.1 hR.1, Nat.le_trans hc.2 hR.2⟩) hS hl hT hX hc h
  · show d' + 1 ≤ K.1.R.frames
    omega
  · show 8 + (maxL + 11) + (64 * d' + 100) ≤ K.1.R.locals
    omega
end GCallX
end
section
/-! THE METHODS AS FUNCTIONS: words of which they are made -/
def FU : Nat := 1000000000000
def rdI {α : Type} (n : Nat) (M : Mm) (k : Nat) (i : Int32) (f : Int32 → Option α) : Option α := if ¬ (i < 0 ∨ n ≤ i.toNatClampNeg) then f (M.1 k i.toNatClampNeg) else none
def rdL {α : Type} (n : Nat) (M : Mm) (k : Nat) (i : Int32) (f : Int64 → Option α) : Option α := if ¬ (i < 0 ∨ n ≤ i.toNatClampNeg) then f (M.2 k i.toNatClampNeg) else none
def wrI {α : Type} (n : Nat) (M : Mm) (k : Nat) (i : Int32) (v : Int32) (f : Mm → Option α) : Option α := if ¬ (i < 0 ∨ n ≤ i.toNatClampNeg) then f (wi M k i.toNatClampNeg v) else none
def wrL {α : Type} (n : Nat) (M : Mm) (k : Nat) (i : Int32) (v : Int64) (f : Mm → Option α) : Option α := if ¬ (i < 0 ∨ n ≤ i.toNatClampNeg) then f (wl M k i.toNatClampNeg v) else none
def rdS {α : Type} (L : List Int64) (i : Int32) (f : Int64 → Option α) : Option α := if ¬ (i < 0 ∨ L.length ≤ i.toNatClampNeg) then f (L.getD i.toNatClampNeg 0) else none
def gd {α : Type} (b : Bool) (x : Option α) : Option α := if b = true then x else none
def lt1 {α β : Type} (x : α) (f : α → β) : β := f x
def jn {α β γ : Type} (f : α → β) (g : (α → β) → γ) : γ := g f
def loop {V X : Type} (step : V → Option (V ⊕ X)) : Nat → V → Option X
  | 0, _ => none
  | n + 1, v => match step v with
    | none => none
    | some (.inl w) => loop step n w
    | some (.inr x) => some x
abbrev FA1 : List Int64 := [1, 1, 2, 6, 24, 120, 720, 5040, 40320, 362880, 3628800, 39916800, 479001600]
abbrev FA2 : List Int64 := [0, 1, 2, 6, 22, 90, 394, 1806, 8558, 41586, 206098]
abbrev FA3 : List Int64 := [0, 1, 2, 5, 14, 42, 132, 429, 1430, 4862, 16796]
theorem rdI_e {α : Type} {n : Nat} {M : Mm} {k : Nat} {i : Int32} {f : Int32 → Option α} {r : α} (h : rdI n M k i f = some r) : ∃ v, vp_in i n ∧ M.1 k i.toNatClampNeg = v ∧ f v = some r := by
  unfold rdI at h
  split at h
  · rename_i c
    exact ⟨_, c, rfl, h⟩
  · cases h
theorem rdL_e {α : Type} {n : Nat} {M : Mm} {k : Nat} {i : Int32} {f : Int64 → Option α} {r : α} (h : rdL n M k i f = some r) : ∃ v, vp_in i n ∧ M.2 k i.toNatClampNeg = v ∧ f v = some r := by
  unfold rdL at h
  split at h
  · rename_i c
    exact ⟨_, c, rfl, h⟩
  · cases h
theorem wrI_e {α : Type} {n : Nat} {M : Mm} {k : Nat} {i v : Int32} {f : Mm → Option α} {r : α} (h : wrI n M k i v f = some r) : ∃ M', vp_in i n ∧ wi M k i.toNatClampNeg v = M' ∧ f M' = some r := by
  unfold wrI at h
  split at h
  · rename_i c
    exact ⟨_, c, rfl, h⟩
  · cases h
theorem wrL_e {α : Type} {n : Nat} {M : Mm} {k : Nat} {i : Int32} {v : Int64} {f : Mm → Option α} {r : α} (h : wrL n M k i v f = some r) : ∃ M', vp_in i n ∧ wl M k i.toNatClampNeg v = M' ∧ f M' = some r := by
  unfold wrL at h
  split at h
  · rename_i c
    exact ⟨_, c, rfl, h⟩
  · cases h
theorem rdS_e {α : Type} {L : List Int64} {i : Int32} {f : Int64 → Option α} {r : α} (h : rdS L i f = some r) : ∃ v, vp_in i L.length ∧ Value.long (L.getD i.toNatClampNeg 0) = .long v ∧ f v = some r := by
  unfold rdS at h
  split at h
  · rename_i c
    exact ⟨_, c, rfl, h⟩
  · cases h
theorem gd_e {α : Type} {b : Bool} {x : Option α} {r : α} (h : gd b x = some r) : b = true ∧ x = some r := by
  unfold gd at h
  split at h
  · rename_i c
    exact ⟨c, h⟩
  · cases h
theorem lt_e {α β : Type} {x : α} {f : α → β} {r : β} (h : lt1 x f = r) : ∃ v, x = v ∧ f v = r := ⟨x, rfl, h⟩
theorem bd_e {α β : Type} {x : Option α} {f : α → Option β} {r : β} (h : x.bind f = some r) : ∃ y, x = some y ∧ f y = some r := by
  cases x with
  | none => cases h
  | some y => exact ⟨y, rfl, h⟩
theorem if_t {α : Sort _} {c : Prop} {d : Decidable c} {a b r : α} (h : (if c then a else b) = r) (hc : c) : a = r := by rw [if_pos hc] at h; exact h
theorem if_f {α : Sort _} {c : Prop} {d : Decidable c} {a b r : α} (h : (if c then a else b) = r) (hc : ¬ c) : b = r := by rw [if_neg hc] at h; exact h
theorem jn_e {α β γ : Type} {f : α → β} {g : (α → β) → γ} {r : γ} {s : β} {P : α → Prop} {Q : Prop} (h : jn f g = r) (h1 : ∀ a, f a = s → P a) (h2 : ∀ k, (∀ a, k a = s → P a) → g k = r → Q) : Q := h2 f h1 h
theorem loop_e {V X : Type} {step : V → Option (V ⊕ X)} {x : X} {P : V → Prop} (hs : ∀ v r, step v = some r → (∀ w, r = .inl w → P w) → (∀ z, r = .inr z → z = x) → P v) : ∀ n v, loop step n v = some x → P v := by
  intro n
  induction n with
  | zero => intro v h; cases h
  | succ n ih =>
    intro v h
    cases e : step v with
    | none => simp [loop, e] at h
    | some r =>
      refine hs v r e (fun w hw => ?_) (fun z hz => ?_)
      · subst hw
        simp only [loop, e] at h
        exact ih w h
      · subst hz
        simp only [loop, e] at h
        cases h
        rfl
section GNames
variable {K : Kx} {cc : ByteArray} {own : String} {d : Nat} {cs : Nat × Nat} {pc len q tgt : Nat} {lv : List (Nat × Value)} {rest : List Value} {M : Mm}
theorem topI {x y : Int32} (h : x = y) (k : G K cs pc lv (.int y :: rest) M) : G K cs pc lv (.int x :: rest) M := by rw [h]; exact k
theorem topL {x y : Int64} (h : x = y) (k : G K cs pc lv (.long y :: rest) M) : G K cs pc lv (.long x :: rest) M := by rw [h]; exact k
theorem memI {M' : Mm} {st : List Value} (h : M = M') (k : G K cs pc lv st M') : G K cs pc lv st M := by rw [h]; exact k
theorem n_iald {k n : Nat} {z : List (Nat × Nat)} {i v : Int32} (C : Cx K cc own d) (hd : dC cc pc .iaload 1 q tgt) (hk : LT[k]? = some (0, n, z)) (hin : vp_in i n) (hv : M.1 k i.toNatClampNeg = v)
    (h : G K cs q lv (.int v :: rest) M) : G K cs pc lv (.int i :: .ref (K.2.1.1 + k) :: rest) M := g_iald C hd hk hin (by rw [hv]; exact h)
theorem n_zald {k n : Nat} {z : List (Nat × Nat)} {i v : Int32} (C : Cx K cc own d) (hd : dC cc pc .baload 1 q tgt) (hk : LT[k]? = some (2, n, z)) (hin : vp_in i n) (hv : M.1 k i.toNatClampNeg = v)
    (h : G K cs q lv (.int v :: rest) M) : G K cs pc lv (.int i :: .ref (K.2.1.1 + k) :: rest) M := g_zald C hd hk hin (by rw [hv]; exact h)
theorem n_lald {k n : Nat} {z : List (Nat × Nat)} {i : Int32} {v : Int64} (C : Cx K cc own d) (hd : dC cc pc .laload 1 q tgt) (hk : LT[k]? = some (1, n, z)) (hin : vp_in i n) (hv : M.2 k i.toNatClampNeg = v)
    (h : G K cs q lv (.long v :: rest) M) : G K cs pc lv (.int i :: .ref (K.2.1.1 + k) :: rest) M := g_lald C hd hk hin (by rw [hv]; exact h)
theorem n_iast {k n : Nat} {z : List (Nat × Nat)} {i x : Int32} {M' : Mm} (C : Cx K cc own d) (hd : dC cc pc .iastore 1 q tgt) (hk : LT[k]? = some (0, n, z)) (hin : vp_in i n) (hv : wi M k i.toNatClampNeg x = M')
    (h : G K cs q lv rest M') : G K cs pc lv (.int x :: .int i :: .ref (K.2.1.1 + k) :: rest) M := g_iast C hd hk hin (by rw [hv]; exact h)
theorem n_zast {k n : Nat} {z : List (Nat × Nat)} {i x : Int32} {M' : Mm} (C : Cx K cc own d) (hd : dC cc pc .bastore 1 q tgt) (hk : LT[k]? = some (2, n, z)) (hin : vp_in i n) (hv : wi M k i.toNatClampNeg (vp_nar .boolean x) = M')
    (h : G K cs q lv rest M') : G K cs pc lv (.int x :: .int i :: .ref (K.2.1.1 + k) :: rest) M := g_zast C hd hk hin (by rw [hv]; exact h)
theorem n_last {k n : Nat} {z : List (Nat × Nat)} {i : Int32} {x : Int64} {M' : Mm} (C : Cx K cc own d) (hd : dC cc pc .lastore 1 q tgt) (hk : LT[k]? = some (1, n, z)) (hin : vp_in i n) (hv : wl M k i.toNatClampNeg x = M')
    (h : G K cs q lv rest M') : G K cs pc lv (.long x :: .int i :: .ref (K.2.1.1 + k) :: rest) M := g_last C hd hk hin (by rw [hv]; exact h)
end GNames
section GC2
variable {K : Kx} {cc : ByteArray} {own : String} {d : Nat} {cs : Nat × Nat} {pc len q tgt : Nat} {lv : List (Nat × Value)} {st : List Value} {M M' : Mm} {y : MethodName} {bytes : ByteArray} {maxL n d' ix : Nat} {ret : Option FieldType}
theorem n_cV {k ci : Nat} {z : List (Nat × Nat)} {out : Option Value} {st' : List Value} (As rest : List Value) (C : Cx K cc own d) (hd : dC cc pc (.invokevirtual ix) 3 q tgt) (hV : VK own ix ci y bytes maxL ret n) (hM : CM K.2.1 K.1.l d' 0 0 y bytes maxL ret (.ref (K.2.1.1 + k) :: As) M out M') (hk : LT[k]? = some (4, ci, z))
    (hst : st = As.reverse ++ .ref (K.2.1.1 + k) :: rest) (hn : As.length = n) (hW : (rest.map fun v => v.category).sum ≤ 8) (hdd : d' < d) (hc : cs.1 ≤ K.1.R.cells ∧ cs.2 ≤ K.1.R.slots) (ho : st' = out.toList ++ rest)
    (h : G K cs q lv st' M') : G K cs pc lv st M := g_cV As rest C hd hV hM hk hst hn hW hdd hc (ho ▸ h)
theorem n_cU {x : MethodName} {k ci : Nat} {z : List (Nat × Nat)} {out : Option Value} {st' : List Value} (As rest : List Value) (C : Cx K cc own d) (hd : dC cc pc (.invokevirtual ix) 3 q tgt) (hV : UK own ix ci x y bytes maxL ret n) (hM : CM K.2.1 K.1.l d' 0 0 y bytes maxL ret (.ref (K.2.1.1 + k) :: As) M out M') (hk : LT[k]? = some (4, ci, z))
    (hst : st = As.reverse ++ .ref (K.2.1.1 + k) :: rest) (hn : As.length = n) (hW : (rest.map fun v => v.category).sum ≤ 8) (hdd : d' < d) (hc : cs.1 ≤ K.1.R.cells ∧ cs.2 ≤ K.1.R.slots) (ho : st' = out.toList ++ rest)
    (h : G K cs q lv st' M') : G K cs pc lv st M := g_cU As rest C hd hV hM hk hst hn hW hdd hc (ho ▸ h)
theorem n_cS {out : Option Value} {st' : List Value} (As rest : List Value) (C : Cx K cc own d) (hd : dC cc pc (.invokestatic ix) 3 q tgt) (hV : SK own ix y bytes maxL ret n) (hM : CM K.2.1 K.1.l d' 0 0 y bytes maxL ret As M out M')
    (hst : st = As.reverse ++ rest) (hn : As.length = n) (hW : (rest.map fun v => v.category).sum ≤ 8) (hdd : d' < d) (hc : cs.1 ≤ K.1.R.cells ∧ cs.2 ≤ K.1.R.slots) (ho : st' = out.toList ++ rest)
    (h : G K cs q lv st' M') : G K cs pc lv st M := g_cS As rest C hd hV hM hst hn hW hdd hc (ho ▸ h)
theorem n_cN {host : String} {out : Option Value} {st' : List Value} (As rest : List Value) (C : Cx K cc own d) (hd : dC cc pc (.invokestatic ix) 3 q tgt) (hV : NK own ix y host bytes maxL ret n) (hM : CM K.2.1 K.1.l d' 0 0 y bytes maxL ret As M out M')
    (hst : st = As.reverse ++ rest) (hn : As.length = n) (hW : (rest.map fun v => v.category).sum ≤ 8) (hdd : d' < d) (hc : cs.1 ≤ K.1.R.cells ∧ cs.2 ≤ K.1.R.slots) (ho : st' = out.toList ++ rest)
    (h : G K cs q lv st' M') : G K cs pc lv st M := g_cN As rest C hd hV hM hst hn hW hdd hc (ho ▸ h)
end GC2
theorem rq_sub (ws : List Cond) (ps : List Nat) (hp : ws = ps.filterMap (fun i => lw_tbl[i]?)) (h : ws.all goodWord = true) : ∀ w ∈ ws, w ∈ RQ := by
  intro w hw
  have h1 := List.all_eq_true.mp h w hw
  rw [hp] at hw
  obtain ⟨i, -, hi⟩ := List.mem_filterMap.mp hw
  exact RQ_in i hi h1
def bd2 {α β γ : Type} (x : Option (α × β)) (f : α → β → Option γ) : Option γ := x.bind fun y => f y.1 y.2
theorem bd2_e {α β γ : Type} {x : Option (α × β)} {f : α → β → Option γ} {r : γ} (h : bd2 x f = some r) : ∃ a b, x = some (a, b) ∧ f a b = some r := by
  obtain ⟨y, h1, h2⟩ := bd_e h
  exact ⟨y.1, y.2, h1, h2⟩
def tr1 {α β : Type} (x : Option α) (t : β) (f : α → β) : β := match x with
  | none => t
  | some a => f a
theorem tr_n {α β : Type} {x : Option α} {t : β} {f : α → β} {r : β} (h : tr1 x t f = r) (hx : x = none) : t = r := by subst hx; exact h
theorem tr_s {α β : Type} {x : Option α} {t : β} {f : α → β} {r : β} {a : α} (h : tr1 x t f = r) (hx : x = some a) : f a = r := by subst hx; exact h
section GR2
variable {K : Kx} {cc : ByteArray} {own : String} {d mc ms : Nat} {cs : Nat × Nat} {pc len q tgt : Nat} {lv : List (Nat × Value)} {st rest : List Value} {M M' : Mm} {y : MethodName} {bytes : ByteArray} {maxL n d' mc' ms' ix : Nat} {ret : Option FieldType}
theorem topR {a b : Nat} (h : a = b) (k : G K cs pc lv (.ref (K.2.1.1 + b) :: rest) M) : G K cs pc lv (.ref (K.2.1.1 + a) :: rest) M := by rw [h]; exact k
theorem n_cVXt {k ci : Nat} {z : List (Nat × Nat)} {o : Option (Option Value)} (As rest : List Value) (C : Cx K cc own d) (hd : dC cc pc (.invokevirtual ix) 3 q tgt) (hV : VK own ix ci y bytes maxL ret n) (hM : CX K.2.1 K.1.l d' mc' ms' y bytes maxL ret (.ref (K.2.1.1 + k) :: As) M o M') (hk : LT[k]? = some (4, ci, z))
    (hst : st = As.reverse ++ .ref (K.2.1.1 + k) :: rest) (hn : As.length = n) (hW : (rest.map fun v => v.category).sum ≤ 8) (hdd : d' < d) (hc : cs.1 + mc' ≤ mc ∧ cs.2 + ms' ≤ ms) (hR : mc ≤ K.1.R.cells ∧ ms ≤ K.1.R.slots)
    (hT : ∀ x ∈ K.1.c.exceptionTable.toList, False) (ho : o = none) (hX : Xv K mc ms M') : G K cs pc lv st M := g_cVX As rest C hd hV hM hk hst hn hW hdd hc hR hT (fun _ => hX) (fun v hv => by rw [ho] at hv; cases hv)
theorem n_cVXr {k ci : Nat} {z : List (Nat × Nat)} {o : Option (Option Value)} {v : Option Value} {st' : List Value} (As rest : List Value) (C : Cx K cc own d) (hd : dC cc pc (.invokevirtual ix) 3 q tgt) (hV : VK own ix ci y bytes maxL ret n) (hM : CX K.2.1 K.1.l d' mc' ms' y bytes maxL ret (.ref (K.2.1.1 + k) :: As) M o M') (hk : LT[k]? = some (4, ci, z))
    (hst : st = As.reverse ++ .ref (K.2.1.1 + k) :: rest) (hn : As.length = n) (hW : (rest.map fun v => v.category).sum ≤ 8) (hdd : d' < d) (hc : cs.1 + mc' ≤ mc ∧ cs.2 + ms' ≤ ms) (hR : mc ≤ K.1.R.cells ∧ ms ≤ K.1.R.slots)
    (hT : ∀ x ∈ K.1.c.exceptionTable.toList, False) (ho : o = some v) (hs : st' = v.toList ++ rest) (h : G K (cs.1 + mc', cs.2 + ms') q lv st' M') : G K cs pc lv st M := g_cVX As rest C hd hV hM hk hst hn hW hdd hc hR hT (fun e => by rw [ho] at e; cases e) (fun w hw => by rw [ho] at hw; cases hw; exact hs ▸ h)
theorem n_cSXt {o : Option (Option Value)} (As rest : List Value) (C : Cx K cc own d) (hd : dC cc pc (.invokestatic ix) 3 q tgt) (hV : SK own ix y bytes maxL ret n) (hM : CX K.2.1 K.1.l d' mc' ms' y bytes maxL ret As M o M')
    (hst : st = As.reverse ++ rest) (hn : As.length = n) (hW : (rest.map fun v => v.category).sum ≤ 8) (hdd : d' < d) (hc : cs.1 + mc' ≤ mc ∧ cs.2 + ms' ≤ ms) (hR : mc ≤ K.1.R.cells ∧ ms ≤ K.1.R.slots)
    (hT : ∀ x ∈ K.1.c.exceptionTable.toList, False) (ho : o = none) (hX : Xv K mc ms M') : G K cs pc lv st M := g_cSX As rest C hd hV hM hst hn hW hdd hc hR hT (fun _ => hX) (fun v hv => by rw [ho] at hv; cases hv)
theorem n_cSXr {o : Option (Option Value)} {v : Option Value} {st' : List Value} (As rest : List Value) (C : Cx K cc own d) (hd : dC cc pc (.invokestatic ix) 3 q tgt) (hV : SK own ix y bytes maxL ret n) (hM : CX K.2.1 K.1.l d' mc' ms' y bytes maxL ret As M o M')
    (hst : st = As.reverse ++ rest) (hn : As.length = n) (hW : (rest.map fun v => v.category).sum ≤ 8) (hdd : d' < d) (hc : cs.1 + mc' ≤ mc ∧ cs.2 + ms' ≤ ms) (hR : mc ≤ K.1.R.cells ∧ ms ≤ K.1.R.slots)
    (hT : ∀ x ∈ K.1.c.exceptionTable.toList, False) (ho : o = some v) (hs : st' = v.toList ++ rest) (h : G K (cs.1 + mc', cs.2 + ms') q lv st' M') : G K cs pc lv st M := g_cSX As rest C hd hV hM hst hn hW hdd hc hR hT (fun e => by rw [ho] at e; cases e) (fun w hw => by rw [ho] at hw; cases hw; exact hs ▸ h)
end GR2
theorem i32_ne {x c : Int32} {n : Int} (h : ¬ x = c) (hc : c.toInt = n) : x.toInt ≠ n := fun e => h (Int32.toInt_inj.mp (e.trans hc.symm))
theorem LT_Fd {k : Nat} (h : decide (65 ≤ k ∧ k < 69) = true) : LT[k]? = some (4, 1, [(0, 0), (0, 0), (1, 0), (1, 0), (0, 0)]) := by
  have h := of_decide_eq_true h
  have : k = 65 ∨ k = 66 ∨ k = 67 ∨ k = 68 := by omega
  rcases this with rfl | rfl | rfl | rfl <;> rfl
def isOr (k : Nat) : Prop := k = 11 ∨ k = 42
def isGr (k : Nat) : Prop := k = 5 ∨ k = 36
def isRo (k : Nat) : Prop := k = 17 ∨ k = 48
def isKi (k : Nat) : Prop := k = 23 ∨ k = 54
def isOu (k : Nat) : Prop := k = 28 ∨ k = 59
theorem T0 : LT[0]? = some (4, 8, [(2, 1), (2, 4), (2, 5), (2, 11), (2, 17), (2, 23), (2, 28), (2, 34), (0, 0), (0, 0)]) := rfl
theorem T1 : LT[1]? = some (4, 0, [(2, 2), (2, 3), (0, 0), (0, 0)]) := rfl
theorem T2 : LT[2]? = some (0, 12, []) := rfl
theorem T3 : LT[3]? = some (0, 12, []) := rfl
theorem T4 : LT[4]? = some (0, 20, []) := rfl
theorem T5 : LT[5]? = some (4, 2, [(2, 6), (2, 7), (2, 8), (2, 9), (2, 10), (0, 0), (0, 0)]) := rfl
theorem T6 : LT[6]? = some (0, 12, []) := rfl
theorem T7 : LT[7]? = some (0, 12, []) := rfl
theorem T8 : LT[8]? = some (0, 12, []) := rfl
theorem T9 : LT[9]? = some (0, 12, []) := rfl
theorem T10 : LT[10]? = some (0, 13, []) := rfl
theorem T11 : LT[11]? = some (4, 4, [(2, 12), (2, 13), (2, 14), (2, 15), (2, 16), (0, 0)]) := rfl
theorem T12 : LT[12]? = some (0, 12, []) := rfl
theorem T13 : LT[13]? = some (0, 12, []) := rfl
theorem T14 : LT[14]? = some (0, 12, []) := rfl
theorem T15 : LT[15]? = some (0, 12, []) := rfl
theorem T16 : LT[16]? = some (0, 12, []) := rfl
theorem T17 : LT[17]? = some (4, 6, [(2, 18), (2, 19), (2, 20), (2, 21), (2, 22), (0, 0)]) := rfl
theorem T18 : LT[18]? = some (0, 23, []) := rfl
theorem T19 : LT[19]? = some (0, 23, []) := rfl
theorem T20 : LT[20]? = some (0, 12, []) := rfl
theorem T21 : LT[21]? = some (0, 12, []) := rfl
theorem T22 : LT[22]? = some (0, 12, []) := rfl
theorem T23 : LT[23]? = some (4, 3, [(2, 24), (2, 25), (2, 26), (2, 27), (0, 0), (0, 0)]) := rfl
theorem T24 : LT[24]? = some (0, 12, []) := rfl
theorem T25 : LT[25]? = some (0, 12, []) := rfl
theorem T26 : LT[26]? = some (0, 24, []) := rfl
theorem T27 : LT[27]? = some (0, 12, []) := rfl
theorem T28 : LT[28]? = some (4, 5, [(2, 29), (2, 30), (2, 31), (2, 32), (2, 33), (0, 0)]) := rfl
theorem T29 : LT[29]? = some (0, 26, []) := rfl
theorem T30 : LT[30]? = some (0, 26, []) := rfl
theorem T31 : LT[31]? = some (0, 26, []) := rfl
theorem T32 : LT[32]? = some (0, 26, []) := rfl
theorem T33 : LT[33]? = some (0, 13, []) := rfl
theorem T34 : LT[34]? = some (4, 7, [(2, 1), (2, 35), (2, 36), (2, 42), (2, 48), (2, 54), (2, 59), (3, 65), (0, 0), (0, 0), (0, 0)]) := rfl
theorem T35 : LT[35]? = some (3, 4, [(2, 65), (2, 66), (2, 67), (2, 68)]) := rfl
theorem T36 : LT[36]? = some (4, 2, [(2, 37), (2, 38), (2, 39), (2, 40), (2, 41), (0, 0), (0, 0)]) := rfl
theorem T37 : LT[37]? = some (0, 12, []) := rfl
theorem T38 : LT[38]? = some (0, 12, []) := rfl
theorem T39 : LT[39]? = some (0, 12, []) := rfl
theorem T40 : LT[40]? = some (0, 12, []) := rfl
theorem T41 : LT[41]? = some (0, 13, []) := rfl
theorem T42 : LT[42]? = some (4, 4, [(2, 43), (2, 44), (2, 45), (2, 46), (2, 47), (0, 0)]) := rfl
theorem T43 : LT[43]? = some (0, 12, []) := rfl
theorem T44 : LT[44]? = some (0, 12, []) := rfl
theorem T45 : LT[45]? = some (0, 12, []) := rfl
theorem T46 : LT[46]? = some (0, 12, []) := rfl
theorem T47 : LT[47]? = some (0, 12, []) := rfl
theorem T48 : LT[48]? = some (4, 6, [(2, 49), (2, 50), (2, 51), (2, 52), (2, 53), (0, 0)]) := rfl
theorem T49 : LT[49]? = some (0, 23, []) := rfl
theorem T50 : LT[50]? = some (0, 23, []) := rfl
theorem T51 : LT[51]? = some (0, 12, []) := rfl
theorem T52 : LT[52]? = some (0, 12, []) := rfl
theorem T53 : LT[53]? = some (0, 12, []) := rfl
theorem T54 : LT[54]? = some (4, 3, [(2, 55), (2, 56), (2, 57), (2, 58), (0, 0), (0, 0)]) := rfl
theorem T55 : LT[55]? = some (0, 12, []) := rfl
theorem T56 : LT[56]? = some (0, 12, []) := rfl
theorem T57 : LT[57]? = some (0, 24, []) := rfl
theorem T58 : LT[58]? = some (0, 12, []) := rfl
theorem T59 : LT[59]? = some (4, 5, [(2, 60), (2, 61), (2, 62), (2, 63), (2, 64), (0, 0)]) := rfl
theorem T60 : LT[60]? = some (0, 26, []) := rfl
theorem T61 : LT[61]? = some (0, 26, []) := rfl
theorem T62 : LT[62]? = some (0, 26, []) := rfl
theorem T63 : LT[63]? = some (0, 26, []) := rfl
theorem T64 : LT[64]? = some (0, 13, []) := rfl
theorem T65 : LT[65]? = some (4, 1, [(0, 0), (0, 0), (1, 0), (1, 0), (0, 0)]) := rfl
theorem T66 : LT[66]? = some (4, 1, [(0, 0), (0, 0), (1, 0), (1, 0), (0, 0)]) := rfl
theorem T67 : LT[67]? = some (4, 1, [(0, 0), (0, 0), (1, 0), (1, 0), (0, 0)]) := rfl
theorem T68 : LT[68]? = some (4, 1, [(0, 0), (0, 0), (1, 0), (1, 0), (0, 0)]) := rfl
theorem T69 : LT[69]? = some (4, 9, [(0, 0), (0, 0), (2, 70), (2, 71), (2, 72), (2, 73), (0, 0), (0, 0), (0, 0), (2, 74), (2, 75), (2, 76), (2, 77), (2, 78), (2, 79), (2, 80), (2, 81), (2, 82), (2, 83), (2, 84), (2, 85), (0, 0), (0, 0), (2, 86), (2, 87), (2, 88), (2, 89), (2, 90), (2, 91), (2, 92), (2, 93), (2, 94), (2, 95), (2, 96), (0, 0), (0, 0), (0, 0), (2, 97), (0, 0), (0, 0), (0, 0), (0, 0), (2, 98), (2, 99), (2, 100), (2, 101), (2, 102), (0, 0), (2, 103), (2, 104)]) := rfl
theorem T70 : LT[70]? = some (0, 12, []) := rfl
theorem T71 : LT[71]? = some (0, 12, []) := rfl
theorem T72 : LT[72]? = some (0, 20, []) := rfl
theorem T73 : LT[73]? = some (2, 12, []) := rfl
theorem T74 : LT[74]? = some (0, 12, []) := rfl
theorem T75 : LT[75]? = some (0, 12, []) := rfl
theorem T76 : LT[76]? = some (0, 12, []) := rfl
theorem T77 : LT[77]? = some (0, 12, []) := rfl
theorem T78 : LT[78]? = some (0, 23, []) := rfl
theorem T79 : LT[79]? = some (0, 12, []) := rfl
theorem T80 : LT[80]? = some (0, 12, []) := rfl
theorem T81 : LT[81]? = some (0, 12, []) := rfl
theorem T82 : LT[82]? = some (0, 12, []) := rfl
theorem T83 : LT[83]? = some (0, 23, []) := rfl
theorem T84 : LT[84]? = some (0, 4096, []) := rfl
theorem T85 : LT[85]? = some (0, 4096, []) := rfl
theorem T86 : LT[86]? = some (0, 12, []) := rfl
theorem T87 : LT[87]? = some (0, 23, []) := rfl
theorem T88 : LT[88]? = some (0, 23, []) := rfl
theorem T89 : LT[89]? = some (0, 23, []) := rfl
theorem T90 : LT[90]? = some (0, 23, []) := rfl
theorem T91 : LT[91]? = some (0, 23, []) := rfl
theorem T92 : LT[92]? = some (0, 23, []) := rfl
theorem T93 : LT[93]? = some (0, 23, []) := rfl
theorem T94 : LT[94]? = some (0, 23, []) := rfl
theorem T95 : LT[95]? = some (0, 12, []) := rfl
theorem T96 : LT[96]? = some (0, 12, []) := rfl
theorem T97 : LT[97]? = some (0, 12, []) := rfl
theorem T98 : LT[98]? = some (0, 23, []) := rfl
theorem T99 : LT[99]? = some (0, 12, []) := rfl
theorem T100 : LT[100]? = some (0, 12, []) := rfl
theorem T101 : LT[101]? = some (0, 24, []) := rfl
theorem T102 : LT[102]? = some (0, 12, []) := rfl
theorem T103 : LT[103]? = some (1, 11, []) := rfl
theorem T104 : LT[104]? = some (1, 11, []) := rfl
theorem T105 : LT[105]? = some (1, 1, []) := rfl
theorem T_Gr {k : Nat} (h : isGr k) : LT[k]? = some (4, 2, [(2, k + 1), (2, k + 2), (2, k + 3), (2, k + 4), (2, k + 5), (0, 0), (0, 0)]) := by rcases h with rfl | rfl <;> rfl
theorem T_Gr1 {k : Nat} (h : isGr k) : LT[k + 1]? = some (0, 12, []) := by rcases h with rfl | rfl <;> rfl
theorem T_Gr2 {k : Nat} (h : isGr k) : LT[k + 2]? = some (0, 12, []) := by rcases h with rfl | rfl <;> rfl
theorem T_Gr3 {k : Nat} (h : isGr k) : LT[k + 3]? = some (0, 12, []) := by rcases h with rfl | rfl <;> rfl
theorem T_Gr4 {k : Nat} (h : isGr k) : LT[k + 4]? = some (0, 12, []) := by rcases h with rfl | rfl <;> rfl
theorem T_Gr5 {k : Nat} (h : isGr k) : LT[k + 5]? = some (0, 13, []) := by rcases h with rfl | rfl <;> rfl
theorem T_Or {k : Nat} (h : isOr k) : LT[k]? = some (4, 4, [(2, k + 1), (2, k + 2), (2, k + 3), (2, k + 4), (2, k + 5), (0, 0)]) := by rcases h with rfl | rfl <;> rfl
theorem T_Or1 {k : Nat} (h : isOr k) : LT[k + 1]? = some (0, 12, []) := by rcases h with rfl | rfl <;> rfl
theorem T_Or2 {k : Nat} (h : isOr k) : LT[k + 2]? = some (0, 12, []) := by rcases h with rfl | rfl <;> rfl
theorem T_Or3 {k : Nat} (h : isOr k) : LT[k + 3]? = some (0, 12, []) := by rcases h with rfl | rfl <;> rfl
theorem T_Or4 {k : Nat} (h : isOr k) : LT[k + 4]? = some (0, 12, []) := by rcases h with rfl | rfl <;> rfl
theorem T_Or5 {k : Nat} (h : isOr k) : LT[k + 5]? = some (0, 12, []) := by rcases h with rfl | rfl <;> rfl
theorem T_Ro {k : Nat} (h : isRo k) : LT[k]? = some (4, 6, [(2, k + 1), (2, k + 2), (2, k + 3), (2, k + 4), (2, k + 5), (0, 0)]) := by rcases h with rfl | rfl <;> rfl
theorem T_Ro1 {k : Nat} (h : isRo k) : LT[k + 1]? = some (0, 23, []) := by rcases h with rfl | rfl <;> rfl
theorem T_Ro2 {k : Nat} (h : isRo k) : LT[k + 2]? = some (0, 23, []) := by rcases h with rfl | rfl <;> rfl
theorem T_Ro3 {k : Nat} (h : isRo k) : LT[k + 3]? = some (0, 12, []) := by rcases h with rfl | rfl <;> rfl
theorem T_Ro4 {k : Nat} (h : isRo k) : LT[k + 4]? = some (0, 12, []) := by rcases h with rfl | rfl <;> rfl
theorem T_Ro5 {k : Nat} (h : isRo k) : LT[k + 5]? = some (0, 12, []) := by rcases h with rfl | rfl <;> rfl
theorem T_Ki {k : Nat} (h : isKi k) : LT[k]? = some (4, 3, [(2, k + 1), (2, k + 2), (2, k + 3), (2, k + 4), (0, 0), (0, 0)]) := by rcases h with rfl | rfl <;> rfl
theorem T_Ki1 {k : Nat} (h : isKi k) : LT[k + 1]? = some (0, 12, []) := by rcases h with rfl | rfl <;> rfl
theorem T_Ki2 {k : Nat} (h : isKi k) : LT[k + 2]? = some (0, 12, []) := by rcases h with rfl | rfl <;> rfl
theorem T_Ki3 {k : Nat} (h : isKi k) : LT[k + 3]? = some (0, 24, []) := by rcases h with rfl | rfl <;> rfl
theorem T_Ki4 {k : Nat} (h : isKi k) : LT[k + 4]? = some (0, 12, []) := by rcases h with rfl | rfl <;> rfl
theorem T_Ou {k : Nat} (h : isOu k) : LT[k]? = some (4, 5, [(2, k + 1), (2, k + 2), (2, k + 3), (2, k + 4), (2, k + 5), (0, 0)]) := by rcases h with rfl | rfl <;> rfl
theorem T_Ou1 {k : Nat} (h : isOu k) : LT[k + 1]? = some (0, 26, []) := by rcases h with rfl | rfl <;> rfl
theorem T_Ou2 {k : Nat} (h : isOu k) : LT[k + 2]? = some (0, 26, []) := by rcases h with rfl | rfl <;> rfl
theorem T_Ou3 {k : Nat} (h : isOu k) : LT[k + 3]? = some (0, 26, []) := by rcases h with rfl | rfl <;> rfl
theorem T_Ou4 {k : Nat} (h : isOu k) : LT[k + 4]? = some (0, 26, []) := by rcases h with rfl | rfl <;> rfl
theorem T_Ou5 {k : Nat} (h : isOu k) : LT[k + 5]? = some (0, 13, []) := by rcases h with rfl | rfl <;> rfl
def jmax (x y : Int32) : Int32 := if x < y then y else x
def jmin (x y : Int32) : Int32 := if y < x then y else x
section GMM
variable {K : Kx} {cc : ByteArray} {own : String} {d : Nat} {cs : Nat × Nat} {pc len q tgt : Nat} {lv : List (Nat × Value)} {rest : List Value} {M : Mm}
theorem n_mmax {ix : Nat} {x y : Int32} (C : Cx K cc own d) (hd : dC cc pc (.invokestatic ix) 3 q tgt) (w : Cond.methodLink own ix Lib.Math.max.name ∈ RQ ∧ Cond.static Lib.Math.max.name ∈ RQ ∧ Cond.initialized "java/lang/Math" ∈ RQ ∧ Cond.code Lib.Math.max.name Lib.Math.max.code 2 (some .int) ∈ RQ) (h0 : 0 < d) (hr : (rest.map fun v => v.category).sum ≤ 20) (hc : cs.1 ≤ K.1.R.cells ∧ cs.2 ≤ K.1.R.slots)
    (h : G K cs q lv (.int (jmax x y) :: rest) M) : G K cs pc lv (.int y :: .int x :: rest) M := g_mmax C hd w h0 hr hc h
theorem n_mmin {ix : Nat} {x y : Int32} (C : Cx K cc own d) (hd : dC cc pc (.invokestatic ix) 3 q tgt) (w : Cond.methodLink own ix Lib.Math.min.name ∈ RQ ∧ Cond.static Lib.Math.min.name ∈ RQ ∧ Cond.initialized "java/lang/Math" ∈ RQ ∧ Cond.code Lib.Math.min.name Lib.Math.min.code 2 (some .int) ∈ RQ) (h0 : 0 < d) (hr : (rest.map fun v => v.category).sum ≤ 20) (hc : cs.1 ≤ K.1.R.cells ∧ cs.2 ≤ K.1.R.slots)
    (h : G K cs q lv (.int (jmin x y) :: rest) M) : G K cs pc lv (.int y :: .int x :: rest) M := g_mmin C hd w h0 hr hc h
end GMM
end
section
theorem q487 : Cond.constantLong RX9 354 (15) ∈ RQ := RQ_in 487 (by decide +kernel) (by decide +kernel)
set_option maxRecDepth 20000 in
theorem qc_X0 : ∀ w ∈ u_ws RX0 TX0 4, w ∈ RQ := rq_sub _ [137, 139, 141, 143] (by decide +kernel) (by decide +kernel)
theorem q134 : Cond.fieldLink RX0 18 "GroundPlan$Blocks" "size" "I" ∈ RQ := RQ_in 134 (by decide +kernel) (by decide +kernel)
theorem fk_X0_18 : FK RX0 18 0 3 .int false := ⟨RX0, TX0, 4, tyX0, rfl, by decide, qc_X0, q134, tyX0_ok, nmX0, rfl, by decide +kernel⟩
set_option maxRecDepth 20000 in
theorem qc_X2 : ∀ w ∈ u_ws RX2 TX2 7, w ∈ RQ := rq_sub _ [178, 180, 182, 184, 186, 188, 190] (by decide +kernel) (by decide +kernel)
theorem q153 : Cond.fieldLink RX2 9 "GroundPlan$Ground" "x" "[I" ∈ RQ := RQ_in 153 (by decide +kernel) (by decide +kernel)
theorem fk_X2_9 : FK RX2 9 2 0 (.array .int) true := ⟨RX2, TX2, 7, tyX2, rfl, by decide, qc_X2, q153, tyX2_ok, nmX2, rfl, by decide +kernel⟩
theorem q163 : Cond.fieldLink RX2 18 "GroundPlan$Ground" "width" "[I" ∈ RQ := RQ_in 163 (by decide +kernel) (by decide +kernel)
theorem fk_X2_18 : FK RX2 18 2 2 (.array .int) true := ⟨RX2, TX2, 7, tyX2, rfl, by decide, qc_X2, q163, tyX2_ok, nmX2, rfl, by decide +kernel⟩
theorem q158 : Cond.fieldLink RX2 15 "GroundPlan$Ground" "y" "[I" ∈ RQ := RQ_in 158 (by decide +kernel) (by decide +kernel)
theorem fk_X2_15 : FK RX2 15 2 1 (.array .int) true := ⟨RX2, TX2, 7, tyX2, rfl, by decide, qc_X2, q158, tyX2_ok, nmX2, rfl, by decide +kernel⟩
theorem q168 : Cond.fieldLink RX2 21 "GroundPlan$Ground" "height" "[I" ∈ RQ := RQ_in 168 (by decide +kernel) (by decide +kernel)
theorem fk_X2_21 : FK RX2 21 2 3 (.array .int) true := ⟨RX2, TX2, 7, tyX2, rfl, by decide, qc_X2, q168, tyX2_ok, nmX2, rfl, by decide +kernel⟩
theorem q580 : Cond.methodLink RX2 62 yX2_isLeft ∈ RQ := RQ_in 580 (by decide +kernel) (by decide +kernel)
theorem q512 : Cond.instanceMethod yX2_isLeft ∈ RQ := RQ_in 512 (by decide +kernel) (by decide +kernel)
theorem q513 : Cond.selects RX2 yX2_isLeft yX2_isLeft ∈ RQ := RQ_in 513 (by decide +kernel) (by decide +kernel)
theorem q90 : Cond.initialized RX2 ∈ RQ := RQ_in 90 (by decide +kernel) (by decide +kernel)
theorem q514 : Cond.code yX2_isLeft cX2_isLeft 3 (some .boolean) ∈ RQ := RQ_in 514 (by decide +kernel) (by decide +kernel)
theorem vk_X2_62 : VK RX2 62 2 yX2_isLeft cX2_isLeft 3 (some .boolean) 2 := ⟨RX2, TX2, 7, rfl, rfl, q580, q512, q513, q90, q514, ⟨by decide +kernel, by decide +kernel⟩, by decide +kernel, by decide⟩
theorem q581 : Cond.methodLink RX2 66 yX2_isBelow ∈ RQ := RQ_in 581 (by decide +kernel) (by decide +kernel)
theorem q582 : Cond.instanceMethod yX2_isBelow ∈ RQ := RQ_in 582 (by decide +kernel) (by decide +kernel)
theorem q583 : Cond.selects RX2 yX2_isBelow yX2_isBelow ∈ RQ := RQ_in 583 (by decide +kernel) (by decide +kernel)
theorem q584 : Cond.code yX2_isBelow cX2_isBelow 3 (some .boolean) ∈ RQ := RQ_in 584 (by decide +kernel) (by decide +kernel)
theorem vk_X2_66 : VK RX2 66 2 yX2_isBelow cX2_isBelow 3 (some .boolean) 2 := ⟨RX2, TX2, 7, rfl, rfl, q581, q582, q583, q90, q584, ⟨by decide +kernel, by decide +kernel⟩, by decide +kernel, by decide⟩
theorem q176 : Cond.fieldLink RX2 33 "GroundPlan$Ground" "size" "I" ∈ RQ := RQ_in 176 (by decide +kernel) (by decide +kernel)
theorem fk_X2_33 : FK RX2 33 2 6 .int false := ⟨RX2, TX2, 7, tyX2, rfl, by decide, qc_X2, q176, tyX2_ok, nmX2, rfl, by decide +kernel⟩
theorem q576 : Cond.methodLink RX2 69 yX2_doClash ∈ RQ := RQ_in 576 (by decide +kernel) (by decide +kernel)
theorem q578 : Cond.instanceMethod yX2_doClash ∈ RQ := RQ_in 578 (by decide +kernel) (by decide +kernel)
theorem q5 : Cond.selects RX2 yX2_doClash yX2_doClash ∈ RQ := RQ_in 5 (by decide +kernel) (by decide +kernel)
theorem q579 : Cond.code yX2_doClash cX2_doClash 3 (some .boolean) ∈ RQ := RQ_in 579 (by decide +kernel) (by decide +kernel)
theorem vk_X2_69 : VK RX2 69 2 yX2_doClash cX2_doClash 3 (some .boolean) 2 := ⟨RX2, TX2, 7, rfl, rfl, q576, q578, q5, q90, q579, ⟨by decide +kernel, by decide +kernel⟩, by decide +kernel, by decide⟩
theorem q174 : Cond.fieldLink RX2 37 "GroundPlan$Ground" "turned" "I" ∈ RQ := RQ_in 174 (by decide +kernel) (by decide +kernel)
theorem fk_X2_37 : FK RX2 37 2 5 .int false := ⟨RX2, TX2, 7, tyX2, rfl, by decide, qc_X2, q174, tyX2_ok, nmX2, rfl, by decide +kernel⟩
theorem qh474 : Cond.methodLinkNest RX2 47 yX9_bitOf RX9 ∈ HWs := HW_in 474 (by decide +kernel) (by decide +kernel)
theorem q475 : Cond.static yX9_bitOf ∈ RQ := RQ_in 475 (by decide +kernel) (by decide +kernel)
theorem q88 : Cond.initialized RX9 ∈ RQ := RQ_in 88 (by decide +kernel) (by decide +kernel)
theorem q476 : Cond.code yX9_bitOf cX9_bitOf 2 (some .int) ∈ RQ := RQ_in 476 (by decide +kernel) (by decide +kernel)
theorem nk_X2_47 : NK RX2 47 yX9_bitOf RX9 cX9_bitOf 2 (some .int) 2 := ⟨qh474, q475, q88, q476, ⟨by decide +kernel, by decide +kernel⟩, by decide +kernel, by decide⟩
theorem q127 : Cond.fieldLink RX2 51 "GroundPlan$Blocks" "height" "[I" ∈ RQ := RQ_in 127 (by decide +kernel) (by decide +kernel)
theorem fk_X2_51 : FK RX2 51 0 1 (.array .int) true := ⟨RX0, TX0, 4, tyX0, rfl, by decide, qc_X0, q127, tyX0_ok, nmX0, rfl, by decide +kernel⟩
theorem q123 : Cond.fieldLink RX2 52 "GroundPlan$Blocks" "width" "[I" ∈ RQ := RQ_in 123 (by decide +kernel) (by decide +kernel)
theorem fk_X2_52 : FK RX2 52 0 0 (.array .int) true := ⟨RX0, TX0, 4, tyX0, rfl, by decide, qc_X0, q123, tyX0_ok, nmX0, rfl, by decide +kernel⟩
theorem q132 : Cond.fieldLink RX2 27 "GroundPlan$Blocks" "size" "I" ∈ RQ := RQ_in 132 (by decide +kernel) (by decide +kernel)
theorem fk_X2_27 : FK RX2 27 0 3 .int false := ⟨RX0, TX0, 4, tyX0, rfl, by decide, qc_X0, q132, tyX0_ok, nmX0, rfl, by decide +kernel⟩
theorem q128 : Cond.fieldLink RX2 34 "GroundPlan$Blocks" "turnable" "I" ∈ RQ := RQ_in 128 (by decide +kernel) (by decide +kernel)
theorem fk_X2_34 : FK RX2 34 0 2 .int false := ⟨RX0, TX0, 4, tyX0, rfl, by decide, qc_X0, q128, tyX0_ok, nmX0, rfl, by decide +kernel⟩
theorem q470 : Cond.methodLink RX2 40 yX2_setSides ∈ RQ := RQ_in 470 (by decide +kernel) (by decide +kernel)
theorem q472 : Cond.instanceMethod yX2_setSides ∈ RQ := RQ_in 472 (by decide +kernel) (by decide +kernel)
theorem q1 : Cond.selects RX2 yX2_setSides yX2_setSides ∈ RQ := RQ_in 1 (by decide +kernel) (by decide +kernel)
theorem q473 : Cond.code yX2_setSides cX2_setSides 4 none ∈ RQ := RQ_in 473 (by decide +kernel) (by decide +kernel)
theorem vk_X2_40 : VK RX2 40 2 yX2_setSides cX2_setSides 4 none 2 := ⟨RX2, TX2, 7, rfl, rfl, q470, q472, q1, q90, q473, ⟨by decide +kernel, by decide +kernel⟩, by decide +kernel, by decide⟩
theorem q773 : Cond.methodLink RX2 57 yJ9_max_7cf53 ∈ RQ := RQ_in 773 (by decide +kernel) (by decide +kernel)
theorem q516 : Cond.static yJ9_max_7cf53 ∈ RQ := RQ_in 516 (by decide +kernel) (by decide +kernel)
theorem q104 : Cond.initialized RJ9 ∈ RQ := RQ_in 104 (by decide +kernel) (by decide +kernel)
theorem q517 : Cond.code yJ9_max_7cf53 cJ9_max_7cf53 2 (some .int) ∈ RQ := RQ_in 517 (by decide +kernel) (by decide +kernel)
theorem mk_X2_57 : Cond.methodLink RX2 57 Lib.Math.max.name ∈ RQ ∧ Cond.static Lib.Math.max.name ∈ RQ ∧ Cond.initialized "java/lang/Math" ∈ RQ ∧ Cond.code Lib.Math.max.name Lib.Math.max.code 2 (some .int) ∈ RQ := ⟨q773, q516, q104, q517⟩
end
section
set_option maxRecDepth 20000 in
theorem k_X9_bitOf_0 : ckD cX9_bitOf [(0, .iload_n 0, 1, 1, 0), (1, .iload_n 1, 1, 2, 0), (2, .ishr, 1, 3, 0), (3, .iconst 1, 1, 4, 0), (4, .iand, 1, 5, 0), (5, .ireturn, 1, 6, 0)] = true := by decide +kernel
def f_X9_bitOf (a0 : Int32) (a1 : Int32) : Int32 := ((a0 >>> (a1 &&& 31)) &&& (1 : Int32))
set_option maxRecDepth 100000 in
set_option maxHeartbeats 4000000 in
theorem t_X9_bitOf {E : Ev} {l : Launch} (htr : l.stackTraces = false) (a0 : Int32) (a1 : Int32) (M : Mm) (r : Int32) (hf : f_X9_bitOf a0 a1 = r) : CM E l 0 0 0 yX9_bitOf cX9_bitOf 2 (some .int) [.int a0, .int a1] M (some (.int r)) M := by
  refine CM.of htr (by decide +kernel) (Nat.le_of_ble_eq_true rfl) ?_
  intro K hE hL hl hR0 C hr hRv
  subst hE
  subst hl
  have C : Cx K cX9_bitOf RX9 0 := C
  have hB : (0 : Nat) ≤ K.1.R.cells ∧ 0 ≤ K.1.R.slots := ⟨Nat.zero_le _, Nat.zero_le _⟩
  show G K (0, 0) 0 [(0, .int a0), (1, .int a1)] [] M
  unfold f_X9_bitOf at hf
  refine g_iload_n 0 C (ckD_get k_X9_bitOf_0 0 rfl) rfl rfl ?_
  refine g_iload_n 1 C (ckD_get k_X9_bitOf_0 1 rfl) rfl rfl ?_
  refine g_ishr C (ckD_get k_X9_bitOf_0 2 rfl) ?_
  refine g_iconst (v := (1 : Int32)) C (ckD_get k_X9_bitOf_0 3 rfl) (by decide) ?_
  refine g_iand C (ckD_get k_X9_bitOf_0 4 rfl) ?_
  cases hf
  exact g_iret C (ckD_get k_X9_bitOf_0 5 rfl) hr hRv (Nat.le_refl _) (Nat.le_refl _)

set_option maxRecDepth 20000 in
theorem k_X9_isSide_0 : ckD cX9_isSide [(0, .iload_n 0, 1, 1, 0), (1, .iconst 1, 1, 2, 0), (2, .if_icmp .lt 14, 3, 5, 16), (5, .iload_n 0, 1, 6, 0), (6, .sipush 200, 3, 9, 0), (9, .if_icmp .gt 7, 3, 12, 16), (12, .iconst 1, 1, 13, 0), (13, .goto 4, 3, 16, 17), (16, .iconst 0, 1, 17, 0), (17, .ireturn, 1, 18, 0)] = true := by decide +kernel
def f_X9_isSide (a0 : Int32) : Int32 := if a0 < (1 : Int32) then (0 : Int32) else if (200 : Int32) < a0 then (0 : Int32) else (1 : Int32)
set_option maxRecDepth 100000 in
set_option maxHeartbeats 4000000 in
theorem t_X9_isSide {E : Ev} {l : Launch} (htr : l.stackTraces = false) (a0 : Int32) (M : Mm) (r : Int32) (hf : f_X9_isSide a0 = r) : CM E l 0 0 0 yX9_isSide cX9_isSide 1 (some .boolean) [.int a0] M (some (.int r)) M := by
  refine CM.of htr (by decide +kernel) (Nat.le_of_ble_eq_true rfl) ?_
  intro K hE hL hl hR0 C hr hRv
  subst hE
  subst hl
  have C : Cx K cX9_isSide RX9 0 := C
  have hB : (0 : Nat) ≤ K.1.R.cells ∧ 0 ≤ K.1.R.slots := ⟨Nat.zero_le _, Nat.zero_le _⟩
  show G K (0, 0) 0 [(0, .int a0)] [] M
  unfold f_X9_isSide at hf
  refine g_iload_n 0 C (ckD_get k_X9_isSide_0 0 rfl) rfl rfl ?_
  refine g_iconst (v := (1 : Int32)) C (ckD_get k_X9_isSide_0 1 rfl) (by decide) ?_
  refine g_icmp_lt C (ckD_get k_X9_isSide_0 2 rfl) (fun c_1 => ?_) (fun c_1 => ?_)
  · have hf := if_t hf c_1
    refine g_iconst (v := (0 : Int32)) C (ckD_get k_X9_isSide_0 8 rfl) (by decide) ?_
    cases hf
    exact g_zret C (ckD_get k_X9_isSide_0 9 rfl) hr rfl hRv (Nat.le_refl _) (Nat.le_refl _)
  · have hf := if_f hf c_1
    refine g_iload_n 0 C (ckD_get k_X9_isSide_0 3 rfl) rfl rfl ?_
    refine g_sipush (v := (200 : Int32)) C (ckD_get k_X9_isSide_0 4 rfl) (by decide) ?_
    refine g_icmp_gt C (ckD_get k_X9_isSide_0 5 rfl) (fun c_2 => ?_) (fun c_2 => ?_)
    · have hf := if_t hf c_2
      refine g_iconst (v := (0 : Int32)) C (ckD_get k_X9_isSide_0 8 rfl) (by decide) ?_
      cases hf
      exact g_zret C (ckD_get k_X9_isSide_0 9 rfl) hr rfl hRv (Nat.le_refl _) (Nat.le_refl _)
    · have hf := if_f hf c_2
      refine g_iconst (v := (1 : Int32)) C (ckD_get k_X9_isSide_0 6 rfl) (by decide) ?_
      refine g_goto C (ckD_get k_X9_isSide_0 7 rfl) ?_
      cases hf
      exact g_zret C (ckD_get k_X9_isSide_0 9 rfl) hr rfl hRv (Nat.le_refl _) (Nat.le_refl _)

set_option maxRecDepth 20000 in
theorem k_X9_nibble_0 : ckD cX9_nibble [(0, .lload_n 0, 1, 1, 0), (1, .iconst 4, 1, 2, 0), (2, .iload_n 2, 1, 3, 0), (3, .imul, 1, 4, 0), (4, .lshr, 1, 5, 0), (5, .ldc2_w 354, 3, 8, 0), (8, .land, 1, 9, 0), (9, .l2i, 1, 10, 0), (10, .ireturn, 1, 11, 0)] = true := by decide +kernel
def f_X9_nibble (a0 : Int64) (a1 : Int32) : Int32 := ((((a0 >>> ((((4 : Int32) * a1)).toInt64 &&& 63)) &&& (15 : Int64))).toInt32)
set_option maxRecDepth 100000 in
set_option maxHeartbeats 4000000 in
theorem t_X9_nibble {E : Ev} {l : Launch} (htr : l.stackTraces = false) (a0 : Int64) (a1 : Int32) (M : Mm) (r : Int32) (hf : f_X9_nibble a0 a1 = r) : CM E l 0 0 0 yX9_nibble cX9_nibble 3 (some .int) [.long a0, .int a1] M (some (.int r)) M := by
  refine CM.of htr (by decide +kernel) (Nat.le_of_ble_eq_true rfl) ?_
  intro K hE hL hl hR0 C hr hRv
  subst hE
  subst hl
  have C : Cx K cX9_nibble RX9 0 := C
  have hB : (0 : Nat) ≤ K.1.R.cells ∧ 0 ≤ K.1.R.slots := ⟨Nat.zero_le _, Nat.zero_le _⟩
  show G K (0, 0) 0 [(0, .long a0), (2, .int a1)] [] M
  unfold f_X9_nibble at hf
  refine g_lload_n 0 C (ckD_get k_X9_nibble_0 0 rfl) rfl rfl ?_
  refine g_iconst (v := (4 : Int32)) C (ckD_get k_X9_nibble_0 1 rfl) (by decide) ?_
  refine g_iload_n 1 C (ckD_get k_X9_nibble_0 2 rfl) rfl rfl ?_
  refine g_imul C (ckD_get k_X9_nibble_0 3 rfl) ?_
  refine g_lshr C (ckD_get k_X9_nibble_0 4 rfl) ?_
  refine g_ldc2 C (ckD_get k_X9_nibble_0 5 rfl) q487 ?_
  refine g_land C (ckD_get k_X9_nibble_0 6 rfl) ?_
  refine g_l2i C (ckD_get k_X9_nibble_0 7 rfl) ?_
  cases hf
  exact g_iret C (ckD_get k_X9_nibble_0 8 rfl) hr hRv (Nat.le_refl _) (Nat.le_refl _)

set_option maxRecDepth 20000 in
theorem k_X0_has_0 : ckD cX0_has [(0, .iload_n 1, 1, 1, 0), (1, .ifCond .lt 15, 3, 4, 16), (4, .iload_n 1, 1, 5, 0), (5, .aload_n 0, 1, 6, 0), (6, .getfield 18, 3, 9, 0), (9, .if_icmp .ge 7, 3, 12, 16), (12, .iconst 1, 1, 13, 0), (13, .goto 4, 3, 16, 17), (16, .iconst 0, 1, 17, 0), (17, .ireturn, 1, 18, 0)] = true := by decide +kernel
def f_X0_has (a1 : Int32) (M : Mm) : Int32 := if a1 < 0 then (0 : Int32) else if (M.1 1 3) ≤ a1 then (0 : Int32) else (1 : Int32)
set_option maxRecDepth 100000 in
set_option maxHeartbeats 4000000 in
theorem t_X0_has {E : Ev} {l : Launch} (htr : l.stackTraces = false) (a1 : Int32) (M : Mm) (r : Int32) (hf : f_X0_has a1 M = r) : CM E l 0 0 0 yX0_has cX0_has 2 (some .boolean) [.ref (E.1 + 1), .int a1] M (some (.int r)) M := by
  refine CM.of htr (by decide +kernel) (Nat.le_of_ble_eq_true rfl) ?_
  intro K hE hL hl hR0 C hr hRv
  subst hE
  subst hl
  have C : Cx K cX0_has RX0 0 := C
  have hB : (0 : Nat) ≤ K.1.R.cells ∧ 0 ≤ K.1.R.slots := ⟨Nat.zero_le _, Nat.zero_le _⟩
  show G K (0, 0) 0 [(0, .ref (K.2.1.1 + 1)), (1, .int a1)] [] M
  unfold f_X0_has at hf
  refine g_iload_n 1 C (ckD_get k_X0_has_0 0 rfl) rfl rfl ?_
  refine g_if_lt C (ckD_get k_X0_has_0 1 rfl) (fun c_1 => ?_) (fun c_1 => ?_)
  · have hf := if_t hf c_1
    refine g_iconst (v := (0 : Int32)) C (ckD_get k_X0_has_0 8 rfl) (by decide) ?_
    cases hf
    exact g_zret C (ckD_get k_X0_has_0 9 rfl) hr rfl hRv (Nat.le_refl _) (Nat.le_refl _)
  · have hf := if_f hf c_1
    refine g_iload_n 1 C (ckD_get k_X0_has_0 2 rfl) rfl rfl ?_
    refine g_aload_n 0 C (ckD_get k_X0_has_0 3 rfl) rfl rfl ?_
    refine g_getI C (ckD_get k_X0_has_0 4 rfl) fk_X0_18 T1 rfl ?_
    refine g_icmp_ge C (ckD_get k_X0_has_0 5 rfl) (fun c_2 => ?_) (fun c_2 => ?_)
    · have hf := if_t hf c_2
      refine g_iconst (v := (0 : Int32)) C (ckD_get k_X0_has_0 8 rfl) (by decide) ?_
      cases hf
      exact g_zret C (ckD_get k_X0_has_0 9 rfl) hr rfl hRv (Nat.le_refl _) (Nat.le_refl _)
    · have hf := if_f hf c_2
      refine g_iconst (v := (1 : Int32)) C (ckD_get k_X0_has_0 6 rfl) (by decide) ?_
      refine g_goto C (ckD_get k_X0_has_0 7 rfl) ?_
      cases hf
      exact g_zret C (ckD_get k_X0_has_0 9 rfl) hr rfl hRv (Nat.le_refl _) (Nat.le_refl _)

set_option maxRecDepth 20000 in
theorem k_X0_everyone_0 : ckD cX0_everyone [(0, .iconst 1, 1, 1, 0), (1, .aload_n 0, 1, 2, 0), (2, .getfield 18, 3, 5, 0), (5, .ishl, 1, 6, 0), (6, .iconst 1, 1, 7, 0), (7, .isub, 1, 8, 0), (8, .ireturn, 1, 9, 0)] = true := by decide +kernel
def f_X0_everyone  (M : Mm) : Int32 := (((1 : Int32) <<< ((M.1 1 3) &&& 31)) - (1 : Int32))
set_option maxRecDepth 100000 in
set_option maxHeartbeats 4000000 in
theorem t_X0_everyone {E : Ev} {l : Launch} (htr : l.stackTraces = false) (M : Mm) (r : Int32) (hf : f_X0_everyone M = r) : CM E l 0 0 0 yX0_everyone cX0_everyone 1 (some .int) [.ref (E.1 + 1)] M (some (.int r)) M := by
  refine CM.of htr (by decide +kernel) (Nat.le_of_ble_eq_true rfl) ?_
  intro K hE hL hl hR0 C hr hRv
  subst hE
  subst hl
  have C : Cx K cX0_everyone RX0 0 := C
  have hB : (0 : Nat) ≤ K.1.R.cells ∧ 0 ≤ K.1.R.slots := ⟨Nat.zero_le _, Nat.zero_le _⟩
  show G K (0, 0) 0 [(0, .ref (K.2.1.1 + 1))] [] M
  unfold f_X0_everyone at hf
  refine g_iconst (v := (1 : Int32)) C (ckD_get k_X0_everyone_0 0 rfl) (by decide) ?_
  refine g_aload_n 0 C (ckD_get k_X0_everyone_0 1 rfl) rfl rfl ?_
  refine g_getI C (ckD_get k_X0_everyone_0 2 rfl) fk_X0_18 T1 rfl ?_
  refine g_ishl C (ckD_get k_X0_everyone_0 3 rfl) ?_
  refine g_iconst (v := (1 : Int32)) C (ckD_get k_X0_everyone_0 4 rfl) (by decide) ?_
  refine g_isub C (ckD_get k_X0_everyone_0 5 rfl) ?_
  cases hf
  exact g_iret C (ckD_get k_X0_everyone_0 6 rfl) hr hRv (Nat.le_refl _) (Nat.le_refl _)

set_option maxRecDepth 20000 in
theorem k_X2_isLeft_0 : ckD cX2_isLeft [(0, .aload_n 0, 1, 1, 0), (1, .getfield 9, 3, 4, 0), (4, .iload_n 1, 1, 5, 0), (5, .iaload, 1, 6, 0), (6, .aload_n 0, 1, 7, 0), (7, .getfield 18, 3, 10, 0), (10, .iload_n 1, 1, 11, 0), (11, .iaload, 1, 12, 0), (12, .iadd, 1, 13, 0), (13, .aload_n 0, 1, 14, 0), (14, .getfield 9, 3, 17, 0), (17, .iload_n 2, 1, 18, 0), (18, .iaload, 1, 19, 0), (19, .if_icmp .gt 7, 3, 22, 26), (22, .iconst 1, 1, 23, 0), (23, .goto 4, 3, 26, 27), (26, .iconst 0, 1, 27, 0), (27, .ireturn, 1, 28, 0)] = true := by decide +kernel
def f_X2_isLeft (k0 : Nat) (a1 : Int32) (a2 : Int32) (M : Mm) : Option Int32 := rdI 12 M (k0 + 1) a1 fun v_1 => rdI 12 M (k0 + 3) a1 fun v_3 => rdI 12 M (k0 + 1) a2 fun v_5 => if v_5 < (v_1 + v_3) then some (0 : Int32) else some (1 : Int32)
set_option maxRecDepth 100000 in
set_option maxHeartbeats 4000000 in
theorem t_X2_isLeft {E : Ev} {l : Launch} (htr : l.stackTraces = false) (k0 : Nat) (hk0 : isGr k0) (a1 : Int32) (a2 : Int32) (M : Mm) (r : Int32) (hf : f_X2_isLeft k0 a1 a2 M = some r) : CM E l 0 0 0 yX2_isLeft cX2_isLeft 3 (some .boolean) [.ref (E.1 + k0), .int a1, .int a2] M (some (.int r)) M := by
  refine CM.of htr (by decide +kernel) (Nat.le_of_ble_eq_true rfl) ?_
  intro K hE hL hl hR0 C hr hRv
  subst hE
  subst hl
  have C : Cx K cX2_isLeft RX2 0 := C
  have hB : (0 : Nat) ≤ K.1.R.cells ∧ 0 ≤ K.1.R.slots := ⟨Nat.zero_le _, Nat.zero_le _⟩
  show G K (0, 0) 0 [(0, .ref (K.2.1.1 + k0)), (1, .int a1), (2, .int a2)] [] M
  unfold f_X2_isLeft at hf
  refine g_aload_n 0 C (ckD_get k_X2_isLeft_0 0 rfl) rfl rfl ?_
  refine g_getR C (ckD_get k_X2_isLeft_0 1 rfl) fk_X2_9 (T_Gr hk0) rfl ?_
  refine g_iload_n 1 C (ckD_get k_X2_isLeft_0 2 rfl) rfl rfl ?_
  obtain ⟨v_1, hi_2, ev_1, hf⟩ := rdI_e hf
  refine n_iald C (ckD_get k_X2_isLeft_0 3 rfl) (T_Gr1 hk0) hi_2 ev_1 ?_
  refine g_aload_n 0 C (ckD_get k_X2_isLeft_0 4 rfl) rfl rfl ?_
  refine g_getR C (ckD_get k_X2_isLeft_0 5 rfl) fk_X2_18 (T_Gr hk0) rfl ?_
  refine g_iload_n 1 C (ckD_get k_X2_isLeft_0 6 rfl) rfl rfl ?_
  obtain ⟨v_3, hi_4, ev_3, hf⟩ := rdI_e hf
  refine n_iald C (ckD_get k_X2_isLeft_0 7 rfl) (T_Gr3 hk0) hi_4 ev_3 ?_
  refine g_iadd C (ckD_get k_X2_isLeft_0 8 rfl) ?_
  refine g_aload_n 0 C (ckD_get k_X2_isLeft_0 9 rfl) rfl rfl ?_
  refine g_getR C (ckD_get k_X2_isLeft_0 10 rfl) fk_X2_9 (T_Gr hk0) rfl ?_
  refine g_iload_n 2 C (ckD_get k_X2_isLeft_0 11 rfl) rfl rfl ?_
  obtain ⟨v_5, hi_6, ev_5, hf⟩ := rdI_e hf
  refine n_iald C (ckD_get k_X2_isLeft_0 12 rfl) (T_Gr1 hk0) hi_6 ev_5 ?_
  refine g_icmp_gt C (ckD_get k_X2_isLeft_0 13 rfl) (fun c_7 => ?_) (fun c_7 => ?_)
  · have hf := if_t hf c_7
    refine g_iconst (v := (0 : Int32)) C (ckD_get k_X2_isLeft_0 16 rfl) (by decide) ?_
    cases hf
    exact g_zret C (ckD_get k_X2_isLeft_0 17 rfl) hr rfl hRv (Nat.le_refl _) (Nat.le_refl _)
  · have hf := if_f hf c_7
    refine g_iconst (v := (1 : Int32)) C (ckD_get k_X2_isLeft_0 14 rfl) (by decide) ?_
    refine g_goto C (ckD_get k_X2_isLeft_0 15 rfl) ?_
    cases hf
    exact g_zret C (ckD_get k_X2_isLeft_0 17 rfl) hr rfl hRv (Nat.le_refl _) (Nat.le_refl _)

set_option maxRecDepth 20000 in
theorem k_X2_isBelow_0 : ckD cX2_isBelow [(0, .aload_n 0, 1, 1, 0), (1, .getfield 15, 3, 4, 0), (4, .iload_n 1, 1, 5, 0), (5, .iaload, 1, 6, 0), (6, .aload_n 0, 1, 7, 0), (7, .getfield 21, 3, 10, 0), (10, .iload_n 1, 1, 11, 0), (11, .iaload, 1, 12, 0), (12, .iadd, 1, 13, 0), (13, .aload_n 0, 1, 14, 0), (14, .getfield 15, 3, 17, 0), (17, .iload_n 2, 1, 18, 0), (18, .iaload, 1, 19, 0), (19, .if_icmp .gt 7, 3, 22, 26), (22, .iconst 1, 1, 23, 0), (23, .goto 4, 3, 26, 27), (26, .iconst 0, 1, 27, 0), (27, .ireturn, 1, 28, 0)] = true := by decide +kernel
def f_X2_isBelow (k0 : Nat) (a1 : Int32) (a2 : Int32) (M : Mm) : Option Int32 := rdI 12 M (k0 + 2) a1 fun v_1 => rdI 12 M (k0 + 4) a1 fun v_3 => rdI 12 M (k0 + 2) a2 fun v_5 => if v_5 < (v_1 + v_3) then some (0 : Int32) else some (1 : Int32)
set_option maxRecDepth 100000 in
set_option maxHeartbeats 4000000 in
theorem t_X2_isBelow {E : Ev} {l : Launch} (htr : l.stackTraces = false) (k0 : Nat) (hk0 : isGr k0) (a1 : Int32) (a2 : Int32) (M : Mm) (r : Int32) (hf : f_X2_isBelow k0 a1 a2 M = some r) : CM E l 0 0 0 yX2_isBelow cX2_isBelow 3 (some .boolean) [.ref (E.1 + k0), .int a1, .int a2] M (some (.int r)) M := by
  refine CM.of htr (by decide +kernel) (Nat.le_of_ble_eq_true rfl) ?_
  intro K hE hL hl hR0 C hr hRv
  subst hE
  subst hl
  have C : Cx K cX2_isBelow RX2 0 := C
  have hB : (0 : Nat) ≤ K.1.R.cells ∧ 0 ≤ K.1.R.slots := ⟨Nat.zero_le _, Nat.zero_le _⟩
  show G K (0, 0) 0 [(0, .ref (K.2.1.1 + k0)), (1, .int a1), (2, .int a2)] [] M
  unfold f_X2_isBelow at hf
  refine g_aload_n 0 C (ckD_get k_X2_isBelow_0 0 rfl) rfl rfl ?_
  refine g_getR C (ckD_get k_X2_isBelow_0 1 rfl) fk_X2_15 (T_Gr hk0) rfl ?_
  refine g_iload_n 1 C (ckD_get k_X2_isBelow_0 2 rfl) rfl rfl ?_
  obtain ⟨v_1, hi_2, ev_1, hf⟩ := rdI_e hf
  refine n_iald C (ckD_get k_X2_isBelow_0 3 rfl) (T_Gr2 hk0) hi_2 ev_1 ?_
  refine g_aload_n 0 C (ckD_get k_X2_isBelow_0 4 rfl) rfl rfl ?_
  refine g_getR C (ckD_get k_X2_isBelow_0 5 rfl) fk_X2_21 (T_Gr hk0) rfl ?_
  refine g_iload_n 1 C (ckD_get k_X2_isBelow_0 6 rfl) rfl rfl ?_
  obtain ⟨v_3, hi_4, ev_3, hf⟩ := rdI_e hf
  refine n_iald C (ckD_get k_X2_isBelow_0 7 rfl) (T_Gr4 hk0) hi_4 ev_3 ?_
  refine g_iadd C (ckD_get k_X2_isBelow_0 8 rfl) ?_
  refine g_aload_n 0 C (ckD_get k_X2_isBelow_0 9 rfl) rfl rfl ?_
  refine g_getR C (ckD_get k_X2_isBelow_0 10 rfl) fk_X2_15 (T_Gr hk0) rfl ?_
  refine g_iload_n 2 C (ckD_get k_X2_isBelow_0 11 rfl) rfl rfl ?_
  obtain ⟨v_5, hi_6, ev_5, hf⟩ := rdI_e hf
  refine n_iald C (ckD_get k_X2_isBelow_0 12 rfl) (T_Gr2 hk0) hi_6 ev_5 ?_
  refine g_icmp_gt C (ckD_get k_X2_isBelow_0 13 rfl) (fun c_7 => ?_) (fun c_7 => ?_)
  · have hf := if_t hf c_7
    refine g_iconst (v := (0 : Int32)) C (ckD_get k_X2_isBelow_0 16 rfl) (by decide) ?_
    cases hf
    exact g_zret C (ckD_get k_X2_isBelow_0 17 rfl) hr rfl hRv (Nat.le_refl _) (Nat.le_refl _)
  · have hf := if_f hf c_7
    refine g_iconst (v := (1 : Int32)) C (ckD_get k_X2_isBelow_0 14 rfl) (by decide) ?_
    refine g_goto C (ckD_get k_X2_isBelow_0 15 rfl) ?_
    cases hf
    exact g_zret C (ckD_get k_X2_isBelow_0 17 rfl) hr rfl hRv (Nat.le_refl _) (Nat.le_refl _)

set_option maxRecDepth 20000 in
theorem k_X2_doClash_0 : ckD cX2_doClash [(0, .aload_n 0, 1, 1, 0), (1, .iload_n 1, 1, 2, 0), (2, .iload_n 2, 1, 3, 0), (3, .invokevirtual 62, 3, 6, 0), (6, .ifCond .ne 34, 3, 9, 40), (9, .aload_n 0, 1, 10, 0), (10, .iload_n 2, 1, 11, 0), (11, .iload_n 1, 1, 12, 0), (12, .invokevirtual 62, 3, 15, 0), (15, .ifCond .ne 25, 3, 18, 40), (18, .aload_n 0, 1, 19, 0), (19, .iload_n 1, 1, 20, 0), (20, .iload_n 2, 1, 21, 0), (21, .invokevirtual 66, 3, 24, 0), (24, .ifCond .ne 16, 3, 27, 40), (27, .aload_n 0, 1, 28, 0), (28, .iload_n 2, 1, 29, 0), (29, .iload_n 1, 1, 30, 0), (30, .invokevirtual 66, 3, 33, 0), (33, .ifCond .ne 7, 3, 36, 40), (36, .iconst 1, 1, 37, 0), (37, .goto 4, 3, 40, 41), (40, .iconst 0, 1, 41, 0), (41, .ireturn, 1, 42, 0)] = true := by decide +kernel
def f_X2_doClash (k0 : Nat) (a1 : Int32) (a2 : Int32) (M : Mm) : Option Int32 := (f_X2_isLeft k0 a1 a2 M).bind fun r_2 => if r_2 = 0 then (f_X2_isLeft k0 a2 a1 M).bind fun r_5 => if r_5 = 0 then (f_X2_isBelow k0 a1 a2 M).bind fun r_8 => if r_8 = 0 then (f_X2_isBelow k0 a2 a1 M).bind fun r_11 => if r_11 = 0 then some (1 : Int32) else some (0 : Int32) else some (0 : Int32) else some (0 : Int32) else some (0 : Int32)
set_option maxRecDepth 100000 in
set_option maxHeartbeats 4000000 in
theorem t_X2_doClash {E : Ev} {l : Launch} (htr : l.stackTraces = false) (k0 : Nat) (hk0 : isGr k0) (a1 : Int32) (a2 : Int32) (M : Mm) (r : Int32) (hf : f_X2_doClash k0 a1 a2 M = some r) : CM E l 1 0 0 yX2_doClash cX2_doClash 3 (some .boolean) [.ref (E.1 + k0), .int a1, .int a2] M (some (.int r)) M := by
  refine CM.of htr (by decide +kernel) (Nat.le_of_ble_eq_true rfl) ?_
  intro K hE hL hl hR0 C hr hRv
  subst hE
  subst hl
  have C : Cx K cX2_doClash RX2 1 := C
  have hB : (0 : Nat) ≤ K.1.R.cells ∧ 0 ≤ K.1.R.slots := ⟨Nat.zero_le _, Nat.zero_le _⟩
  show G K (0, 0) 0 [(0, .ref (K.2.1.1 + k0)), (1, .int a1), (2, .int a2)] [] M
  unfold f_X2_doClash at hf
  refine g_aload_n 0 C (ckD_get k_X2_doClash_0 0 rfl) rfl rfl ?_
  refine g_iload_n 1 C (ckD_get k_X2_doClash_0 1 rfl) rfl rfl ?_
  refine g_iload_n 2 C (ckD_get k_X2_doClash_0 2 rfl) rfl rfl ?_
  obtain ⟨r_2, hr_1, hf⟩ := bd_e hf
  refine n_cV [.int a1, .int a2] [] C (ckD_get k_X2_doClash_0 3 rfl) vk_X2_62 (t_X2_isLeft C.tr _ hk0 _ _ _ _ hr_1) (T_Gr hk0) rfl rfl (Nat.le_of_ble_eq_true rfl) (by decide) hB rfl ?_
  refine g_if_ne C (ckD_get k_X2_doClash_0 4 rfl) (fun c_3 => ?_) (fun c_3 => ?_)
  · have hf := if_f hf c_3
    refine g_iconst (v := (0 : Int32)) C (ckD_get k_X2_doClash_0 22 rfl) (by decide) ?_
    cases hf
    exact g_zret C (ckD_get k_X2_doClash_0 23 rfl) hr rfl hRv (Nat.le_refl _) (Nat.le_refl _)
  · have hf := if_t hf c_3
    refine g_aload_n 0 C (ckD_get k_X2_doClash_0 5 rfl) rfl rfl ?_
    refine g_iload_n 2 C (ckD_get k_X2_doClash_0 6 rfl) rfl rfl ?_
    refine g_iload_n 1 C (ckD_get k_X2_doClash_0 7 rfl) rfl rfl ?_
    obtain ⟨r_5, hr_4, hf⟩ := bd_e hf
    refine n_cV [.int a2, .int a1] [] C (ckD_get k_X2_doClash_0 8 rfl) vk_X2_62 (t_X2_isLeft C.tr _ hk0 _ _ _ _ hr_4) (T_Gr hk0) rfl rfl (Nat.le_of_ble_eq_true rfl) (by decide) hB rfl ?_
    refine g_if_ne C (ckD_get k_X2_doClash_0 9 rfl) (fun c_6 => ?_) (fun c_6 => ?_)
    · have hf := if_f hf c_6
      refine g_iconst (v := (0 : Int32)) C (ckD_get k_X2_doClash_0 22 rfl) (by decide) ?_
      cases hf
      exact g_zret C (ckD_get k_X2_doClash_0 23 rfl) hr rfl hRv (Nat.le_refl _) (Nat.le_refl _)
    · have hf := if_t hf c_6
      refine g_aload_n 0 C (ckD_get k_X2_doClash_0 10 rfl) rfl rfl ?_
      refine g_iload_n 1 C (ckD_get k_X2_doClash_0 11 rfl) rfl rfl ?_
      refine g_iload_n 2 C (ckD_get k_X2_doClash_0 12 rfl) rfl rfl ?_
      obtain ⟨r_8, hr_7, hf⟩ := bd_e hf
      refine n_cV [.int a1, .int a2] [] C (ckD_get k_X2_doClash_0 13 rfl) vk_X2_66 (t_X2_isBelow C.tr _ hk0 _ _ _ _ hr_7) (T_Gr hk0) rfl rfl (Nat.le_of_ble_eq_true rfl) (by decide) hB rfl ?_
      refine g_if_ne C (ckD_get k_X2_doClash_0 14 rfl) (fun c_9 => ?_) (fun c_9 => ?_)
      · have hf := if_f hf c_9
        refine g_iconst (v := (0 : Int32)) C (ckD_get k_X2_doClash_0 22 rfl) (by decide) ?_
        cases hf
        exact g_zret C (ckD_get k_X2_doClash_0 23 rfl) hr rfl hRv (Nat.le_refl _) (Nat.le_refl _)
      · have hf := if_t hf c_9
        refine g_aload_n 0 C (ckD_get k_X2_doClash_0 15 rfl) rfl rfl ?_
        refine g_iload_n 2 C (ckD_get k_X2_doClash_0 16 rfl) rfl rfl ?_
        refine g_iload_n 1 C (ckD_get k_X2_doClash_0 17 rfl) rfl rfl ?_
        obtain ⟨r_11, hr_10, hf⟩ := bd_e hf
        refine n_cV [.int a2, .int a1] [] C (ckD_get k_X2_doClash_0 18 rfl) vk_X2_66 (t_X2_isBelow C.tr _ hk0 _ _ _ _ hr_10) (T_Gr hk0) rfl rfl (Nat.le_of_ble_eq_true rfl) (by decide) hB rfl ?_
        refine g_if_ne C (ckD_get k_X2_doClash_0 19 rfl) (fun c_12 => ?_) (fun c_12 => ?_)
        · have hf := if_f hf c_12
          refine g_iconst (v := (0 : Int32)) C (ckD_get k_X2_doClash_0 22 rfl) (by decide) ?_
          cases hf
          exact g_zret C (ckD_get k_X2_doClash_0 23 rfl) hr rfl hRv (Nat.le_refl _) (Nat.le_refl _)
        · have hf := if_t hf c_12
          refine g_iconst (v := (1 : Int32)) C (ckD_get k_X2_doClash_0 20 rfl) (by decide) ?_
          refine g_goto C (ckD_get k_X2_doClash_0 21 rfl) ?_
          cases hf
          exact g_zret C (ckD_get k_X2_doClash_0 23 rfl) hr rfl hRv (Nat.le_refl _) (Nat.le_refl _)

set_option maxRecDepth 20000 in
theorem k_X2_firstClash_0 : ckD cX2_firstClash [(0, .iconst 0, 1, 1, 0), (1, .istore_n 1, 1, 2, 0), (2, .iload_n 1, 1, 3, 0), (3, .aload_n 0, 1, 4, 0), (4, .getfield 33, 3, 7, 0), (7, .if_icmp .ge 42, 3, 10, 49), (10, .iload_n 1, 1, 11, 0), (11, .iconst 1, 1, 12, 0), (12, .iadd, 1, 13, 0), (13, .istore_n 2, 1, 14, 0), (14, .iload_n 2, 1, 15, 0), (15, .aload_n 0, 1, 16, 0), (16, .getfield 33, 3, 19, 0), (19, .if_icmp .ge 24, 3, 22, 43), (22, .aload_n 0, 1, 23, 0), (23, .iload_n 1, 1, 24, 0), (24, .iload_n 2, 1, 25, 0), (25, .invokevirtual 69, 3, 28, 0), (28, .ifCond .eq 9, 3, 31, 37), (31, .iload_n 1, 1, 32, 0), (32, .iconst 4, 1, 33, 0), (33, .ishl, 1, 34, 0), (34, .iload_n 2, 1, 35, 0), (35, .ior, 1, 36, 0), (36, .ireturn, 1, 37, 0), (37, .iinc 2 1, 3, 40, 0), (40, .goto (-26), 3, 43, 14), (43, .iinc 1 1, 3, 46, 0), (46, .goto (-44), 3, 49, 2), (49, .iconst (-1), 1, 50, 0), (50, .ireturn, 1, 51, 0)] = true := by decide +kernel
def f_X2_firstClash_A2  : Option Int32 := some (-1 : Int32)
def f_X2_firstClash_A14 (x1_1 : Int32) : Option (Int32 ⊕ (Unit ⊕ Int32)) := lt1 (x1_1 + 1) fun x1_5 => some (.inl x1_5)
def f_X2_firstClash_L14 (k0 : Nat) (M : Mm) (x1_1 : Int32) (x2_4 : Int32) : Option (Int32 ⊕ (Unit ⊕ Int32)) := if (M.1 k0 6) ≤ x2_4 then some (.inr (.inl ())) else (f_X2_doClash k0 x1_1 x2_4 M).bind fun r_8 => if r_8 = 0 then lt1 (x2_4 + 1) fun x2_10 => some (.inl x2_10) else some (.inr (.inr ((x1_1 <<< ((4 : Int32) &&& 31)) ||| x2_4)))
def f_X2_firstClash_L2 (k0 : Nat) (M : Mm) (x1_1 : Int32) : Option (Int32 ⊕ (Unit ⊕ Int32)) := if (M.1 k0 6) ≤ x1_1 then some (.inr (.inl ())) else lt1 (x1_1 + (1 : Int32)) fun x2_3 => (loop (fun v => f_X2_firstClash_L14 k0 M x1_1 v) FU x2_3).bind fun x => Sum.elim (fun z => f_X2_firstClash_A14 x1_1 ) (fun o => some (.inr (.inr o))) x
def f_X2_firstClash (k0 : Nat) (M : Mm) : Option Int32 := (loop (fun v => f_X2_firstClash_L2 k0 M v) FU (0 : Int32)).bind fun x => Sum.elim (fun z => f_X2_firstClash_A2 ) (fun o => some o) x
set_option maxRecDepth 100000 in
set_option maxHeartbeats 4000000 in
theorem t_X2_firstClash {E : Ev} {l : Launch} (htr : l.stackTraces = false) (k0 : Nat) (hk0 : isGr k0) (M : Mm) (r : Int32) (hf : f_X2_firstClash k0 M = some r) : CM E l 2 0 0 yX2_firstClash cX2_firstClash 3 (some .int) [.ref (E.1 + k0)] M (some (.int r)) M := by
  refine CM.of htr (by decide +kernel) (Nat.le_of_ble_eq_true rfl) ?_
  intro K hE hL hl hR0 C hr hRv
  subst hE
  subst hl
  have C : Cx K cX2_firstClash RX2 2 := C
  have hB : (0 : Nat) ≤ K.1.R.cells ∧ 0 ≤ K.1.R.slots := ⟨Nat.zero_le _, Nat.zero_le _⟩
  have hL1 : 1 < K.2.2.1 := by rw [hL]; decide
  have hL2 : 2 < K.2.2.1 := by rw [hL]; decide
  show G K (0, 0) 0 [(0, .ref (K.2.1.1 + k0))] [] M
  unfold f_X2_firstClash at hf
  refine g_iconst (v := (0 : Int32)) C (ckD_get k_X2_firstClash_0 0 rfl) (by decide) ?_
  refine g_istore_n (lv' := [(1, _), (0, _)]) C (ckD_get k_X2_firstClash_0 1 rfl) rfl hL1 rfl ?_
  refine G.sub [1, 0] rfl ?_
  obtain ⟨xx_2, hx_2, hf⟩ := bd_e hf
  have hE_2 : ∀ (_ : Unit), xx_2 = .inl () → G K (0, 0) 49 [] [] M := by
    intro _ ex
    subst ex
    have hf : f_X2_firstClash_A2  = some r := hf
    unfold f_X2_firstClash_A2 at hf
    refine g_iconst (v := (-1 : Int32)) C (ckD_get k_X2_firstClash_0 29 rfl) (by decide) ?_
    cases hf
    exact g_iret C (ckD_get k_X2_firstClash_0 30 rfl) hr hRv (Nat.le_refl _) (Nat.le_refl _)
  have hO_2 : ∀ o, xx_2 = .inr o → o = r := by
    intro o eo
    subst eo
    have hf : some o = some r := hf
    cases hf
    rfl
  refine loop_e (x := xx_2) (P := fun (v : Int32) => G K (0, 0) 2 [(0, .ref (K.2.1.1 + k0)), (1, .int v)] [] M) ?_ FU _ hx_2
  intro x1_1 rr_2 hf hn_2 hz_2
  have hf : f_X2_firstClash_L2 k0 M x1_1 = some rr_2 := hf
  show G K (0, 0) 2 [(0, .ref (K.2.1.1 + k0)), (1, .int x1_1)] [] M
  unfold f_X2_firstClash_L2 at hf
  refine g_iload_n 1 C (ckD_get k_X2_firstClash_0 2 rfl) rfl rfl ?_
  refine g_aload_n 0 C (ckD_get k_X2_firstClash_0 3 rfl) rfl rfl ?_
  refine g_getI C (ckD_get k_X2_firstClash_0 4 rfl) fk_X2_33 (T_Gr hk0) rfl ?_
  refine g_icmp_ge C (ckD_get k_X2_firstClash_0 5 rfl) (fun c_2 => ?_) (fun c_2 => ?_)
  · have hf := if_t hf c_2
    refine G.sub [] rfl ?_
    cases hf
    exact hE_2  (hz_2 _ rfl).symm
  · have hf := if_f hf c_2
    refine g_iload_n 1 C (ckD_get k_X2_firstClash_0 6 rfl) rfl rfl ?_
    refine g_iconst (v := (1 : Int32)) C (ckD_get k_X2_firstClash_0 7 rfl) (by decide) ?_
    refine g_iadd C (ckD_get k_X2_firstClash_0 8 rfl) ?_
    obtain ⟨x2_3, ex2_3, hf⟩ := lt_e hf
    refine topI ex2_3 ?_
    refine g_istore_n (lv' := [(2, _), (0, _), (1, _)]) C (ckD_get k_X2_firstClash_0 9 rfl) rfl hL2 rfl ?_
    refine G.sub [1, 2, 0] rfl ?_
    obtain ⟨xx_14, hx_14, hf⟩ := bd_e hf
    have hE_14 : ∀ (_ : Unit), xx_14 = .inl () → G K (0, 0) 43 [(0, .ref (K.2.1.1 + k0)), (1, .int x1_5)] [] M := by
      intro _ ex
      subst ex
      have hf : f_X2_firstClash_A14 x1_1  = some rr_2 := hf
      unfold f_X2_firstClash_A14 at hf
      obtain ⟨x1_5, ex1_5, hf⟩ := lt_e hf
      refine g_iinc (lv' := [(1, _), (0, _)]) 1 C (ckD_get k_X2_firstClash_0 27 rfl) rfl ex1_5 hL1 rfl ?_
      refine g_goto C (ckD_get k_X2_firstClash_0 28 rfl) ?_
      refine G.sub [1, 0] rfl ?_
      cases hf
      exact hn_2 _ rfl
    have hO_14 : ∀ o, xx_14 = .inr o → o = r := by
      intro o eo
      subst eo
      have hf : some (.inr (.inr o)) = some rr_2 := hf
      cases hf
      exact hO_2 _ (hz_2 _ rfl).symm
    refine loop_e (x := xx_14) (P := fun (v : Int32) => G K (0, 0) 14 [(0, .ref (K.2.1.1 + k0)), (1, .int x1_1), (2, .int v)] [] M) ?_ FU _ hx_14
    intro x2_4 rr_14 hf hn_14 hz_14
    have hf : f_X2_firstClash_L14 k0 M x1_1 x2_4 = some rr_14 := hf
    show G K (0, 0) 14 [(0, .ref (K.2.1.1 + k0)), (1, .int x1_1), (2, .int x2_4)] [] M
    unfold f_X2_firstClash_L14 at hf
    refine g_iload_n 2 C (ckD_get k_X2_firstClash_0 10 rfl) rfl rfl ?_
    refine g_aload_n 0 C (ckD_get k_X2_firstClash_0 11 rfl) rfl rfl ?_
    refine g_getI C (ckD_get k_X2_firstClash_0 12 rfl) fk_X2_33 (T_Gr hk0) rfl ?_
    refine g_icmp_ge C (ckD_get k_X2_firstClash_0 13 rfl) (fun c_6 => ?_) (fun c_6 => ?_)
    · have hf := if_t hf c_6
      refine G.sub [0, 1] rfl ?_
      cases hf
      exact hE_14  (hz_14 _ rfl).symm
    · have hf := if_f hf c_6
      refine g_aload_n 0 C (ckD_get k_X2_firstClash_0 14 rfl) rfl rfl ?_
      refine g_iload_n 1 C (ckD_get k_X2_firstClash_0 15 rfl) rfl rfl ?_
      refine g_iload_n 2 C (ckD_get k_X2_firstClash_0 16 rfl) rfl rfl ?_
      obtain ⟨r_8, hr_7, hf⟩ := bd_e hf
      refine n_cV [.int x1_1, .int x2_4] [] C (ckD_get k_X2_firstClash_0 17 rfl) vk_X2_69 (t_X2_doClash C.tr _ hk0 _ _ _ _ hr_7) (T_Gr hk0) rfl rfl (Nat.le_of_ble_eq_true rfl) (by decide) hB rfl ?_
      refine g_if_eq C (ckD_get k_X2_firstClash_0 18 rfl) (fun c_9 => ?_) (fun c_9 => ?_)
      · have hf := if_t hf c_9
        obtain ⟨x2_10, ex2_10, hf⟩ := lt_e hf
        refine g_iinc (lv' := [(2, _), (0, _), (1, _)]) 2 C (ckD_get k_X2_firstClash_0 25 rfl) rfl ex2_10 hL2 rfl ?_
        refine g_goto C (ckD_get k_X2_firstClash_0 26 rfl) ?_
        refine G.sub [1, 2, 0] rfl ?_
        cases hf
        exact hn_14 _ rfl
      · have hf := if_f hf c_9
        refine g_iload_n 1 C (ckD_get k_X2_firstClash_0 19 rfl) rfl rfl ?_
        refine g_iconst (v := (4 : Int32)) C (ckD_get k_X2_firstClash_0 20 rfl) (by decide) ?_
        refine g_ishl C (ckD_get k_X2_firstClash_0 21 rfl) ?_
        refine g_iload_n 2 C (ckD_get k_X2_firstClash_0 22 rfl) rfl rfl ?_
        refine g_ior C (ckD_get k_X2_firstClash_0 23 rfl) ?_
        cases hf
        cases hO_14 _ (hz_14 _ rfl).symm
        exact g_iret C (ckD_get k_X2_firstClash_0 24 rfl) hr hRv (Nat.le_refl _) (Nat.le_refl _)

set_option maxRecDepth 20000 in
theorem k_X2_setSides_0 : ckD cX2_setSides [(0, .aload_n 0, 1, 1, 0), (1, .getfield 37, 3, 4, 0), (4, .iload_n 2, 1, 5, 0), (5, .invokestatic 47, 3, 8, 0), (8, .iconst 1, 1, 9, 0), (9, .if_icmp .ne 7, 3, 12, 16), (12, .iconst 1, 1, 13, 0), (13, .goto 4, 3, 16, 17), (16, .iconst 0, 1, 17, 0), (17, .istore_n 3, 1, 18, 0), (18, .aload_n 0, 1, 19, 0), (19, .getfield 18, 3, 22, 0), (22, .iload_n 2, 1, 23, 0), (23, .iload_n 3, 1, 24, 0), (24, .ifCond .eq 12, 3, 27, 36), (27, .aload_n 1, 1, 28, 0), (28, .getfield 51, 3, 31, 0), (31, .iload_n 2, 1, 32, 0), (32, .iaload, 1, 33, 0), (33, .goto 9, 3, 36, 42), (36, .aload_n 1, 1, 37, 0), (37, .getfield 52, 3, 40, 0), (40, .iload_n 2, 1, 41, 0), (41, .iaload, 1, 42, 0), (42, .iastore, 1, 43, 0), (43, .aload_n 0, 1, 44, 0), (44, .getfield 21, 3, 47, 0), (47, .iload_n 2, 1, 48, 0), (48, .iload_n 3, 1, 49, 0), (49, .ifCond .eq 12, 3, 52, 61), (52, .aload_n 1, 1, 53, 0), (53, .getfield 52, 3, 56, 0), (56, .iload_n 2, 1, 57, 0), (57, .iaload, 1, 58, 0), (58, .goto 9, 3, 61, 67), (61, .aload_n 1, 1, 62, 0), (62, .getfield 51, 3, 65, 0), (65, .iload_n 2, 1, 66, 0), (66, .iaload, 1, 67, 0), (67, .iastore, 1, 68, 0)] = true := by decide +kernel
set_option maxRecDepth 20000 in
theorem k_X2_setSides_1 : ckD cX2_setSides [(68, .return_, 1, 69, 0)] = true := by decide +kernel
def f_X2_setSides_J67 (k0 : Nat) (a2 : Int32) (M_3 : Mm) (s_5 : Int32) : Option Mm := wrI 12 M_3 (k0 + 4) a2 s_5 fun M_6 => some M_6
def f_X2_setSides_J42 (k0 : Nat) (a2 : Int32) (M : Mm) (s_1 : Int32) (s_2 : Int32) : Option Mm := wrI 12 M (k0 + 3) a2 s_2 fun M_3 => if s_1 = 0 then rdI 12 M_3 3 a2 fun v_9 => f_X2_setSides_J67 k0 a2 M_3 v_9 else rdI 12 M_3 2 a2 fun v_11 => f_X2_setSides_J67 k0 a2 M_3 v_11
def f_X2_setSides_J17 (k0 : Nat) (a2 : Int32) (M : Mm) (s_1 : Int32) : Option Mm := if s_1 = 0 then rdI 12 M 2 a2 fun v_14 => f_X2_setSides_J42 k0 a2 M s_1 v_14 else rdI 12 M 3 a2 fun v_16 => f_X2_setSides_J42 k0 a2 M s_1 v_16
def f_X2_setSides (k0 : Nat) (a2 : Int32) (M : Mm) : Option Mm := if (f_X9_bitOf (M.1 k0 5) a2) = (1 : Int32) then f_X2_setSides_J17 k0 a2 M (1 : Int32) else f_X2_setSides_J17 k0 a2 M (0 : Int32)
set_option maxRecDepth 100000 in
set_option maxHeartbeats 4000000 in
theorem t_X2_setSides {E : Ev} {l : Launch} (htr : l.stackTraces = false) (k0 : Nat) (hk0 : isGr k0) (a2 : Int32) (M : Mm) (r : Mm) (hf : f_X2_setSides k0 a2 M = some r) : CM E l 1 0 0 yX2_setSides cX2_setSides 4 none [.ref (E.1 + k0), .ref (E.1 + 1), .int a2] M none r := by
  refine CM.of htr (by decide +kernel) (Nat.le_of_ble_eq_true rfl) ?_
  intro K hE hL hl hR0 C hr hRv
  subst hE
  subst hl
  have C : Cx K cX2_setSides RX2 1 := C
  have hB : (0 : Nat) ≤ K.1.R.cells ∧ 0 ≤ K.1.R.slots := ⟨Nat.zero_le _, Nat.zero_le _⟩
  have hL3 : 3 < K.2.2.1 := by rw [hL]; decide
  show G K (0, 0) 0 [(0, .ref (K.2.1.1 + k0)), (1, .ref (K.2.1.1 + 1)), (2, .int a2)] [] M
  unfold f_X2_setSides at hf
  refine g_aload_n 0 C (ckD_get k_X2_setSides_0 0 rfl) rfl rfl ?_
  refine g_getI C (ckD_get k_X2_setSides_0 1 rfl) fk_X2_37 (T_Gr hk0) rfl ?_
  refine g_iload_n 2 C (ckD_get k_X2_setSides_0 2 rfl) rfl rfl ?_
  refine n_cN [.int (M.1 k0 5), .int a2] [] C (ckD_get k_X2_setSides_0 3 rfl) nk_X2_47 (t_X9_bitOf C.tr _ _ _ _ rfl) rfl rfl (Nat.le_of_ble_eq_true rfl) (by decide) hB rfl ?_
  refine g_iconst (v := (1 : Int32)) C (ckD_get k_X2_setSides_0 4 rfl) (by decide) ?_
  have hJ_17 : ∀ (s_1 : Int32), f_X2_setSides_J17 k0 a2 M s_1 = some r → G K (0, 0) 17 [(0, .ref (K.2.1.1 + k0)), (1, .ref (K.2.1.1 + 1)), (2, .int a2)] [.int s_1] M := by
    intro s_1 hf
    unfold f_X2_setSides_J17 at hf
    refine g_istore_n (lv' := [(3, _), (0, _), (1, _), (2, _)]) C (ckD_get k_X2_setSides_0 9 rfl) rfl hL3 rfl ?_
    refine g_aload_n 1 C (ckD_get k_X2_setSides_0 10 rfl) rfl rfl ?_
    refine g_getR C (ckD_get k_X2_setSides_0 11 rfl) fk_X2_18 (T_Gr hk0) rfl ?_
    refine g_iload_n 3 C (ckD_get k_X2_setSides_0 12 rfl) rfl rfl ?_
    refine g_iload_n 0 C (ckD_get k_X2_setSides_0 13 rfl) rfl rfl ?_
    have hJ_42 : ∀ (s_2 : Int32), f_X2_setSides_J42 k0 a2 M s_1 s_2 = some r → G K (0, 0) 42 [(0, .ref (K.2.1.1 + k0)), (1, .ref (K.2.1.1 + 1)), (2, .int a2), (3, .int s_1)] [.int s_2, .int a2, .ref (K.2.1.1 + (k0 + 3))] M := by
      intro s_2 hf
      unfold f_X2_setSides_J42 at hf
      obtain ⟨M_3, hi_4, eM_3, hf⟩ := wrI_e hf
      refine n_iast C (ckD_get k_X2_setSides_0 24 rfl) (T_Gr3 hk0) hi_4 eM_3 ?_
      refine g_aload_n 0 C (ckD_get k_X2_setSides_0 25 rfl) rfl rfl ?_
      refine g_getR C (ckD_get k_X2_setSides_0 26 rfl) fk_X2_21 (T_Gr hk0) rfl ?_
      refine g_iload_n 2 C (ckD_get k_X2_setSides_0 27 rfl) rfl rfl ?_
      refine g_iload_n 3 C (ckD_get k_X2_setSides_0 28 rfl) rfl rfl ?_
      have hJ_67 : ∀ (s_5 : Int32), f_X2_setSides_J67 k0 a2 M_3 s_5 = some r → G K (0, 0) 67 [] [.int s_5, .int a2, .ref (K.2.1.1 + (k0 + 4))] M_3 := by
        intro s_5 hf
        unfold f_X2_setSides_J67 at hf
        obtain ⟨M_6, hi_7, eM_6, hf⟩ := wrI_e hf
        refine n_iast C (ckD_get k_X2_setSides_0 39 rfl) (T_Gr4 hk0) hi_7 eM_6 ?_
        cases hf
        exact g_vret C (ckD_get k_X2_setSides_1 0 rfl) hr hRv (Nat.le_refl _) (Nat.le_refl _)
      refine g_if_eq C (ckD_get k_X2_setSides_0 29 rfl) (fun c_8 => ?_) (fun c_8 => ?_)
      · have hf := if_t hf c_8
        refine g_aload_n 1 C (ckD_get k_X2_setSides_0 35 rfl) rfl rfl ?_
        refine g_getR C (ckD_get k_X2_setSides_0 36 rfl) fk_X2_51 T1 rfl ?_
        refine g_iload_n 2 C (ckD_get k_X2_setSides_0 37 rfl) rfl rfl ?_
        obtain ⟨v_9, hi_10, ev_9, hf⟩ := rdI_e hf
        refine n_iald C (ckD_get k_X2_setSides_0 38 rfl) T3 hi_10 ev_9 ?_
        refine G.sub [] rfl ?_
        exact hJ_67 _ hf
      · have hf := if_f hf c_8
        refine g_aload_n 1 C (ckD_get k_X2_setSides_0 30 rfl) rfl rfl ?_
        refine g_getR C (ckD_get k_X2_setSides_0 31 rfl) fk_X2_52 T1 rfl ?_
        refine g_iload_n 2 C (ckD_get k_X2_setSides_0 32 rfl) rfl rfl ?_
        obtain ⟨v_11, hi_12, ev_11, hf⟩ := rdI_e hf
        refine n_iald C (ckD_get k_X2_setSides_0 33 rfl) T2 hi_12 ev_11 ?_
        refine g_goto C (ckD_get k_X2_setSides_0 34 rfl) ?_
        refine G.sub [] rfl ?_
        exact hJ_67 _ hf
    refine g_if_eq C (ckD_get k_X2_setSides_0 14 rfl) (fun c_13 => ?_) (fun c_13 => ?_)
    · have hf := if_t hf c_13
      refine g_aload_n 2 C (ckD_get k_X2_setSides_0 20 rfl) rfl rfl ?_
      refine g_getR C (ckD_get k_X2_setSides_0 21 rfl) fk_X2_52 T1 rfl ?_
      refine g_iload_n 3 C (ckD_get k_X2_setSides_0 22 rfl) rfl rfl ?_
      obtain ⟨v_14, hi_15, ev_14, hf⟩ := rdI_e hf
      refine n_iald C (ckD_get k_X2_setSides_0 23 rfl) T2 hi_15 ev_14 ?_
      refine G.sub [1, 2, 3, 0] rfl ?_
      exact hJ_42 _ hf
    · have hf := if_f hf c_13
      refine g_aload_n 2 C (ckD_get k_X2_setSides_0 15 rfl) rfl rfl ?_
      refine g_getR C (ckD_get k_X2_setSides_0 16 rfl) fk_X2_51 T1 rfl ?_
      refine g_iload_n 3 C (ckD_get k_X2_setSides_0 17 rfl) rfl rfl ?_
      obtain ⟨v_16, hi_17, ev_16, hf⟩ := rdI_e hf
      refine n_iald C (ckD_get k_X2_setSides_0 18 rfl) T3 hi_17 ev_16 ?_
      refine g_goto C (ckD_get k_X2_setSides_0 19 rfl) ?_
      refine G.sub [1, 2, 3, 0] rfl ?_
      exact hJ_42 _ hf
  refine g_icmp_ne C (ckD_get k_X2_setSides_0 5 rfl) (fun c_18 => ?_) (fun c_18 => ?_)
  · have hf := if_f hf c_18
    refine g_iconst (v := (0 : Int32)) C (ckD_get k_X2_setSides_0 8 rfl) (by decide) ?_
    exact hJ_17 _ hf
  · have hf := if_t hf c_18
    refine g_iconst (v := (1 : Int32)) C (ckD_get k_X2_setSides_0 6 rfl) (by decide) ?_
    refine g_goto C (ckD_get k_X2_setSides_0 7 rfl) ?_
    exact hJ_17 _ hf

set_option maxRecDepth 20000 in
theorem k_X2_take_0 : ckD cX2_take [(0, .aload_n 0, 1, 1, 0), (1, .aload_n 1, 1, 2, 0), (2, .getfield 27, 3, 5, 0), (5, .putfield 33, 3, 8, 0), (8, .aload_n 0, 1, 9, 0), (9, .iload_n 2, 1, 10, 0), (10, .aload_n 1, 1, 11, 0), (11, .getfield 34, 3, 14, 0), (14, .iand, 1, 15, 0), (15, .putfield 37, 3, 18, 0), (18, .iconst 0, 1, 19, 0), (19, .istore_n 3, 1, 20, 0), (20, .iload_n 3, 1, 21, 0), (21, .aload_n 0, 1, 22, 0), (22, .getfield 33, 3, 25, 0), (25, .if_icmp .ge 15, 3, 28, 40), (28, .aload_n 0, 1, 29, 0), (29, .aload_n 1, 1, 30, 0), (30, .iload_n 3, 1, 31, 0), (31, .invokevirtual 40, 3, 34, 0), (34, .iinc 3 1, 3, 37, 0), (37, .goto (-17), 3, 40, 20), (40, .return_, 1, 41, 0)] = true := by decide +kernel
def f_X2_take_A20 (M_5 : Mm) : Option Mm := some M_5
def f_X2_take_L20 (k0 : Nat) (x3_3 : Int32) (M_4 : Mm) : Option ((Int32 × Mm) ⊕ Mm) := if (M_4.1 k0 6) ≤ x3_3 then some (.inr M_4) else (f_X2_setSides k0 x3_3 M_4).bind fun M_8 => lt1 (x3_3 + 1) fun x3_9 => some (.inl (x3_9, M_8))
def f_X2_take (k0 : Nat) (a2 : Int32) (M : Mm) : Option Mm := lt1 (wi M k0 6 (M.1 1 3)) fun M_1 => lt1 (wi M_1 k0 5 (a2 &&& (M_1.1 1 2))) fun M_2 => (loop (fun v => f_X2_take_L20 k0 v.1 v.2) FU ((0 : Int32), M_2)).bind fun z => f_X2_take_A20 z
set_option maxRecDepth 100000 in
set_option maxHeartbeats 4000000 in
theorem t_X2_take {E : Ev} {l : Launch} (htr : l.stackTraces = false) (k0 : Nat) (hk0 : isGr k0) (a2 : Int32) (M : Mm) (r : Mm) (hf : f_X2_take k0 a2 M = some r) : CM E l 2 0 0 yX2_take cX2_take 4 none [.ref (E.1 + k0), .ref (E.1 + 1), .int a2] M none r := by
  refine CM.of htr (by decide +kernel) (Nat.le_of_ble_eq_true rfl) ?_
  intro K hE hL hl hR0 C hr hRv
  subst hE
  subst hl
  have C : Cx K cX2_take RX2 2 := C
  have hB : (0 : Nat) ≤ K.1.R.cells ∧ 0 ≤ K.1.R.slots := ⟨Nat.zero_le _, Nat.zero_le _⟩
  have hL3 : 3 < K.2.2.1 := by rw [hL]; decide
  show G K (0, 0) 0 [(0, .ref (K.2.1.1 + k0)), (1, .ref (K.2.1.1 + 1)), (2, .int a2)] [] M
  unfold f_X2_take at hf
  refine g_aload_n 0 C (ckD_get k_X2_take_0 0 rfl) rfl rfl ?_
  refine g_aload_n 1 C (ckD_get k_X2_take_0 1 rfl) rfl rfl ?_
  refine g_getI C (ckD_get k_X2_take_0 2 rfl) fk_X2_27 T1 rfl ?_
  obtain ⟨M_1, eM_1, hf⟩ := lt_e hf
  refine g_putI C (ckD_get k_X2_take_0 3 rfl) fk_X2_33 (T_Gr hk0) rfl ?_
  refine memI eM_1 ?_
  refine g_aload_n 0 C (ckD_get k_X2_take_0 4 rfl) rfl rfl ?_
  refine g_iload_n 2 C (ckD_get k_X2_take_0 5 rfl) rfl rfl ?_
  refine g_aload_n 1 C (ckD_get k_X2_take_0 6 rfl) rfl rfl ?_
  refine g_getI C (ckD_get k_X2_take_0 7 rfl) fk_X2_34 T1 rfl ?_
  refine g_iand C (ckD_get k_X2_take_0 8 rfl) ?_
  obtain ⟨M_2, eM_2, hf⟩ := lt_e hf
  refine g_putI C (ckD_get k_X2_take_0 9 rfl) fk_X2_37 (T_Gr hk0) rfl ?_
  refine memI eM_2 ?_
  refine g_iconst (v := (0 : Int32)) C (ckD_get k_X2_take_0 10 rfl) (by decide) ?_
  refine g_istore_n (lv' := [(3, _), (0, _), (1, _), (2, _)]) C (ckD_get k_X2_take_0 11 rfl) rfl hL3 rfl ?_
  refine G.sub [1, 2, 0] rfl ?_
  obtain ⟨M_5, hx_20, hf⟩ := bd_e hf
  have hE_20 : G K (0, 0) 40 [] [] M_5 := by
    have hf : f_X2_take_A20 M_5 = some r := hf
    unfold f_X2_take_A20 at hf
    cases hf
    exact g_vret C (ckD_get k_X2_take_0 22 rfl) hr hRv (Nat.le_refl _) (Nat.le_refl _)
  refine loop_e (x := M_5) (P := fun (v : (Int32 × Mm)) => G K (0, 0) 20 [(0, .ref (K.2.1.1 + k0)), (1, .ref (K.2.1.1 + 1)), (3, .int v.1)] [] v.2) ?_ FU _ hx_20
  intro v rr_20 hf hn_20 hz_20
  obtain ⟨x3_3, M_4⟩ := v
  have hf : f_X2_take_L20 k0 x3_3 M_4 = some rr_20 := hf
  show G K (0, 0) 20 [(0, .ref (K.2.1.1 + k0)), (1, .ref (K.2.1.1 + 1)), (3, .int x3_3)] [] M_4
  unfold f_X2_take_L20 at hf
  refine g_iload_n 2 C (ckD_get k_X2_take_0 12 rfl) rfl rfl ?_
  refine g_aload_n 0 C (ckD_get k_X2_take_0 13 rfl) rfl rfl ?_
  refine g_getI C (ckD_get k_X2_take_0 14 rfl) fk_X2_33 (T_Gr hk0) rfl ?_
  refine g_icmp_ge C (ckD_get k_X2_take_0 15 rfl) (fun c_6 => ?_) (fun c_6 => ?_)
  · have hf := if_t hf c_6
    refine G.sub [] rfl ?_
    cases hf
    cases hz_20 _ rfl
    exact hE_20
  · have hf := if_f hf c_6
    refine g_aload_n 0 C (ckD_get k_X2_take_0 16 rfl) rfl rfl ?_
    refine g_aload_n 1 C (ckD_get k_X2_take_0 17 rfl) rfl rfl ?_
    refine g_iload_n 2 C (ckD_get k_X2_take_0 18 rfl) rfl rfl ?_
    obtain ⟨M_8, hr_7, hf⟩ := bd_e hf
    refine n_cV [.ref (K.2.1.1 + 1), .int x3_3] [] C (ckD_get k_X2_take_0 19 rfl) vk_X2_40 (t_X2_setSides C.tr _ hk0 _ _ _ hr_7) (T_Gr hk0) rfl rfl (Nat.le_of_ble_eq_true rfl) (by decide) hB rfl ?_
    obtain ⟨x3_9, ex3_9, hf⟩ := lt_e hf
    refine g_iinc (lv' := [(3, _), (0, _), (1, _)]) 2 C (ckD_get k_X2_take_0 20 rfl) rfl ex3_9 hL3 rfl ?_
    refine g_goto C (ckD_get k_X2_take_0 21 rfl) ?_
    refine G.sub [1, 2, 0] rfl ?_
    cases hf
    exact hn_20 _ rfl

set_option maxRecDepth 20000 in
theorem k_X2_reach_0 : ckD cX2_reach [(0, .iconst 0, 1, 1, 0), (1, .istore_n 3, 1, 2, 0), (2, .iconst 0, 1, 3, 0), (3, .istore 4, 2, 5, 0), (5, .iload 4, 2, 7, 0), (7, .aload_n 0, 1, 8, 0), (8, .getfield 33, 3, 11, 0), (11, .if_icmp .ge 23, 3, 14, 34), (14, .iload_n 3, 1, 15, 0), (15, .aload_n 1, 1, 16, 0), (16, .iload 4, 2, 18, 0), (18, .iaload, 1, 19, 0), (19, .aload_n 2, 1, 20, 0), (20, .iload 4, 2, 22, 0), (22, .iaload, 1, 23, 0), (23, .iadd, 1, 24, 0), (24, .invokestatic 57, 3, 27, 0), (27, .istore_n 3, 1, 28, 0), (28, .iinc 4 1, 3, 31, 0), (31, .goto (-26), 3, 34, 5), (34, .iload_n 3, 1, 35, 0), (35, .ireturn, 1, 36, 0)] = true := by decide +kernel
def f_X2_reach_A5 (x3_3 : Int32) : Option Int32 := some x3_3
def f_X2_reach_L5 (k0 : Nat) (k1 : Nat) (k2 : Nat) (M : Mm) (x3_1 : Int32) (x4_2 : Int32) : Option ((Int32 × Int32) ⊕ Int32) := if (M.1 k0 6) ≤ x4_2 then some (.inr x3_1) else rdI 12 M k1 x4_2 fun v_5 => rdI 12 M k2 x4_2 fun v_7 => lt1 (jmax x3_1 (v_5 + v_7)) fun x3_9 => lt1 (x4_2 + 1) fun x4_10 => some (.inl (x3_9, x4_10))
def f_X2_reach (k0 : Nat) (k1 : Nat) (k2 : Nat) (M : Mm) : Option Int32 := (loop (fun v => f_X2_reach_L5 k0 k1 k2 M v.1 v.2) FU ((0 : Int32), (0 : Int32))).bind fun z => f_X2_reach_A5 z
set_option maxRecDepth 100000 in
set_option maxHeartbeats 4000000 in
theorem t_X2_reach {E : Ev} {l : Launch} (htr : l.stackTraces = false) (k0 : Nat) (hk0 : isGr k0) (k1 : Nat) (hk1 : LT[k1]? = some (0, 12, [])) (k2 : Nat) (hk2 : LT[k2]? = some (0, 12, [])) (M : Mm) (r : Int32) (hf : f_X2_reach k0 k1 k2 M = some r) : CM E l 1 0 0 yX2_reach cX2_reach 5 (some .int) [.ref (E.1 + k0), .ref (E.1 + k1), .ref (E.1 + k2)] M (some (.int r)) M := by
  refine CM.of htr (by decide +kernel) (Nat.le_of_ble_eq_true rfl) ?_
  intro K hE hL hl hR0 C hr hRv
  subst hE
  subst hl
  have C : Cx K cX2_reach RX2 1 := C
  have hB : (0 : Nat) ≤ K.1.R.cells ∧ 0 ≤ K.1.R.slots := ⟨Nat.zero_le _, Nat.zero_le _⟩
  have hL3 : 3 < K.2.2.1 := by rw [hL]; decide
  have hL4 : 4 < K.2.2.1 := by rw [hL]; decide
  show G K (0, 0) 0 [(0, .ref (K.2.1.1 + k0)), (1, .ref (K.2.1.1 + k1)), (2, .ref (K.2.1.1 + k2))] [] M
  unfold f_X2_reach at hf
  refine g_iconst (v := (0 : Int32)) C (ckD_get k_X2_reach_0 0 rfl) (by decide) ?_
  refine g_istore_n (lv' := [(3, _), (0, _), (1, _), (2, _)]) C (ckD_get k_X2_reach_0 1 rfl) rfl hL3 rfl ?_
  refine g_iconst (v := (0 : Int32)) C (ckD_get k_X2_reach_0 2 rfl) (by decide) ?_
  refine g_istore (lv' := [(4, _), (3, _), (0, _), (1, _), (2, _)]) C (ckD_get k_X2_reach_0 3 rfl) hL4 rfl ?_
  refine G.sub [2, 3, 4, 1, 0] rfl ?_
  obtain ⟨x3_3, hx_5, hf⟩ := bd_e hf
  have hE_5 : G K (0, 0) 34 [(3, .int x3_3)] [] M := by
    have hf : f_X2_reach_A5 x3_3 = some r := hf
    unfold f_X2_reach_A5 at hf
    refine g_iload_n 0 C (ckD_get k_X2_reach_0 20 rfl) rfl rfl ?_
    cases hf
    exact g_iret C (ckD_get k_X2_reach_0 21 rfl) hr hRv (Nat.le_refl _) (Nat.le_refl _)
  refine loop_e (x := x3_3) (P := fun (v : (Int32 × Int32)) => G K (0, 0) 5 [(0, .ref (K.2.1.1 + k0)), (1, .ref (K.2.1.1 + k1)), (2, .ref (K.2.1.1 + k2)), (3, .int v.1), (4, .int v.2)] [] M) ?_ FU _ hx_5
  intro v rr_5 hf hn_5 hz_5
  obtain ⟨x3_1, x4_2⟩ := v
  have hf : f_X2_reach_L5 k0 k1 k2 M x3_1 x4_2 = some rr_5 := hf
  show G K (0, 0) 5 [(0, .ref (K.2.1.1 + k0)), (1, .ref (K.2.1.1 + k1)), (2, .ref (K.2.1.1 + k2)), (3, .int x3_1), (4, .int x4_2)] [] M
  unfold f_X2_reach_L5 at hf
  refine g_iload 4 C (ckD_get k_X2_reach_0 4 rfl) rfl ?_
  refine g_aload_n 0 C (ckD_get k_X2_reach_0 5 rfl) rfl rfl ?_
  refine g_getI C (ckD_get k_X2_reach_0 6 rfl) fk_X2_33 (T_Gr hk0) rfl ?_
  refine g_icmp_ge C (ckD_get k_X2_reach_0 7 rfl) (fun c_4 => ?_) (fun c_4 => ?_)
  · have hf := if_t hf c_4
    refine G.sub [3] rfl ?_
    cases hf
    cases hz_5 _ rfl
    exact hE_5
  · have hf := if_f hf c_4
    refine g_iload_n 3 C (ckD_get k_X2_reach_0 8 rfl) rfl rfl ?_
    refine g_aload_n 1 C (ckD_get k_X2_reach_0 9 rfl) rfl rfl ?_
    refine g_iload 4 C (ckD_get k_X2_reach_0 10 rfl) rfl ?_
    obtain ⟨v_5, hi_6, ev_5, hf⟩ := rdI_e hf
    refine n_iald C (ckD_get k_X2_reach_0 11 rfl) hk1 hi_6 ev_5 ?_
    refine g_aload_n 2 C (ckD_get k_X2_reach_0 12 rfl) rfl rfl ?_
    refine g_iload 4 C (ckD_get k_X2_reach_0 13 rfl) rfl ?_
    obtain ⟨v_7, hi_8, ev_7, hf⟩ := rdI_e hf
    refine n_iald C (ckD_get k_X2_reach_0 14 rfl) hk2 hi_8 ev_7 ?_
    refine g_iadd C (ckD_get k_X2_reach_0 15 rfl) ?_
    refine n_mmax C (ckD_get k_X2_reach_0 16 rfl) mk_X2_57 (by decide) (Nat.le_of_ble_eq_true rfl) hB ?_
    obtain ⟨x3_9, ex3_9, hf⟩ := lt_e hf
    refine topI ex3_9 ?_
    refine g_istore_n (lv' := [(3, _), (0, _), (1, _), (2, _), (4, _)]) C (ckD_get k_X2_reach_0 17 rfl) rfl hL3 rfl ?_
    obtain ⟨x4_10, ex4_10, hf⟩ := lt_e hf
    refine g_iinc (lv' := [(4, _), (3, _), (0, _), (1, _), (2, _)]) 4 C (ckD_get k_X2_reach_0 18 rfl) rfl ex4_10 hL4 rfl ?_
    refine g_goto C (ckD_get k_X2_reach_0 19 rfl) ?_
    refine G.sub [2, 3, 4, 1, 0] rfl ?_
    cases hf
    exact hn_5 _ rfl

set_option maxRecDepth 20000 in
theorem k_X2_area_0 : ckD cX2_area [(0, .iconst 0, 1, 1, 0), (1, .istore_n 1, 1, 2, 0), (2, .iconst 0, 1, 3, 0), (3, .istore_n 2, 1, 4, 0), (4, .iconst 0, 1, 5, 0), (5, .istore_n 3, 1, 6, 0), (6, .iload_n 3, 1, 7, 0), (7, .aload_n 0, 1, 8, 0), (8, .getfield 33, 3, 11, 0), (11, .if_icmp .ge 45, 3, 14, 56), (14, .iload_n 1, 1, 15, 0), (15, .aload_n 0, 1, 16, 0), (16, .getfield 9, 3, 19, 0), (19, .iload_n 3, 1, 20, 0), (20, .iaload, 1, 21, 0), (21, .aload_n 0, 1, 22, 0), (22, .getfield 18, 3, 25, 0), (25, .iload_n 3, 1, 26, 0), (26, .iaload, 1, 27, 0), (27, .iadd, 1, 28, 0), (28, .invokestatic 57, 3, 31, 0), (31, .istore_n 1, 1, 32, 0), (32, .iload_n 2, 1, 33, 0), (33, .aload_n 0, 1, 34, 0), (34, .getfield 15, 3, 37, 0), (37, .iload_n 3, 1, 38, 0), (38, .iaload, 1, 39, 0), (39, .aload_n 0, 1, 40, 0), (40, .getfield 21, 3, 43, 0), (43, .iload_n 3, 1, 44, 0), (44, .iaload, 1, 45, 0), (45, .iadd, 1, 46, 0), (46, .invokestatic 57, 3, 49, 0), (49, .istore_n 2, 1, 50, 0), (50, .iinc 3 1, 3, 53, 0), (53, .goto (-47), 3, 56, 6), (56, .iload_n 1, 1, 57, 0), (57, .iload_n 2, 1, 58, 0), (58, .imul, 1, 59, 0), (59, .ireturn, 1, 60, 0)] = true := by decide +kernel
def f_X2_area_A6 (x1_4 : Int32) (x2_5 : Int32) : Option Int32 := some (x1_4 * x2_5)
def f_X2_area_L6 (k0 : Nat) (M : Mm) (x1_1 : Int32) (x2_2 : Int32) (x3_3 : Int32) : Option ((Int32 × Int32 × Int32) ⊕ (Int32 × Int32)) := if (M.1 k0 6) ≤ x3_3 then some (.inr (x1_1, x2_2)) else rdI 12 M (k0 + 1) x3_3 fun v_7 => rdI 12 M (k0 + 3) x3_3 fun v_9 => lt1 (jmax x1_1 (v_7 + v_9)) fun x1_11 => rdI 12 M (k0 + 2) x3_3 fun v_12 => rdI 12 M (k0 + 4) x3_3 fun v_14 => lt1 (jmax x2_2 (v_12 + v_14)) fun x2_16 => lt1 (x3_3 + 1) fun x3_17 => some (.inl (x1_11, x2_16, x3_17))
def f_X2_area (k0 : Nat) (M : Mm) : Option Int32 := (loop (fun v => f_X2_area_L6 k0 M v.1 v.2.1 v.2.2) FU ((0 : Int32), (0 : Int32), (0 : Int32))).bind fun z => f_X2_area_A6 z.1 z.2
set_option maxRecDepth 100000 in
set_option maxHeartbeats 4000000 in
theorem t_X2_area {E : Ev} {l : Launch} (htr : l.stackTraces = false) (k0 : Nat) (hk0 : isGr k0) (M : Mm) (r : Int32) (hf : f_X2_area k0 M = some r) : CM E l 1 0 0 yX2_area cX2_area 4 (some .int) [.ref (E.1 + k0)] M (some (.int r)) M := by
  refine CM.of htr (by decide +kernel) (Nat.le_of_ble_eq_true rfl) ?_
  intro K hE hL hl hR0 C hr hRv
  subst hE
  subst hl
  have C : Cx K cX2_area RX2 1 := C
  have hB : (0 : Nat) ≤ K.1.R.cells ∧ 0 ≤ K.1.R.slots := ⟨Nat.zero_le _, Nat.zero_le _⟩
  have hL1 : 1 < K.2.2.1 := by rw [hL]; decide
  have hL2 : 2 < K.2.2.1 := by rw [hL]; decide
  have hL3 : 3 < K.2.2.1 := by rw [hL]; decide
  show G K (0, 0) 0 [(0, .ref (K.2.1.1 + k0))] [] M
  unfold f_X2_area at hf
  refine g_iconst (v := (0 : Int32)) C (ckD_get k_X2_area_0 0 rfl) (by decide) ?_
  refine g_istore_n (lv' := [(1, _), (0, _)]) C (ckD_get k_X2_area_0 1 rfl) rfl hL1 rfl ?_
  refine g_iconst (v := (0 : Int32)) C (ckD_get k_X2_area_0 2 rfl) (by decide) ?_
  refine g_istore_n (lv' := [(2, _), (1, _), (0, _)]) C (ckD_get k_X2_area_0 3 rfl) rfl hL2 rfl ?_
  refine g_iconst (v := (0 : Int32)) C (ckD_get k_X2_area_0 4 rfl) (by decide) ?_
  refine g_istore_n (lv' := [(3, _), (2, _), (1, _), (0, _)]) C (ckD_get k_X2_area_0 5 rfl) rfl hL3 rfl ?_
  refine G.sub [3, 2, 1, 0] rfl ?_
  obtain ⟨xx_6, hx_6, hf⟩ := bd_e hf
  obtain ⟨x1_4, x2_5⟩ := xx_6
  have hE_6 : G K (0, 0) 56 [(1, .int x1_4), (2, .int x2_5)] [] M := by
    have hf : f_X2_area_A6 x1_4 x2_5 = some r := hf
    unfold f_X2_area_A6 at hf
    refine g_iload_n 0 C (ckD_get k_X2_area_0 36 rfl) rfl rfl ?_
    refine g_iload_n 1 C (ckD_get k_X2_area_0 37 rfl) rfl rfl ?_
    refine g_imul C (ckD_get k_X2_area_0 38 rfl) ?_
    cases hf
    exact g_iret C (ckD_get k_X2_area_0 39 rfl) hr hRv (Nat.le_refl _) (Nat.le_refl _)
  refine loop_e (x := (x1_4, x2_5)) (P := fun (v : (Int32 × Int32 × Int32)) => G K (0, 0) 6 [(0, .ref (K.2.1.1 + k0)), (1, .int v.1), (2, .int v.2.1), (3, .int v.2.2)] [] M) ?_ FU _ hx_6
  intro v rr_6 hf hn_6 hz_6
  obtain ⟨x1_1, x2_2, x3_3⟩ := v
  have hf : f_X2_area_L6 k0 M x1_1 x2_2 x3_3 = some rr_6 := hf
  show G K (0, 0) 6 [(0, .ref (K.2.1.1 + k0)), (1, .int x1_1), (2, .int x2_2), (3, .int x3_3)] [] M
  unfold f_X2_area_L6 at hf
  refine g_iload_n 3 C (ckD_get k_X2_area_0 6 rfl) rfl rfl ?_
  refine g_aload_n 0 C (ckD_get k_X2_area_0 7 rfl) rfl rfl ?_
  refine g_getI C (ckD_get k_X2_area_0 8 rfl) fk_X2_33 (T_Gr hk0) rfl ?_
  refine g_icmp_ge C (ckD_get k_X2_area_0 9 rfl) (fun c_6 => ?_) (fun c_6 => ?_)
  · have hf := if_t hf c_6
    refine G.sub [1, 2] rfl ?_
    cases hf
    cases hz_6 _ rfl
    exact hE_6
  · have hf := if_f hf c_6
    refine g_iload_n 1 C (ckD_get k_X2_area_0 10 rfl) rfl rfl ?_
    refine g_aload_n 0 C (ckD_get k_X2_area_0 11 rfl) rfl rfl ?_
    refine g_getR C (ckD_get k_X2_area_0 12 rfl) fk_X2_9 (T_Gr hk0) rfl ?_
    refine g_iload_n 3 C (ckD_get k_X2_area_0 13 rfl) rfl rfl ?_
    obtain ⟨v_7, hi_8, ev_7, hf⟩ := rdI_e hf
    refine n_iald C (ckD_get k_X2_area_0 14 rfl) (T_Gr1 hk0) hi_8 ev_7 ?_
    refine g_aload_n 0 C (ckD_get k_X2_area_0 15 rfl) rfl rfl ?_
    refine g_getR C (ckD_get k_X2_area_0 16 rfl) fk_X2_18 (T_Gr hk0) rfl ?_
    refine g_iload_n 3 C (ckD_get k_X2_area_0 17 rfl) rfl rfl ?_
    obtain ⟨v_9, hi_10, ev_9, hf⟩ := rdI_e hf
    refine n_iald C (ckD_get k_X2_area_0 18 rfl) (T_Gr3 hk0) hi_10 ev_9 ?_
    refine g_iadd C (ckD_get k_X2_area_0 19 rfl) ?_
    refine n_mmax C (ckD_get k_X2_area_0 20 rfl) mk_X2_57 (by decide) (Nat.le_of_ble_eq_true rfl) hB ?_
    obtain ⟨x1_11, ex1_11, hf⟩ := lt_e hf
    refine topI ex1_11 ?_
    refine g_istore_n (lv' := [(1, _), (0, _), (2, _), (3, _)]) C (ckD_get k_X2_area_0 21 rfl) rfl hL1 rfl ?_
    refine g_iload_n 2 C (ckD_get k_X2_area_0 22 rfl) rfl rfl ?_
    refine g_aload_n 1 C (ckD_get k_X2_area_0 23 rfl) rfl rfl ?_
    refine g_getR C (ckD_get k_X2_area_0 24 rfl) fk_X2_15 (T_Gr hk0) rfl ?_
    refine g_iload_n 3 C (ckD_get k_X2_area_0 25 rfl) rfl rfl ?_
    obtain ⟨v_12, hi_13, ev_12, hf⟩ := rdI_e hf
    refine n_iald C (ckD_get k_X2_area_0 26 rfl) (T_Gr2 hk0) hi_13 ev_12 ?_
    refine g_aload_n 1 C (ckD_get k_X2_area_0 27 rfl) rfl rfl ?_
    refine g_getR C (ckD_get k_X2_area_0 28 rfl) fk_X2_21 (T_Gr hk0) rfl ?_
    refine g_iload_n 3 C (ckD_get k_X2_area_0 29 rfl) rfl rfl ?_
    obtain ⟨v_14, hi_15, ev_14, hf⟩ := rdI_e hf
    refine n_iald C (ckD_get k_X2_area_0 30 rfl) (T_Gr4 hk0) hi_15 ev_14 ?_
    refine g_iadd C (ckD_get k_X2_area_0 31 rfl) ?_
    refine n_mmax C (ckD_get k_X2_area_0 32 rfl) mk_X2_57 (by decide) (Nat.le_of_ble_eq_true rfl) hB ?_
    obtain ⟨x2_16, ex2_16, hf⟩ := lt_e hf
    refine topI ex2_16 ?_
    refine g_istore_n (lv' := [(2, _), (1, _), (0, _), (3, _)]) C (ckD_get k_X2_area_0 33 rfl) rfl hL2 rfl ?_
    obtain ⟨x3_17, ex3_17, hf⟩ := lt_e hf
    refine g_iinc (lv' := [(3, _), (2, _), (1, _), (0, _)]) 3 C (ckD_get k_X2_area_0 34 rfl) rfl ex3_17 hL3 rfl ?_
    refine g_goto C (ckD_get k_X2_area_0 35 rfl) ?_
    refine G.sub [3, 2, 1, 0] rfl ?_
    cases hf
    exact hn_6 _ rfl
end
