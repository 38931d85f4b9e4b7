section
-- ===== PART A: goes FIRST, ahead of the names: the tables' words, and 'selects' of the private methods out of them =====
/-- a private method of a class that the tables say can be made, by its rows of tables_1 -/
def lw_okq (q : MethodName × Nat) : Prop := (q.1.cls ≠ "java/lang/invoke/MethodHandle" ∧ q.1.cls ≠ "java/lang/invoke/VarHandle") ∧ Cond.instantiable q.1.cls q.2 ∈ tables_1 ∧ Cond.privateMethod q.1 ∈ tables_1 ∧ Cond.instanceMethod q.1 ∈ tables_1
theorem lw_p0 : lw_okq (⟨"TinStencils", "feedNumber", "(I)V"⟩, 17) := ⟨⟨by decide +kernel, by decide +kernel⟩, List.mem_of_getElem? (i := 23) (by decide +kernel), List.mem_of_getElem? (i := 462) (by decide +kernel), List.mem_of_getElem? (i := 463) (by decide +kernel)⟩
theorem lw_p1 : lw_okq (⟨"TinStencils$Tokens", "lengthAt", "(II)I"⟩, 6) := ⟨⟨by decide +kernel, by decide +kernel⟩, List.mem_of_getElem? (i := 184) (by decide +kernel), List.mem_of_getElem? (i := 481) (by decide +kernel), List.mem_of_getElem? (i := 482) (by decide +kernel)⟩
theorem lw_p2 : lw_okq (⟨"TinStencils$Tokens", "addToken", "(II)V"⟩, 6) := ⟨⟨by decide +kernel, by decide +kernel⟩, List.mem_of_getElem? (i := 184) (by decide +kernel), List.mem_of_getElem? (i := 488) (by decide +kernel), List.mem_of_getElem? (i := 489) (by decide +kernel)⟩
theorem lw_p3 : lw_okq (⟨"TinStencils$Tokens", "keywordAt", "(II)I"⟩, 6) := ⟨⟨by decide +kernel, by decide +kernel⟩, List.mem_of_getElem? (i := 184) (by decide +kernel), List.mem_of_getElem? (i := 492) (by decide +kernel), List.mem_of_getElem? (i := 493) (by decide +kernel)⟩
theorem lw_p4 : lw_okq (⟨"TinStencils$Tokens", "isKeyword", "(III)Z"⟩, 6) := ⟨⟨by decide +kernel, by decide +kernel⟩, List.mem_of_getElem? (i := 184) (by decide +kernel), List.mem_of_getElem? (i := 545) (by decide +kernel), List.mem_of_getElem? (i := 546) (by decide +kernel)⟩
theorem lw_p5 : lw_okq (⟨"TinStencils$Tokens", "numberAt", "(II)I"⟩, 6) := ⟨⟨by decide +kernel, by decide +kernel⟩, List.mem_of_getElem? (i := 184) (by decide +kernel), List.mem_of_getElem? (i := 549) (by decide +kernel), List.mem_of_getElem? (i := 550) (by decide +kernel)⟩
theorem lw_p6 : lw_okq (⟨"TinStencils$Teller", "tellSize", "(LTinStencils$Sheet;)Z"⟩, 8) := ⟨⟨by decide +kernel, by decide +kernel⟩, List.mem_of_getElem? (i := 178) (by decide +kernel), List.mem_of_getElem? (i := 553) (by decide +kernel), List.mem_of_getElem? (i := 554) (by decide +kernel)⟩
theorem lw_p7 : lw_okq (⟨"TinStencils$Teller", "takeKeyword", "(I)Z"⟩, 8) := ⟨⟨by decide +kernel, by decide +kernel⟩, List.mem_of_getElem? (i := 178) (by decide +kernel), List.mem_of_getElem? (i := 557) (by decide +kernel), List.mem_of_getElem? (i := 558) (by decide +kernel)⟩
theorem lw_p8 : lw_okq (⟨"TinStencils$Teller", "takeNumber", "(II)Z"⟩, 8) := ⟨⟨by decide +kernel, by decide +kernel⟩, List.mem_of_getElem? (i := 178) (by decide +kernel), List.mem_of_getElem? (i := 561) (by decide +kernel), List.mem_of_getElem? (i := 562) (by decide +kernel)⟩
theorem lw_p9 : lw_okq (⟨"TinStencils$Teller", "takeSign", "(I)Z"⟩, 8) := ⟨⟨by decide +kernel, by decide +kernel⟩, List.mem_of_getElem? (i := 178) (by decide +kernel), List.mem_of_getElem? (i := 577) (by decide +kernel), List.mem_of_getElem? (i := 578) (by decide +kernel)⟩
theorem lw_p10 : lw_okq (⟨"TinStencils$Teller", "tellStatement", "(LTinStencils$Sheet;)Z"⟩, 8) := ⟨⟨by decide +kernel, by decide +kernel⟩, List.mem_of_getElem? (i := 178) (by decide +kernel), List.mem_of_getElem? (i := 581) (by decide +kernel), List.mem_of_getElem? (i := 582) (by decide +kernel)⟩
theorem lw_p11 : lw_okq (⟨"TinStencils$Teller", "tellRow", "(LTinStencils$Sheet;)Z"⟩, 8) := ⟨⟨by decide +kernel, by decide +kernel⟩, List.mem_of_getElem? (i := 178) (by decide +kernel), List.mem_of_getElem? (i := 585) (by decide +kernel), List.mem_of_getElem? (i := 586) (by decide +kernel)⟩
theorem lw_p12 : lw_okq (⟨"TinStencils$Teller", "takeSquares", "(II)Z"⟩, 8) := ⟨⟨by decide +kernel, by decide +kernel⟩, List.mem_of_getElem? (i := 178) (by decide +kernel), List.mem_of_getElem? (i := 589) (by decide +kernel), List.mem_of_getElem? (i := 590) (by decide +kernel)⟩
theorem lw_p13 : lw_okq (⟨"TinStencils$Teller", "tellShape", "(LTinStencils$Sheet;)Z"⟩, 8) := ⟨⟨by decide +kernel, by decide +kernel⟩, List.mem_of_getElem? (i := 178) (by decide +kernel), List.mem_of_getElem? (i := 593) (by decide +kernel), List.mem_of_getElem? (i := 594) (by decide +kernel)⟩
theorem lw_p14 : lw_okq (⟨"TinStencils$Teller", "nameHere", "()J"⟩, 8) := ⟨⟨by decide +kernel, by decide +kernel⟩, List.mem_of_getElem? (i := 178) (by decide +kernel), List.mem_of_getElem? (i := 597) (by decide +kernel), List.mem_of_getElem? (i := 598) (by decide +kernel)⟩
theorem lw_p15 : lw_okq (⟨"TinStencils$Teller", "shapeNamed", "(JLTinStencils$Sheet;)I"⟩, 8) := ⟨⟨by decide +kernel, by decide +kernel⟩, List.mem_of_getElem? (i := 178) (by decide +kernel), List.mem_of_getElem? (i := 603) (by decide +kernel), List.mem_of_getElem? (i := 604) (by decide +kernel)⟩
def lw_privs_1 : List (MethodName × Nat) := [(⟨"TinStencils", "feedNumber", "(I)V"⟩, 17), (⟨"TinStencils$Tokens", "lengthAt", "(II)I"⟩, 6), (⟨"TinStencils$Tokens", "addToken", "(II)V"⟩, 6), (⟨"TinStencils$Tokens", "keywordAt", "(II)I"⟩, 6), (⟨"TinStencils$Tokens", "isKeyword", "(III)Z"⟩, 6), (⟨"TinStencils$Tokens", "numberAt", "(II)I"⟩, 6), (⟨"TinStencils$Teller", "tellSize", "(LTinStencils$Sheet;)Z"⟩, 8), (⟨"TinStencils$Teller", "takeKeyword", "(I)Z"⟩, 8), (⟨"TinStencils$Teller", "takeNumber", "(II)Z"⟩, 8), (⟨"TinStencils$Teller", "takeSign", "(I)Z"⟩, 8), (⟨"TinStencils$Teller", "tellStatement", "(LTinStencils$Sheet;)Z"⟩, 8), (⟨"TinStencils$Teller", "tellRow", "(LTinStencils$Sheet;)Z"⟩, 8), (⟨"TinStencils$Teller", "takeSquares", "(II)Z"⟩, 8), (⟨"TinStencils$Teller", "tellShape", "(LTinStencils$Sheet;)Z"⟩, 8), (⟨"TinStencils$Teller", "nameHere", "()J"⟩, 8), (⟨"TinStencils$Teller", "shapeNamed", "(JLTinStencils$Sheet;)I"⟩, 8)]
theorem lw_r1 : ∀ q ∈ lw_privs_1, lw_okq q := List.forall_mem_cons.mpr ⟨lw_p0, List.forall_mem_cons.mpr ⟨lw_p1, List.forall_mem_cons.mpr ⟨lw_p2, List.forall_mem_cons.mpr ⟨lw_p3, List.forall_mem_cons.mpr ⟨lw_p4, List.forall_mem_cons.mpr ⟨lw_p5, List.forall_mem_cons.mpr ⟨lw_p6, List.forall_mem_cons.mpr ⟨lw_p7, List.forall_mem_cons.mpr ⟨lw_p8, List.forall_mem_cons.mpr ⟨lw_p9, List.forall_mem_cons.mpr ⟨lw_p10, List.forall_mem_cons.mpr ⟨lw_p11, List.forall_mem_cons.mpr ⟨lw_p12, List.forall_mem_cons.mpr ⟨lw_p13, List.forall_mem_cons.mpr ⟨lw_p14, List.forall_mem_cons.mpr ⟨lw_p15, fun _ h => absurd h List.not_mem_nil⟩⟩⟩⟩⟩⟩⟩⟩⟩⟩⟩⟩⟩⟩⟩⟩
theorem lw_p16 : lw_okq (⟨"TinStencils$Teller", "tellPut", "(LTinStencils$Sheet;)Z"⟩, 8) := ⟨⟨by decide +kernel, by decide +kernel⟩, List.mem_of_getElem? (i := 178) (by decide +kernel), List.mem_of_getElem? (i := 615) (by decide +kernel), List.mem_of_getElem? (i := 616) (by decide +kernel)⟩
theorem lw_p17 : lw_okq (⟨"TinStencils$Teller", "takePlace", "(LTinStencils$Sheet;)Z"⟩, 8) := ⟨⟨by decide +kernel, by decide +kernel⟩, List.mem_of_getElem? (i := 178) (by decide +kernel), List.mem_of_getElem? (i := 619) (by decide +kernel), List.mem_of_getElem? (i := 620) (by decide +kernel)⟩
theorem lw_p18 : lw_okq (⟨"TinStencils$Teller", "tellHold", "(LTinStencils$Sheet;)Z"⟩, 8) := ⟨⟨by decide +kernel, by decide +kernel⟩, List.mem_of_getElem? (i := 178) (by decide +kernel), List.mem_of_getElem? (i := 641) (by decide +kernel), List.mem_of_getElem? (i := 642) (by decide +kernel)⟩
theorem lw_p19 : lw_okq (⟨"TinStencils$Teller", "takeSide", "()Z"⟩, 8) := ⟨⟨by decide +kernel, by decide +kernel⟩, List.mem_of_getElem? (i := 178) (by decide +kernel), List.mem_of_getElem? (i := 645) (by decide +kernel), List.mem_of_getElem? (i := 646) (by decide +kernel)⟩
theorem lw_p20 : lw_okq (⟨"TinStencils$Teller", "tellWorth", "(LTinStencils$Sheet;)Z"⟩, 8) := ⟨⟨by decide +kernel, by decide +kernel⟩, List.mem_of_getElem? (i := 178) (by decide +kernel), List.mem_of_getElem? (i := 649) (by decide +kernel), List.mem_of_getElem? (i := 650) (by decide +kernel)⟩
theorem lw_p21 : lw_okq (⟨"TinStencils$Teller", "tellBrush", "(LTinStencils$Sheet;)Z"⟩, 8) := ⟨⟨by decide +kernel, by decide +kernel⟩, List.mem_of_getElem? (i := 178) (by decide +kernel), List.mem_of_getElem? (i := 657) (by decide +kernel), List.mem_of_getElem? (i := 658) (by decide +kernel)⟩
theorem lw_p22 : lw_okq (⟨"TinStencils$Teller", "tellWear", "(LTinStencils$Sheet;)Z"⟩, 8) := ⟨⟨by decide +kernel, by decide +kernel⟩, List.mem_of_getElem? (i := 178) (by decide +kernel), List.mem_of_getElem? (i := 661) (by decide +kernel), List.mem_of_getElem? (i := 662) (by decide +kernel)⟩
theorem lw_p23 : lw_okq (⟨"TinStencils$Teller", "tellBridge", "(LTinStencils$Sheet;)Z"⟩, 8) := ⟨⟨by decide +kernel, by decide +kernel⟩, List.mem_of_getElem? (i := 178) (by decide +kernel), List.mem_of_getElem? (i := 665) (by decide +kernel), List.mem_of_getElem? (i := 666) (by decide +kernel)⟩
theorem lw_p24 : lw_okq (⟨"TinStencils$Teller", "tellStraight", "(LTinStencils$Sheet;)Z"⟩, 8) := ⟨⟨by decide +kernel, by decide +kernel⟩, List.mem_of_getElem? (i := 178) (by decide +kernel), List.mem_of_getElem? (i := 669) (by decide +kernel), List.mem_of_getElem? (i := 670) (by decide +kernel)⟩
theorem lw_p25 : lw_okq (⟨"TinStencils$Teller", "tellBroad", "(LTinStencils$Sheet;)Z"⟩, 8) := ⟨⟨by decide +kernel, by decide +kernel⟩, List.mem_of_getElem? (i := 178) (by decide +kernel), List.mem_of_getElem? (i := 689) (by decide +kernel), List.mem_of_getElem? (i := 690) (by decide +kernel)⟩
theorem lw_p26 : lw_okq (⟨"TinStencils$Teller", "tellCorner", "(LTinStencils$Sheet;)Z"⟩, 8) := ⟨⟨by decide +kernel, by decide +kernel⟩, List.mem_of_getElem? (i := 178) (by decide +kernel), List.mem_of_getElem? (i := 695) (by decide +kernel), List.mem_of_getElem? (i := 696) (by decide +kernel)⟩
theorem lw_p27 : lw_okq (⟨"TinStencils$Teller", "tellTold", "(LTinStencils$Sheet;)Z"⟩, 8) := ⟨⟨by decide +kernel, by decide +kernel⟩, List.mem_of_getElem? (i := 178) (by decide +kernel), List.mem_of_getElem? (i := 699) (by decide +kernel), List.mem_of_getElem? (i := 700) (by decide +kernel)⟩
theorem lw_p28 : lw_okq (⟨"TinStencils", "toldSheet", "(I)LTinStencils$Sheet;"⟩, 17) := ⟨⟨by decide +kernel, by decide +kernel⟩, List.mem_of_getElem? (i := 23) (by decide +kernel), List.mem_of_getElem? (i := 735) (by decide +kernel), List.mem_of_getElem? (i := 736) (by decide +kernel)⟩
theorem lw_p29 : lw_okq (⟨"TinStencils$Hanging", "pull", "(II)Z"⟩, 10) := ⟨⟨by decide +kernel, by decide +kernel⟩, List.mem_of_getElem? (i := 240) (by decide +kernel), List.mem_of_getElem? (i := 770) (by decide +kernel), List.mem_of_getElem? (i := 771) (by decide +kernel)⟩
theorem lw_p30 : lw_okq (⟨"TinStencils", "findPieces", "(LTinStencils$Sheet;I)V"⟩, 17) := ⟨⟨by decide +kernel, by decide +kernel⟩, List.mem_of_getElem? (i := 23) (by decide +kernel), List.mem_of_getElem? (i := 774) (by decide +kernel), List.mem_of_getElem? (i := 775) (by decide +kernel)⟩
theorem lw_p31 : lw_okq (⟨"TinStencils$Parts", "gather", "(I[I)V"⟩, 7) := ⟨⟨by decide +kernel, by decide +kernel⟩, List.mem_of_getElem? (i := 282) (by decide +kernel), List.mem_of_getElem? (i := 786) (by decide +kernel), List.mem_of_getElem? (i := 787) (by decide +kernel)⟩
def lw_privs_2 : List (MethodName × Nat) := [(⟨"TinStencils$Teller", "tellPut", "(LTinStencils$Sheet;)Z"⟩, 8), (⟨"TinStencils$Teller", "takePlace", "(LTinStencils$Sheet;)Z"⟩, 8), (⟨"TinStencils$Teller", "tellHold", "(LTinStencils$Sheet;)Z"⟩, 8), (⟨"TinStencils$Teller", "takeSide", "()Z"⟩, 8), (⟨"TinStencils$Teller", "tellWorth", "(LTinStencils$Sheet;)Z"⟩, 8), (⟨"TinStencils$Teller", "tellBrush", "(LTinStencils$Sheet;)Z"⟩, 8), (⟨"TinStencils$Teller", "tellWear", "(LTinStencils$Sheet;)Z"⟩, 8), (⟨"TinStencils$Teller", "tellBridge", "(LTinStencils$Sheet;)Z"⟩, 8), (⟨"TinStencils$Teller", "tellStraight", "(LTinStencils$Sheet;)Z"⟩, 8), (⟨"TinStencils$Teller", "tellBroad", "(LTinStencils$Sheet;)Z"⟩, 8), (⟨"TinStencils$Teller", "tellCorner", "(LTinStencils$Sheet;)Z"⟩, 8), (⟨"TinStencils$Teller", "tellTold", "(LTinStencils$Sheet;)Z"⟩, 8), (⟨"TinStencils", "toldSheet", "(I)LTinStencils$Sheet;"⟩, 17), (⟨"TinStencils$Hanging", "pull", "(II)Z"⟩, 10), (⟨"TinStencils", "findPieces", "(LTinStencils$Sheet;I)V"⟩, 17), (⟨"TinStencils$Parts", "gather", "(I[I)V"⟩, 7)]
theorem lw_r2 : ∀ q ∈ lw_privs_2, lw_okq q := List.forall_mem_cons.mpr ⟨lw_p16, List.forall_mem_cons.mpr ⟨lw_p17, List.forall_mem_cons.mpr ⟨lw_p18, List.forall_mem_cons.mpr ⟨lw_p19, List.forall_mem_cons.mpr ⟨lw_p20, List.forall_mem_cons.mpr ⟨lw_p21, List.forall_mem_cons.mpr ⟨lw_p22, List.forall_mem_cons.mpr ⟨lw_p23, List.forall_mem_cons.mpr ⟨lw_p24, List.forall_mem_cons.mpr ⟨lw_p25, List.forall_mem_cons.mpr ⟨lw_p26, List.forall_mem_cons.mpr ⟨lw_p27, List.forall_mem_cons.mpr ⟨lw_p28, List.forall_mem_cons.mpr ⟨lw_p29, List.forall_mem_cons.mpr ⟨lw_p30, List.forall_mem_cons.mpr ⟨lw_p31, fun _ h => absurd h List.not_mem_nil⟩⟩⟩⟩⟩⟩⟩⟩⟩⟩⟩⟩⟩⟩⟩⟩
theorem lw_p32 : lw_okq (⟨"TinStencils", "walkHeld", "(LTinStencils$Sheet;)V"⟩, 17) := ⟨⟨by decide +kernel, by decide +kernel⟩, List.mem_of_getElem? (i := 23) (by decide +kernel), List.mem_of_getElem? (i := 795) (by decide +kernel), List.mem_of_getElem? (i := 796) (by decide +kernel)⟩
theorem lw_p33 : lw_okq (⟨"TinStencils$Hanging", "follow", "(I[I[I)V"⟩, 10) := ⟨⟨by decide +kernel, by decide +kernel⟩, List.mem_of_getElem? (i := 240) (by decide +kernel), List.mem_of_getElem? (i := 806) (by decide +kernel), List.mem_of_getElem? (i := 807) (by decide +kernel)⟩
theorem lw_p34 : lw_okq (⟨"TinStencils$Hanging", "enter", "(II[I)V"⟩, 10) := ⟨⟨by decide +kernel, by decide +kernel⟩, List.mem_of_getElem? (i := 240) (by decide +kernel), List.mem_of_getElem? (i := 810) (by decide +kernel), List.mem_of_getElem? (i := 811) (by decide +kernel)⟩
theorem lw_p35 : lw_okq (⟨"TinStencils$Hanging", "leave", "(I)I"⟩, 10) := ⟨⟨by decide +kernel, by decide +kernel⟩, List.mem_of_getElem? (i := 240) (by decide +kernel), List.mem_of_getElem? (i := 814) (by decide +kernel), List.mem_of_getElem? (i := 815) (by decide +kernel)⟩
theorem lw_p36 : lw_okq (⟨"TinStencils$Parts", "borderRow", "(I)I"⟩, 7) := ⟨⟨by decide +kernel, by decide +kernel⟩, List.mem_of_getElem? (i := 282) (by decide +kernel), List.mem_of_getElem? (i := 838) (by decide +kernel), List.mem_of_getElem? (i := 839) (by decide +kernel)⟩
theorem lw_p37 : lw_okq (⟨"TinStencils", "joinable", "(LTinStencils$Sheet;)Z"⟩, 17) := ⟨⟨by decide +kernel, by decide +kernel⟩, List.mem_of_getElem? (i := 23) (by decide +kernel), List.mem_of_getElem? (i := 914) (by decide +kernel), List.mem_of_getElem? (i := 915) (by decide +kernel)⟩
theorem lw_p38 : lw_okq (⟨"TinStencils$Joining", "setPrices", "(LTinStencils$Sheet;Z)V"⟩, 4) := ⟨⟨by decide +kernel, by decide +kernel⟩, List.mem_of_getElem? (i := 316) (by decide +kernel), List.mem_of_getElem? (i := 923) (by decide +kernel), List.mem_of_getElem? (i := 924) (by decide +kernel)⟩
theorem lw_p39 : lw_okq (⟨"TinStencils$Joining", "begin", "(ILTinStencils$Parts;)V"⟩, 4) := ⟨⟨by decide +kernel, by decide +kernel⟩, List.mem_of_getElem? (i := 316) (by decide +kernel), List.mem_of_getElem? (i := 929) (by decide +kernel), List.mem_of_getElem? (i := 930) (by decide +kernel)⟩
theorem lw_p40 : lw_okq (⟨"TinStencils$Joining", "merge", "(II)V"⟩, 4) := ⟨⟨by decide +kernel, by decide +kernel⟩, List.mem_of_getElem? (i := 316) (by decide +kernel), List.mem_of_getElem? (i := 934) (by decide +kernel), List.mem_of_getElem? (i := 935) (by decide +kernel)⟩
theorem lw_p41 : lw_okq (⟨"TinStencils$Joining", "relax", "(I)V"⟩, 4) := ⟨⟨by decide +kernel, by decide +kernel⟩, List.mem_of_getElem? (i := 316) (by decide +kernel), List.mem_of_getElem? (i := 938) (by decide +kernel), List.mem_of_getElem? (i := 939) (by decide +kernel)⟩
theorem lw_p42 : lw_okq (⟨"TinStencils$Joining", "relaxSquare", "(II)Z"⟩, 4) := ⟨⟨by decide +kernel, by decide +kernel⟩, List.mem_of_getElem? (i := 316) (by decide +kernel), List.mem_of_getElem? (i := 942) (by decide +kernel), List.mem_of_getElem? (i := 943) (by decide +kernel)⟩
theorem lw_p43 : lw_okq (⟨"TinStencils$Joining", "joinedToFrame", "(I)I"⟩, 4) := ⟨⟨by decide +kernel, by decide +kernel⟩, List.mem_of_getElem? (i := 316) (by decide +kernel), List.mem_of_getElem? (i := 952) (by decide +kernel), List.mem_of_getElem? (i := 953) (by decide +kernel)⟩
theorem lw_p44 : lw_okq (⟨"TinStencils$Choosing", "weigh", "(LTinStencils$Sheet;LTinStencils$Sheet;)V"⟩, 3) := ⟨⟨by decide +kernel, by decide +kernel⟩, List.mem_of_getElem? (i := 336) (by decide +kernel), List.mem_of_getElem? (i := 972) (by decide +kernel), List.mem_of_getElem? (i := 973) (by decide +kernel)⟩
theorem lw_p45 : lw_okq (⟨"TinStencils$Choosing", "isBetter", "(II)Z"⟩, 3) := ⟨⟨by decide +kernel, by decide +kernel⟩, List.mem_of_getElem? (i := 336) (by decide +kernel), List.mem_of_getElem? (i := 978) (by decide +kernel), List.mem_of_getElem? (i := 979) (by decide +kernel)⟩
theorem lw_p46 : lw_okq (⟨"TinStencils$Choosing", "holds", "(ILTinStencils$Sheet;LTinStencils$Hanging;Z)Z"⟩, 3) := ⟨⟨by decide +kernel, by decide +kernel⟩, List.mem_of_getElem? (i := 336) (by decide +kernel), List.mem_of_getElem? (i := 987) (by decide +kernel), List.mem_of_getElem? (i := 988) (by decide +kernel)⟩
theorem lw_p47 : lw_okq (⟨"TinStencils$Choosing", "allHangs", "(ILTinStencils$Sheet;LTinStencils$Hanging;)Z"⟩, 3) := ⟨⟨by decide +kernel, by decide +kernel⟩, List.mem_of_getElem? (i := 336) (by decide +kernel), List.mem_of_getElem? (i := 991) (by decide +kernel), List.mem_of_getElem? (i := 992) (by decide +kernel)⟩
def lw_privs_3 : List (MethodName × Nat) := [(⟨"TinStencils", "walkHeld", "(LTinStencils$Sheet;)V"⟩, 17), (⟨"TinStencils$Hanging", "follow", "(I[I[I)V"⟩, 10), (⟨"TinStencils$Hanging", "enter", "(II[I)V"⟩, 10), (⟨"TinStencils$Hanging", "leave", "(I)I"⟩, 10), (⟨"TinStencils$Parts", "borderRow", "(I)I"⟩, 7), (⟨"TinStencils", "joinable", "(LTinStencils$Sheet;)Z"⟩, 17), (⟨"TinStencils$Joining", "setPrices", "(LTinStencils$Sheet;Z)V"⟩, 4), (⟨"TinStencils$Joining", "begin", "(ILTinStencils$Parts;)V"⟩, 4), (⟨"TinStencils$Joining", "merge", "(II)V"⟩, 4), (⟨"TinStencils$Joining", "relax", "(I)V"⟩, 4), (⟨"TinStencils$Joining", "relaxSquare", "(II)Z"⟩, 4), (⟨"TinStencils$Joining", "joinedToFrame", "(I)I"⟩, 4), (⟨"TinStencils$Choosing", "weigh", "(LTinStencils$Sheet;LTinStencils$Sheet;)V"⟩, 3), (⟨"TinStencils$Choosing", "isBetter", "(II)Z"⟩, 3), (⟨"TinStencils$Choosing", "holds", "(ILTinStencils$Sheet;LTinStencils$Hanging;Z)Z"⟩, 3), (⟨"TinStencils$Choosing", "allHangs", "(ILTinStencils$Sheet;LTinStencils$Hanging;)Z"⟩, 3)]
theorem lw_r3 : ∀ q ∈ lw_privs_3, lw_okq q := List.forall_mem_cons.mpr ⟨lw_p32, List.forall_mem_cons.mpr ⟨lw_p33, List.forall_mem_cons.mpr ⟨lw_p34, List.forall_mem_cons.mpr ⟨lw_p35, List.forall_mem_cons.mpr ⟨lw_p36, List.forall_mem_cons.mpr ⟨lw_p37, List.forall_mem_cons.mpr ⟨lw_p38, List.forall_mem_cons.mpr ⟨lw_p39, List.forall_mem_cons.mpr ⟨lw_p40, List.forall_mem_cons.mpr ⟨lw_p41, List.forall_mem_cons.mpr ⟨lw_p42, List.forall_mem_cons.mpr ⟨lw_p43, List.forall_mem_cons.mpr ⟨lw_p44, List.forall_mem_cons.mpr ⟨lw_p45, List.forall_mem_cons.mpr ⟨lw_p46, List.forall_mem_cons.mpr ⟨lw_p47, fun _ h => absurd h List.not_mem_nil⟩⟩⟩⟩⟩⟩⟩⟩⟩⟩⟩⟩⟩⟩⟩⟩
theorem lw_p48 : lw_okq (⟨"TinStencils", "sagOf", "(LTinStencils$Sheet;II)I"⟩, 17) := ⟨⟨by decide +kernel, by decide +kernel⟩, List.mem_of_getElem? (i := 23) (by decide +kernel), List.mem_of_getElem? (i := 1007) (by decide +kernel), List.mem_of_getElem? (i := 1008) (by decide +kernel)⟩
theorem lw_p49 : lw_okq (⟨"TinStencils", "walkFrom", "(LTinStencils$Sheet;II)V"⟩, 17) := ⟨⟨by decide +kernel, by decide +kernel⟩, List.mem_of_getElem? (i := 23) (by decide +kernel), List.mem_of_getElem? (i := 1011) (by decide +kernel), List.mem_of_getElem? (i := 1012) (by decide +kernel)⟩
theorem lw_p50 : lw_okq (⟨"TinStencils", "sagsAbove", "(LTinStencils$Sheet;III)I"⟩, 17) := ⟨⟨by decide +kernel, by decide +kernel⟩, List.mem_of_getElem? (i := 23) (by decide +kernel), List.mem_of_getElem? (i := 1016) (by decide +kernel), List.mem_of_getElem? (i := 1017) (by decide +kernel)⟩
theorem lw_p51 : lw_okq (⟨"TinStencils$Pile", "leftOf", "(II)I"⟩, 3) := ⟨⟨by decide +kernel, by decide +kernel⟩, List.mem_of_getElem? (i := 31) (by decide +kernel), List.mem_of_getElem? (i := 1071) (by decide +kernel), List.mem_of_getElem? (i := 1072) (by decide +kernel)⟩
theorem lw_p52 : lw_okq (⟨"TinStencils$Pile", "weighAhead", "(I)I"⟩, 3) := ⟨⟨by decide +kernel, by decide +kernel⟩, List.mem_of_getElem? (i := 31) (by decide +kernel), List.mem_of_getElem? (i := 1085) (by decide +kernel), List.mem_of_getElem? (i := 1086) (by decide +kernel)⟩
theorem lw_p53 : lw_okq (⟨"TinStencils$Reading", "costLeftOut", "(I)I"⟩, 7) := ⟨⟨by decide +kernel, by decide +kernel⟩, List.mem_of_getElem? (i := 352) (by decide +kernel), List.mem_of_getElem? (i := 1116) (by decide +kernel), List.mem_of_getElem? (i := 1117) (by decide +kernel)⟩
theorem lw_p54 : lw_okq (⟨"TinStencils$Reading", "costOf", "(LTinStencils$Sheet;II)I"⟩, 7) := ⟨⟨by decide +kernel, by decide +kernel⟩, List.mem_of_getElem? (i := 352) (by decide +kernel), List.mem_of_getElem? (i := 1120) (by decide +kernel), List.mem_of_getElem? (i := 1121) (by decide +kernel)⟩
theorem lw_p55 : lw_okq (⟨"TinStencils$Reading", "weigh", "(III)V"⟩, 7) := ⟨⟨by decide +kernel, by decide +kernel⟩, List.mem_of_getElem? (i := 352) (by decide +kernel), List.mem_of_getElem? (i := 1125) (by decide +kernel), List.mem_of_getElem? (i := 1126) (by decide +kernel)⟩
theorem lw_p56 : lw_okq (⟨"TinStencils$Reading", "follow", "(LTinStencils$Sheet;)V"⟩, 7) := ⟨⟨by decide +kernel, by decide +kernel⟩, List.mem_of_getElem? (i := 352) (by decide +kernel), List.mem_of_getElem? (i := 1134) (by decide +kernel), List.mem_of_getElem? (i := 1135) (by decide +kernel)⟩
theorem lw_p57 : lw_okq (⟨"TinStencils$Reading", "shapeAt", "(LTinStencils$Sheet;I)I"⟩, 7) := ⟨⟨by decide +kernel, by decide +kernel⟩, List.mem_of_getElem? (i := 352) (by decide +kernel), List.mem_of_getElem? (i := 1138) (by decide +kernel), List.mem_of_getElem? (i := 1139) (by decide +kernel)⟩
theorem lw_p58 : lw_okq (⟨"TinStencils", "findHoles", "(LTinStencils$Sheet;)V"⟩, 17) := ⟨⟨by decide +kernel, by decide +kernel⟩, List.mem_of_getElem? (i := 23) (by decide +kernel), List.mem_of_getElem? (i := 1151) (by decide +kernel), List.mem_of_getElem? (i := 1152) (by decide +kernel)⟩
theorem lw_p59 : lw_okq (⟨"TinStencils$Cutting", "prepare", "(LTinStencils$Sheet;LTinStencils$Parts;I)V"⟩, 6) := ⟨⟨by decide +kernel, by decide +kernel⟩, List.mem_of_getElem? (i := 380) (by decide +kernel), List.mem_of_getElem? (i := 1165) (by decide +kernel), List.mem_of_getElem? (i := 1166) (by decide +kernel)⟩
theorem lw_p60 : lw_okq (⟨"TinStencils$Cutting", "looseBehind", "(LTinStencils$Sheet;IILTinStencils$Hanging;)I"⟩, 6) := ⟨⟨by decide +kernel, by decide +kernel⟩, List.mem_of_getElem? (i := 380) (by decide +kernel), List.mem_of_getElem? (i := 1171) (by decide +kernel), List.mem_of_getElem? (i := 1172) (by decide +kernel)⟩
theorem lw_p61 : lw_okq (⟨"TinStencils$Cutting", "worstFrom", "(I)I"⟩, 6) := ⟨⟨by decide +kernel, by decide +kernel⟩, List.mem_of_getElem? (i := 380) (by decide +kernel), List.mem_of_getElem? (i := 1179) (by decide +kernel), List.mem_of_getElem? (i := 1180) (by decide +kernel)⟩
theorem lw_p62 : lw_okq (⟨"TinStencils$Cutting", "follow", "(I)V"⟩, 6) := ⟨⟨by decide +kernel, by decide +kernel⟩, List.mem_of_getElem? (i := 380) (by decide +kernel), List.mem_of_getElem? (i := 1184) (by decide +kernel), List.mem_of_getElem? (i := 1185) (by decide +kernel)⟩
theorem lw_p63 : lw_okq (⟨"TinStencilsModel", "four", "(I)V"⟩, 65) := ⟨⟨by decide +kernel, by decide +kernel⟩, List.mem_of_getElem? (i := 1222) (by decide +kernel), List.mem_of_getElem? (i := 1429) (by decide +kernel), List.mem_of_getElem? (i := 1430) (by decide +kernel)⟩
def lw_privs_4 : List (MethodName × Nat) := [(⟨"TinStencils", "sagOf", "(LTinStencils$Sheet;II)I"⟩, 17), (⟨"TinStencils", "walkFrom", "(LTinStencils$Sheet;II)V"⟩, 17), (⟨"TinStencils", "sagsAbove", "(LTinStencils$Sheet;III)I"⟩, 17), (⟨"TinStencils$Pile", "leftOf", "(II)I"⟩, 3), (⟨"TinStencils$Pile", "weighAhead", "(I)I"⟩, 3), (⟨"TinStencils$Reading", "costLeftOut", "(I)I"⟩, 7), (⟨"TinStencils$Reading", "costOf", "(LTinStencils$Sheet;II)I"⟩, 7), (⟨"TinStencils$Reading", "weigh", "(III)V"⟩, 7), (⟨"TinStencils$Reading", "follow", "(LTinStencils$Sheet;)V"⟩, 7), (⟨"TinStencils$Reading", "shapeAt", "(LTinStencils$Sheet;I)I"⟩, 7), (⟨"TinStencils", "findHoles", "(LTinStencils$Sheet;)V"⟩, 17), (⟨"TinStencils$Cutting", "prepare", "(LTinStencils$Sheet;LTinStencils$Parts;I)V"⟩, 6), (⟨"TinStencils$Cutting", "looseBehind", "(LTinStencils$Sheet;IILTinStencils$Hanging;)I"⟩, 6), (⟨"TinStencils$Cutting", "worstFrom", "(I)I"⟩, 6), (⟨"TinStencils$Cutting", "follow", "(I)V"⟩, 6), (⟨"TinStencilsModel", "four", "(I)V"⟩, 65)]
theorem lw_r4 : ∀ q ∈ lw_privs_4, lw_okq q := List.forall_mem_cons.mpr ⟨lw_p48, List.forall_mem_cons.mpr ⟨lw_p49, List.forall_mem_cons.mpr ⟨lw_p50, List.forall_mem_cons.mpr ⟨lw_p51, List.forall_mem_cons.mpr ⟨lw_p52, List.forall_mem_cons.mpr ⟨lw_p53, List.forall_mem_cons.mpr ⟨lw_p54, List.forall_mem_cons.mpr ⟨lw_p55, List.forall_mem_cons.mpr ⟨lw_p56, List.forall_mem_cons.mpr ⟨lw_p57, List.forall_mem_cons.mpr ⟨lw_p58, List.forall_mem_cons.mpr ⟨lw_p59, List.forall_mem_cons.mpr ⟨lw_p60, List.forall_mem_cons.mpr ⟨lw_p61, List.forall_mem_cons.mpr ⟨lw_p62, List.forall_mem_cons.mpr ⟨lw_p63, fun _ h => absurd h List.not_mem_nil⟩⟩⟩⟩⟩⟩⟩⟩⟩⟩⟩⟩⟩⟩⟩⟩
theorem lw_p64 : lw_okq (⟨"TinStencilsModel", "refuses", "(II)I"⟩, 65) := ⟨⟨by decide +kernel, by decide +kernel⟩, List.mem_of_getElem? (i := 1222) (by decide +kernel), List.mem_of_getElem? (i := 1440) (by decide +kernel), List.mem_of_getElem? (i := 1441) (by decide +kernel)⟩
theorem lw_p65 : lw_okq (⟨"TinStencilsModel", "plateTold", "()Z"⟩, 65) := ⟨⟨by decide +kernel, by decide +kernel⟩, List.mem_of_getElem? (i := 1222) (by decide +kernel), List.mem_of_getElem? (i := 1444) (by decide +kernel), List.mem_of_getElem? (i := 1445) (by decide +kernel)⟩
theorem lw_p66 : lw_okq (⟨"TinStencilsModel", "says", "(II)V"⟩, 65) := ⟨⟨by decide +kernel, by decide +kernel⟩, List.mem_of_getElem? (i := 1222) (by decide +kernel), List.mem_of_getElem? (i := 1448) (by decide +kernel), List.mem_of_getElem? (i := 1449) (by decide +kernel)⟩
theorem lw_p67 : lw_okq (⟨"TinStencilsModel", "takes", "(J)Z"⟩, 65) := ⟨⟨by decide +kernel, by decide +kernel⟩, List.mem_of_getElem? (i := 1222) (by decide +kernel), List.mem_of_getElem? (i := 1453) (by decide +kernel), List.mem_of_getElem? (i := 1454) (by decide +kernel)⟩
theorem lw_p68 : lw_okq (⟨"TinStencilsModel", "word", "()J"⟩, 65) := ⟨⟨by decide +kernel, by decide +kernel⟩, List.mem_of_getElem? (i := 1222) (by decide +kernel), List.mem_of_getElem? (i := 1457) (by decide +kernel), List.mem_of_getElem? (i := 1458) (by decide +kernel)⟩
theorem lw_p69 : lw_okq (⟨"TinStencilsModel", "blanks", "()V"⟩, 65) := ⟨⟨by decide +kernel, by decide +kernel⟩, List.mem_of_getElem? (i := 1222) (by decide +kernel), List.mem_of_getElem? (i := 1461) (by decide +kernel), List.mem_of_getElem? (i := 1462) (by decide +kernel)⟩
theorem lw_p70 : lw_okq (⟨"TinStencilsModel", "takesNumber", "(II)Z"⟩, 65) := ⟨⟨by decide +kernel, by decide +kernel⟩, List.mem_of_getElem? (i := 1222) (by decide +kernel), List.mem_of_getElem? (i := 1465) (by decide +kernel), List.mem_of_getElem? (i := 1466) (by decide +kernel)⟩
theorem lw_p71 : lw_okq (⟨"TinStencilsModel", "takesSign", "(I)Z"⟩, 65) := ⟨⟨by decide +kernel, by decide +kernel⟩, List.mem_of_getElem? (i := 1222) (by decide +kernel), List.mem_of_getElem? (i := 1469) (by decide +kernel), List.mem_of_getElem? (i := 1470) (by decide +kernel)⟩
theorem lw_p72 : lw_okq (⟨"TinStencilsModel", "draft", "(I)I"⟩, 65) := ⟨⟨by decide +kernel, by decide +kernel⟩, List.mem_of_getElem? (i := 1222) (by decide +kernel), List.mem_of_getElem? (i := 1473) (by decide +kernel), List.mem_of_getElem? (i := 1474) (by decide +kernel)⟩
theorem lw_p73 : lw_okq (⟨"TinStencilsModel", "statement", "()Z"⟩, 65) := ⟨⟨by decide +kernel, by decide +kernel⟩, List.mem_of_getElem? (i := 1222) (by decide +kernel), List.mem_of_getElem? (i := 1477) (by decide +kernel), List.mem_of_getElem? (i := 1478) (by decide +kernel)⟩
theorem lw_p74 : lw_okq (⟨"TinStencilsModel", "row", "()Z"⟩, 65) := ⟨⟨by decide +kernel, by decide +kernel⟩, List.mem_of_getElem? (i := 1222) (by decide +kernel), List.mem_of_getElem? (i := 1482) (by decide +kernel), List.mem_of_getElem? (i := 1483) (by decide +kernel)⟩
theorem lw_p75 : lw_okq (⟨"TinStencilsModel", "high", "(I)I"⟩, 65) := ⟨⟨by decide +kernel, by decide +kernel⟩, List.mem_of_getElem? (i := 1222) (by decide +kernel), List.mem_of_getElem? (i := 1486) (by decide +kernel), List.mem_of_getElem? (i := 1487) (by decide +kernel)⟩
theorem lw_p76 : lw_okq (⟨"TinStencilsModel", "wide", "(I)I"⟩, 65) := ⟨⟨by decide +kernel, by decide +kernel⟩, List.mem_of_getElem? (i := 1222) (by decide +kernel), List.mem_of_getElem? (i := 1490) (by decide +kernel), List.mem_of_getElem? (i := 1491) (by decide +kernel)⟩
theorem lw_p77 : lw_okq (⟨"TinStencilsModel", "takesSquares", "(II)Z"⟩, 65) := ⟨⟨by decide +kernel, by decide +kernel⟩, List.mem_of_getElem? (i := 1222) (by decide +kernel), List.mem_of_getElem? (i := 1494) (by decide +kernel), List.mem_of_getElem? (i := 1495) (by decide +kernel)⟩
theorem lw_p78 : lw_okq (⟨"TinStencilsModel", "shape", "()Z"⟩, 65) := ⟨⟨by decide +kernel, by decide +kernel⟩, List.mem_of_getElem? (i := 1222) (by decide +kernel), List.mem_of_getElem? (i := 1502) (by decide +kernel), List.mem_of_getElem? (i := 1503) (by decide +kernel)⟩
theorem lw_p79 : lw_okq (⟨"TinStencilsModel", "named", "(J)I"⟩, 65) := ⟨⟨by decide +kernel, by decide +kernel⟩, List.mem_of_getElem? (i := 1222) (by decide +kernel), List.mem_of_getElem? (i := 1532) (by decide +kernel), List.mem_of_getElem? (i := 1533) (by decide +kernel)⟩
def lw_privs_5 : List (MethodName × Nat) := [(⟨"TinStencilsModel", "refuses", "(II)I"⟩, 65), (⟨"TinStencilsModel", "plateTold", "()Z"⟩, 65), (⟨"TinStencilsModel", "says", "(II)V"⟩, 65), (⟨"TinStencilsModel", "takes", "(J)Z"⟩, 65), (⟨"TinStencilsModel", "word", "()J"⟩, 65), (⟨"TinStencilsModel", "blanks", "()V"⟩, 65), (⟨"TinStencilsModel", "takesNumber", "(II)Z"⟩, 65), (⟨"TinStencilsModel", "takesSign", "(I)Z"⟩, 65), (⟨"TinStencilsModel", "draft", "(I)I"⟩, 65), (⟨"TinStencilsModel", "statement", "()Z"⟩, 65), (⟨"TinStencilsModel", "row", "()Z"⟩, 65), (⟨"TinStencilsModel", "high", "(I)I"⟩, 65), (⟨"TinStencilsModel", "wide", "(I)I"⟩, 65), (⟨"TinStencilsModel", "takesSquares", "(II)Z"⟩, 65), (⟨"TinStencilsModel", "shape", "()Z"⟩, 65), (⟨"TinStencilsModel", "named", "(J)I"⟩, 65)]
theorem lw_r5 : ∀ q ∈ lw_privs_5, lw_okq q := List.forall_mem_cons.mpr ⟨lw_p64, List.forall_mem_cons.mpr ⟨lw_p65, List.forall_mem_cons.mpr ⟨lw_p66, List.forall_mem_cons.mpr ⟨lw_p67, List.forall_mem_cons.mpr ⟨lw_p68, List.forall_mem_cons.mpr ⟨lw_p69, List.forall_mem_cons.mpr ⟨lw_p70, List.forall_mem_cons.mpr ⟨lw_p71, List.forall_mem_cons.mpr ⟨lw_p72, List.forall_mem_cons.mpr ⟨lw_p73, List.forall_mem_cons.mpr ⟨lw_p74, List.forall_mem_cons.mpr ⟨lw_p75, List.forall_mem_cons.mpr ⟨lw_p76, List.forall_mem_cons.mpr ⟨lw_p77, List.forall_mem_cons.mpr ⟨lw_p78, List.forall_mem_cons.mpr ⟨lw_p79, fun _ h => absurd h List.not_mem_nil⟩⟩⟩⟩⟩⟩⟩⟩⟩⟩⟩⟩⟩⟩⟩⟩
theorem lw_p80 : lw_okq (⟨"TinStencilsModel", "put", "()Z"⟩, 65) := ⟨⟨by decide +kernel, by decide +kernel⟩, List.mem_of_getElem? (i := 1222) (by decide +kernel), List.mem_of_getElem? (i := 1536) (by decide +kernel), List.mem_of_getElem? (i := 1537) (by decide +kernel)⟩
theorem lw_p81 : lw_okq (⟨"TinStencilsModel", "takesPlace", "(II)Z"⟩, 65) := ⟨⟨by decide +kernel, by decide +kernel⟩, List.mem_of_getElem? (i := 1222) (by decide +kernel), List.mem_of_getElem? (i := 1540) (by decide +kernel), List.mem_of_getElem? (i := 1541) (by decide +kernel)⟩
theorem lw_p82 : lw_okq (⟨"TinStencilsModel", "isWithin", "(III)Z"⟩, 65) := ⟨⟨by decide +kernel, by decide +kernel⟩, List.mem_of_getElem? (i := 1222) (by decide +kernel), List.mem_of_getElem? (i := 1550) (by decide +kernel), List.mem_of_getElem? (i := 1551) (by decide +kernel)⟩
theorem lw_p83 : lw_okq (⟨"TinStencilsModel", "hold", "()Z"⟩, 65) := ⟨⟨by decide +kernel, by decide +kernel⟩, List.mem_of_getElem? (i := 1222) (by decide +kernel), List.mem_of_getElem? (i := 1554) (by decide +kernel), List.mem_of_getElem? (i := 1555) (by decide +kernel)⟩
theorem lw_p84 : lw_okq (⟨"TinStencilsModel", "takesSide", "()Z"⟩, 65) := ⟨⟨by decide +kernel, by decide +kernel⟩, List.mem_of_getElem? (i := 1222) (by decide +kernel), List.mem_of_getElem? (i := 1558) (by decide +kernel), List.mem_of_getElem? (i := 1559) (by decide +kernel)⟩
theorem lw_p85 : lw_okq (⟨"TinStencilsModel", "worthTold", "()Z"⟩, 65) := ⟨⟨by decide +kernel, by decide +kernel⟩, List.mem_of_getElem? (i := 1222) (by decide +kernel), List.mem_of_getElem? (i := 1562) (by decide +kernel), List.mem_of_getElem? (i := 1563) (by decide +kernel)⟩
theorem lw_p86 : lw_okq (⟨"TinStencilsModel", "numberTold", "(II)Z"⟩, 65) := ⟨⟨by decide +kernel, by decide +kernel⟩, List.mem_of_getElem? (i := 1222) (by decide +kernel), List.mem_of_getElem? (i := 1566) (by decide +kernel), List.mem_of_getElem? (i := 1567) (by decide +kernel)⟩
theorem lw_p87 : lw_okq (⟨"TinStencilsModel", "bridgeTold", "()Z"⟩, 65) := ⟨⟨by decide +kernel, by decide +kernel⟩, List.mem_of_getElem? (i := 1222) (by decide +kernel), List.mem_of_getElem? (i := 1570) (by decide +kernel), List.mem_of_getElem? (i := 1571) (by decide +kernel)⟩
theorem lw_p88 : lw_okq (⟨"TinStencilsModel", "cornerTold", "(I)Z"⟩, 65) := ⟨⟨by decide +kernel, by decide +kernel⟩, List.mem_of_getElem? (i := 1222) (by decide +kernel), List.mem_of_getElem? (i := 1574) (by decide +kernel), List.mem_of_getElem? (i := 1575) (by decide +kernel)⟩
theorem lw_p89 : lw_okq (⟨"TinStencilsModel", "lays", "(IIIIII)V"⟩, 65) := ⟨⟨by decide +kernel, by decide +kernel⟩, List.mem_of_getElem? (i := 1222) (by decide +kernel), List.mem_of_getElem? (i := 1578) (by decide +kernel), List.mem_of_getElem? (i := 1579) (by decide +kernel)⟩
theorem lw_p90 : lw_okq (⟨"TinStencilsModel", "squaresTold", "(I)Z"⟩, 65) := ⟨⟨by decide +kernel, by decide +kernel⟩, List.mem_of_getElem? (i := 1222) (by decide +kernel), List.mem_of_getElem? (i := 1588) (by decide +kernel), List.mem_of_getElem? (i := 1589) (by decide +kernel)⟩
theorem lw_p91 : lw_okq (⟨"TinStencilsModel", "countBridge", "(IIZ)I"⟩, 65) := ⟨⟨by decide +kernel, by decide +kernel⟩, List.mem_of_getElem? (i := 1222) (by decide +kernel), List.mem_of_getElem? (i := 1592) (by decide +kernel), List.mem_of_getElem? (i := 1593) (by decide +kernel)⟩
theorem lw_p92 : lw_okq (⟨"TinStencilsModel", "straight", "(IZ)Z"⟩, 65) := ⟨⟨by decide +kernel, by decide +kernel⟩, List.mem_of_getElem? (i := 1222) (by decide +kernel), List.mem_of_getElem? (i := 1599) (by decide +kernel), List.mem_of_getElem? (i := 1600) (by decide +kernel)⟩
theorem lw_p93 : lw_okq (⟨"TinStencilsModel", "takesOver", "(I)V"⟩, 65) := ⟨⟨by decide +kernel, by decide +kernel⟩, List.mem_of_getElem? (i := 1222) (by decide +kernel), List.mem_of_getElem? (i := 1603) (by decide +kernel), List.mem_of_getElem? (i := 1604) (by decide +kernel)⟩
theorem lw_p94 : lw_okq (⟨"TinStencilsModel", "isSheet", "(I)Z"⟩, 65) := ⟨⟨by decide +kernel, by decide +kernel⟩, List.mem_of_getElem? (i := 1222) (by decide +kernel), List.mem_of_getElem? (i := 1615) (by decide +kernel), List.mem_of_getElem? (i := 1616) (by decide +kernel)⟩
theorem lw_p95 : lw_okq (⟨"TinStencilsModel", "bridgesIn", "(I)I"⟩, 65) := ⟨⟨by decide +kernel, by decide +kernel⟩, List.mem_of_getElem? (i := 1222) (by decide +kernel), List.mem_of_getElem? (i := 1619) (by decide +kernel), List.mem_of_getElem? (i := 1620) (by decide +kernel)⟩
def lw_privs_6 : List (MethodName × Nat) := [(⟨"TinStencilsModel", "put", "()Z"⟩, 65), (⟨"TinStencilsModel", "takesPlace", "(II)Z"⟩, 65), (⟨"TinStencilsModel", "isWithin", "(III)Z"⟩, 65), (⟨"TinStencilsModel", "hold", "()Z"⟩, 65), (⟨"TinStencilsModel", "takesSide", "()Z"⟩, 65), (⟨"TinStencilsModel", "worthTold", "()Z"⟩, 65), (⟨"TinStencilsModel", "numberTold", "(II)Z"⟩, 65), (⟨"TinStencilsModel", "bridgeTold", "()Z"⟩, 65), (⟨"TinStencilsModel", "cornerTold", "(I)Z"⟩, 65), (⟨"TinStencilsModel", "lays", "(IIIIII)V"⟩, 65), (⟨"TinStencilsModel", "squaresTold", "(I)Z"⟩, 65), (⟨"TinStencilsModel", "countBridge", "(IIZ)I"⟩, 65), (⟨"TinStencilsModel", "straight", "(IZ)Z"⟩, 65), (⟨"TinStencilsModel", "takesOver", "(I)V"⟩, 65), (⟨"TinStencilsModel", "isSheet", "(I)Z"⟩, 65), (⟨"TinStencilsModel", "bridgesIn", "(I)I"⟩, 65)]
theorem lw_r6 : ∀ q ∈ lw_privs_6, lw_okq q := List.forall_mem_cons.mpr ⟨lw_p80, List.forall_mem_cons.mpr ⟨lw_p81, List.forall_mem_cons.mpr ⟨lw_p82, List.forall_mem_cons.mpr ⟨lw_p83, List.forall_mem_cons.mpr ⟨lw_p84, List.forall_mem_cons.mpr ⟨lw_p85, List.forall_mem_cons.mpr ⟨lw_p86, List.forall_mem_cons.mpr ⟨lw_p87, List.forall_mem_cons.mpr ⟨lw_p88, List.forall_mem_cons.mpr ⟨lw_p89, List.forall_mem_cons.mpr ⟨lw_p90, List.forall_mem_cons.mpr ⟨lw_p91, List.forall_mem_cons.mpr ⟨lw_p92, List.forall_mem_cons.mpr ⟨lw_p93, List.forall_mem_cons.mpr ⟨lw_p94, List.forall_mem_cons.mpr ⟨lw_p95, fun _ h => absurd h List.not_mem_nil⟩⟩⟩⟩⟩⟩⟩⟩⟩⟩⟩⟩⟩⟩⟩⟩
theorem lw_p96 : lw_okq (⟨"TinStencilsModel", "tins", "(II)V"⟩, 65) := ⟨⟨by decide +kernel, by decide +kernel⟩, List.mem_of_getElem? (i := 1222) (by decide +kernel), List.mem_of_getElem? (i := 1623) (by decide +kernel), List.mem_of_getElem? (i := 1624) (by decide +kernel)⟩
theorem lw_p97 : lw_okq (⟨"TinStencilsModel", "isTin", "(IIII)Z"⟩, 65) := ⟨⟨by decide +kernel, by decide +kernel⟩, List.mem_of_getElem? (i := 1222) (by decide +kernel), List.mem_of_getElem? (i := 1627) (by decide +kernel), List.mem_of_getElem? (i := 1628) (by decide +kernel)⟩
theorem lw_p98 : lw_okq (⟨"TinStencilsModel", "tinMany", "()I"⟩, 65) := ⟨⟨by decide +kernel, by decide +kernel⟩, List.mem_of_getElem? (i := 1222) (by decide +kernel), List.mem_of_getElem? (i := 1631) (by decide +kernel), List.mem_of_getElem? (i := 1632) (by decide +kernel)⟩
theorem lw_p99 : lw_okq (⟨"TinStencilsModel", "looks", "(II)V"⟩, 65) := ⟨⟨by decide +kernel, by decide +kernel⟩, List.mem_of_getElem? (i := 1222) (by decide +kernel), List.mem_of_getElem? (i := 1639) (by decide +kernel), List.mem_of_getElem? (i := 1640) (by decide +kernel)⟩
theorem lw_p100 : lw_okq (⟨"TinStencilsModel", "hanging", "(III)I"⟩, 65) := ⟨⟨by decide +kernel, by decide +kernel⟩, List.mem_of_getElem? (i := 1222) (by decide +kernel), List.mem_of_getElem? (i := 1643) (by decide +kernel), List.mem_of_getElem? (i := 1644) (by decide +kernel)⟩
theorem lw_p101 : lw_okq (⟨"TinStencilsModel", "isRim", "(II)Z"⟩, 65) := ⟨⟨by decide +kernel, by decide +kernel⟩, List.mem_of_getElem? (i := 1222) (by decide +kernel), List.mem_of_getElem? (i := 1647) (by decide +kernel), List.mem_of_getElem? (i := 1648) (by decide +kernel)⟩
theorem lw_p102 : lw_okq (⟨"TinStencilsModel", "begins", "(II)I"⟩, 65) := ⟨⟨by decide +kernel, by decide +kernel⟩, List.mem_of_getElem? (i := 1222) (by decide +kernel), List.mem_of_getElem? (i := 1651) (by decide +kernel), List.mem_of_getElem? (i := 1652) (by decide +kernel)⟩
theorem lw_p103 : lw_okq (⟨"TinStencilsModel", "floods", "(II)I"⟩, 65) := ⟨⟨by decide +kernel, by decide +kernel⟩, List.mem_of_getElem? (i := 1222) (by decide +kernel), List.mem_of_getElem? (i := 1655) (by decide +kernel), List.mem_of_getElem? (i := 1656) (by decide +kernel)⟩
theorem lw_p104 : lw_okq (⟨"TinStencilsModel", "parts", "(II)V"⟩, 65) := ⟨⟨by decide +kernel, by decide +kernel⟩, List.mem_of_getElem? (i := 1222) (by decide +kernel), List.mem_of_getElem? (i := 1662) (by decide +kernel), List.mem_of_getElem? (i := 1663) (by decide +kernel)⟩
theorem lw_p105 : lw_okq (⟨"TinStencilsModel", "isPart", "(III)Z"⟩, 65) := ⟨⟨by decide +kernel, by decide +kernel⟩, List.mem_of_getElem? (i := 1222) (by decide +kernel), List.mem_of_getElem? (i := 1666) (by decide +kernel), List.mem_of_getElem? (i := 1667) (by decide +kernel)⟩
theorem lw_p106 : lw_okq (⟨"TinStencilsModel", "tongue", "(II)I"⟩, 65) := ⟨⟨by decide +kernel, by decide +kernel⟩, List.mem_of_getElem? (i := 1222) (by decide +kernel), List.mem_of_getElem? (i := 1670) (by decide +kernel), List.mem_of_getElem? (i := 1671) (by decide +kernel)⟩
theorem lw_p107 : lw_okq (⟨"TinStencilsModel", "tongueOf", "(IIII)I"⟩, 65) := ⟨⟨by decide +kernel, by decide +kernel⟩, List.mem_of_getElem? (i := 1222) (by decide +kernel), List.mem_of_getElem? (i := 1674) (by decide +kernel), List.mem_of_getElem? (i := 1675) (by decide +kernel)⟩
theorem lw_p108 : lw_okq (⟨"TinStencilsModel", "gap", "(I)I"⟩, 65) := ⟨⟨by decide +kernel, by decide +kernel⟩, List.mem_of_getElem? (i := 1222) (by decide +kernel), List.mem_of_getElem? (i := 1682) (by decide +kernel), List.mem_of_getElem? (i := 1683) (by decide +kernel)⟩
theorem lw_p109 : lw_okq (⟨"TinStencilsModel", "necks", "(III)V"⟩, 65) := ⟨⟨by decide +kernel, by decide +kernel⟩, List.mem_of_getElem? (i := 1222) (by decide +kernel), List.mem_of_getElem? (i := 1690) (by decide +kernel), List.mem_of_getElem? (i := 1691) (by decide +kernel)⟩
theorem lw_p110 : lw_okq (⟨"TinStencilsModel", "refuses", "(I)Z"⟩, 65) := ⟨⟨by decide +kernel, by decide +kernel⟩, List.mem_of_getElem? (i := 1222) (by decide +kernel), List.mem_of_getElem? (i := 1699) (by decide +kernel), List.mem_of_getElem? (i := 1700) (by decide +kernel)⟩
theorem lw_p111 : lw_okq (⟨"TinStencilsModel", "isBridge", "(II)Z"⟩, 65) := ⟨⟨by decide +kernel, by decide +kernel⟩, List.mem_of_getElem? (i := 1222) (by decide +kernel), List.mem_of_getElem? (i := 1707) (by decide +kernel), List.mem_of_getElem? (i := 1708) (by decide +kernel)⟩
def lw_privs_7 : List (MethodName × Nat) := [(⟨"TinStencilsModel", "tins", "(II)V"⟩, 65), (⟨"TinStencilsModel", "isTin", "(IIII)Z"⟩, 65), (⟨"TinStencilsModel", "tinMany", "()I"⟩, 65), (⟨"TinStencilsModel", "looks", "(II)V"⟩, 65), (⟨"TinStencilsModel", "hanging", "(III)I"⟩, 65), (⟨"TinStencilsModel", "isRim", "(II)Z"⟩, 65), (⟨"TinStencilsModel", "begins", "(II)I"⟩, 65), (⟨"TinStencilsModel", "floods", "(II)I"⟩, 65), (⟨"TinStencilsModel", "parts", "(II)V"⟩, 65), (⟨"TinStencilsModel", "isPart", "(III)Z"⟩, 65), (⟨"TinStencilsModel", "tongue", "(II)I"⟩, 65), (⟨"TinStencilsModel", "tongueOf", "(IIII)I"⟩, 65), (⟨"TinStencilsModel", "gap", "(I)I"⟩, 65), (⟨"TinStencilsModel", "necks", "(III)V"⟩, 65), (⟨"TinStencilsModel", "refuses", "(I)Z"⟩, 65), (⟨"TinStencilsModel", "isBridge", "(II)Z"⟩, 65)]
theorem lw_r7 : ∀ q ∈ lw_privs_7, lw_okq q := List.forall_mem_cons.mpr ⟨lw_p96, List.forall_mem_cons.mpr ⟨lw_p97, List.forall_mem_cons.mpr ⟨lw_p98, List.forall_mem_cons.mpr ⟨lw_p99, List.forall_mem_cons.mpr ⟨lw_p100, List.forall_mem_cons.mpr ⟨lw_p101, List.forall_mem_cons.mpr ⟨lw_p102, List.forall_mem_cons.mpr ⟨lw_p103, List.forall_mem_cons.mpr ⟨lw_p104, List.forall_mem_cons.mpr ⟨lw_p105, List.forall_mem_cons.mpr ⟨lw_p106, List.forall_mem_cons.mpr ⟨lw_p107, List.forall_mem_cons.mpr ⟨lw_p108, List.forall_mem_cons.mpr ⟨lw_p109, List.forall_mem_cons.mpr ⟨lw_p110, List.forall_mem_cons.mpr ⟨lw_p111, fun _ h => absurd h List.not_mem_nil⟩⟩⟩⟩⟩⟩⟩⟩⟩⟩⟩⟩⟩⟩⟩⟩
theorem lw_p112 : lw_okq (⟨"TinStencilsModel", "allHang", "(II)Z"⟩, 65) := ⟨⟨by decide +kernel, by decide +kernel⟩, List.mem_of_getElem? (i := 1222) (by decide +kernel), List.mem_of_getElem? (i := 1719) (by decide +kernel), List.mem_of_getElem? (i := 1720) (by decide +kernel)⟩
theorem lw_p113 : lw_okq (⟨"TinStencilsModel", "seen", "(II)I"⟩, 65) := ⟨⟨by decide +kernel, by decide +kernel⟩, List.mem_of_getElem? (i := 1222) (by decide +kernel), List.mem_of_getElem? (i := 1723) (by decide +kernel), List.mem_of_getElem? (i := 1724) (by decide +kernel)⟩
theorem lw_p114 : lw_okq (⟨"TinStencilsModel", "hiddenOnes", "(I)I"⟩, 65) := ⟨⟨by decide +kernel, by decide +kernel⟩, List.mem_of_getElem? (i := 1222) (by decide +kernel), List.mem_of_getElem? (i := 1727) (by decide +kernel), List.mem_of_getElem? (i := 1728) (by decide +kernel)⟩
theorem lw_p115 : lw_okq (⟨"TinStencilsModel", "isCutBelow", "(III)Z"⟩, 65) := ⟨⟨by decide +kernel, by decide +kernel⟩, List.mem_of_getElem? (i := 1222) (by decide +kernel), List.mem_of_getElem? (i := 1731) (by decide +kernel), List.mem_of_getElem? (i := 1732) (by decide +kernel)⟩
theorem lw_p116 : lw_okq (⟨"TinStencilsModel", "all", "(I)I"⟩, 65) := ⟨⟨by decide +kernel, by decide +kernel⟩, List.mem_of_getElem? (i := 1222) (by decide +kernel), List.mem_of_getElem? (i := 1739) (by decide +kernel), List.mem_of_getElem? (i := 1740) (by decide +kernel)⟩
theorem lw_p117 : lw_okq (⟨"TinStencilsModel", "isTwice", "(I)Z"⟩, 65) := ⟨⟨by decide +kernel, by decide +kernel⟩, List.mem_of_getElem? (i := 1222) (by decide +kernel), List.mem_of_getElem? (i := 1743) (by decide +kernel), List.mem_of_getElem? (i := 1744) (by decide +kernel)⟩
theorem lw_p118 : lw_okq (⟨"TinStencilsModel", "falling", "(II)I"⟩, 65) := ⟨⟨by decide +kernel, by decide +kernel⟩, List.mem_of_getElem? (i := 1222) (by decide +kernel), List.mem_of_getElem? (i := 1758) (by decide +kernel), List.mem_of_getElem? (i := 1759) (by decide +kernel)⟩
theorem lw_p119 : lw_okq (⟨"TinStencilsModel", "isHeldBy", "(III)Z"⟩, 65) := ⟨⟨by decide +kernel, by decide +kernel⟩, List.mem_of_getElem? (i := 1222) (by decide +kernel), List.mem_of_getElem? (i := 1766) (by decide +kernel), List.mem_of_getElem? (i := 1767) (by decide +kernel)⟩
theorem lw_p120 : lw_okq (⟨"TinStencilsModel", "joins", "(IZ)V"⟩, 65) := ⟨⟨by decide +kernel, by decide +kernel⟩, List.mem_of_getElem? (i := 1222) (by decide +kernel), List.mem_of_getElem? (i := 1779) (by decide +kernel), List.mem_of_getElem? (i := 1780) (by decide +kernel)⟩
theorem lw_p121 : lw_okq (⟨"TinStencilsModel", "costs", "(IZ)V"⟩, 65) := ⟨⟨by decide +kernel, by decide +kernel⟩, List.mem_of_getElem? (i := 1222) (by decide +kernel), List.mem_of_getElem? (i := 1783) (by decide +kernel), List.mem_of_getElem? (i := 1784) (by decide +kernel)⟩
theorem lw_p122 : lw_okq (⟨"TinStencilsModel", "goesOn", "(I)V"⟩, 65) := ⟨⟨by decide +kernel, by decide +kernel⟩, List.mem_of_getElem? (i := 1222) (by decide +kernel), List.mem_of_getElem? (i := 1789) (by decide +kernel), List.mem_of_getElem? (i := 1790) (by decide +kernel)⟩
theorem lw_p123 : lw_okq (⟨"TinStencilsModel", "laysOver", "()V"⟩, 65) := ⟨⟨by decide +kernel, by decide +kernel⟩, List.mem_of_getElem? (i := 1222) (by decide +kernel), List.mem_of_getElem? (i := 1805) (by decide +kernel), List.mem_of_getElem? (i := 1806) (by decide +kernel)⟩
theorem lw_p124 : lw_okq (⟨"TinStencilsModel", "byOrder", "()V"⟩, 65) := ⟨⟨by decide +kernel, by decide +kernel⟩, List.mem_of_getElem? (i := 1222) (by decide +kernel), List.mem_of_getElem? (i := 1809) (by decide +kernel), List.mem_of_getElem? (i := 1810) (by decide +kernel)⟩
theorem lw_p125 : lw_okq (⟨"TinStencilsModel", "leftBy", "()I"⟩, 65) := ⟨⟨by decide +kernel, by decide +kernel⟩, List.mem_of_getElem? (i := 1222) (by decide +kernel), List.mem_of_getElem? (i := 1818) (by decide +kernel), List.mem_of_getElem? (i := 1819) (by decide +kernel)⟩
theorem lw_p126 : lw_okq (⟨"TinStencilsModel", "leastLeft", "()I"⟩, 65) := ⟨⟨by decide +kernel, by decide +kernel⟩, List.mem_of_getElem? (i := 1222) (by decide +kernel), List.mem_of_getElem? (i := 1822) (by decide +kernel), List.mem_of_getElem? (i := 1823) (by decide +kernel)⟩
theorem lw_p127 : lw_okq (⟨"TinStencilsModel", "factorial", "(I)I"⟩, 65) := ⟨⟨by decide +kernel, by decide +kernel⟩, List.mem_of_getElem? (i := 1222) (by decide +kernel), List.mem_of_getElem? (i := 1826) (by decide +kernel), List.mem_of_getElem? (i := 1827) (by decide +kernel)⟩
def lw_privs_8 : List (MethodName × Nat) := [(⟨"TinStencilsModel", "allHang", "(II)Z"⟩, 65), (⟨"TinStencilsModel", "seen", "(II)I"⟩, 65), (⟨"TinStencilsModel", "hiddenOnes", "(I)I"⟩, 65), (⟨"TinStencilsModel", "isCutBelow", "(III)Z"⟩, 65), (⟨"TinStencilsModel", "all", "(I)I"⟩, 65), (⟨"TinStencilsModel", "isTwice", "(I)Z"⟩, 65), (⟨"TinStencilsModel", "falling", "(II)I"⟩, 65), (⟨"TinStencilsModel", "isHeldBy", "(III)Z"⟩, 65), (⟨"TinStencilsModel", "joins", "(IZ)V"⟩, 65), (⟨"TinStencilsModel", "costs", "(IZ)V"⟩, 65), (⟨"TinStencilsModel", "goesOn", "(I)V"⟩, 65), (⟨"TinStencilsModel", "laysOver", "()V"⟩, 65), (⟨"TinStencilsModel", "byOrder", "()V"⟩, 65), (⟨"TinStencilsModel", "leftBy", "()I"⟩, 65), (⟨"TinStencilsModel", "leastLeft", "()I"⟩, 65), (⟨"TinStencilsModel", "factorial", "(I)I"⟩, 65)]
theorem lw_r8 : ∀ q ∈ lw_privs_8, lw_okq q := List.forall_mem_cons.mpr ⟨lw_p112, List.forall_mem_cons.mpr ⟨lw_p113, List.forall_mem_cons.mpr ⟨lw_p114, List.forall_mem_cons.mpr ⟨lw_p115, List.forall_mem_cons.mpr ⟨lw_p116, List.forall_mem_cons.mpr ⟨lw_p117, List.forall_mem_cons.mpr ⟨lw_p118, List.forall_mem_cons.mpr ⟨lw_p119, List.forall_mem_cons.mpr ⟨lw_p120, List.forall_mem_cons.mpr ⟨lw_p121, List.forall_mem_cons.mpr ⟨lw_p122, List.forall_mem_cons.mpr ⟨lw_p123, List.forall_mem_cons.mpr ⟨lw_p124, List.forall_mem_cons.mpr ⟨lw_p125, List.forall_mem_cons.mpr ⟨lw_p126, List.forall_mem_cons.mpr ⟨lw_p127, fun _ h => absurd h List.not_mem_nil⟩⟩⟩⟩⟩⟩⟩⟩⟩⟩⟩⟩⟩⟩⟩⟩
theorem lw_p128 : lw_okq (⟨"TinStencilsModel", "skips", "(IIII)I"⟩, 65) := ⟨⟨by decide +kernel, by decide +kernel⟩, List.mem_of_getElem? (i := 1222) (by decide +kernel), List.mem_of_getElem? (i := 1830) (by decide +kernel), List.mem_of_getElem? (i := 1831) (by decide +kernel)⟩
theorem lw_p129 : lw_okq (⟨"TinStencilsModel", "reads", "(II)V"⟩, 65) := ⟨⟨by decide +kernel, by decide +kernel⟩, List.mem_of_getElem? (i := 1222) (by decide +kernel), List.mem_of_getElem? (i := 1848) (by decide +kernel), List.mem_of_getElem? (i := 1849) (by decide +kernel)⟩
theorem lw_p130 : lw_okq (⟨"TinStencilsModel", "unlike", "(IIII)I"⟩, 65) := ⟨⟨by decide +kernel, by decide +kernel⟩, List.mem_of_getElem? (i := 1222) (by decide +kernel), List.mem_of_getElem? (i := 1852) (by decide +kernel), List.mem_of_getElem? (i := 1853) (by decide +kernel)⟩
theorem lw_p131 : lw_okq (⟨"TinStencilsModel", "takesIn", "(IIIII)V"⟩, 65) := ⟨⟨by decide +kernel, by decide +kernel⟩, List.mem_of_getElem? (i := 1222) (by decide +kernel), List.mem_of_getElem? (i := 1856) (by decide +kernel), List.mem_of_getElem? (i := 1857) (by decide +kernel)⟩
theorem lw_p132 : lw_okq (⟨"TinStencilsModel", "leftOut", "(III)I"⟩, 65) := ⟨⟨by decide +kernel, by decide +kernel⟩, List.mem_of_getElem? (i := 1222) (by decide +kernel), List.mem_of_getElem? (i := 1862) (by decide +kernel), List.mem_of_getElem? (i := 1863) (by decide +kernel)⟩
theorem lw_p133 : lw_okq (⟨"TinStencilsModel", "looseBy", "(II)I"⟩, 65) := ⟨⟨by decide +kernel, by decide +kernel⟩, List.mem_of_getElem? (i := 1222) (by decide +kernel), List.mem_of_getElem? (i := 1874) (by decide +kernel), List.mem_of_getElem? (i := 1875) (by decide +kernel)⟩
theorem lw_p134 : lw_okq (⟨"TinStencilsModel", "keeps", "([II)V"⟩, 65) := ⟨⟨by decide +kernel, by decide +kernel⟩, List.mem_of_getElem? (i := 1222) (by decide +kernel), List.mem_of_getElem? (i := 1882) (by decide +kernel), List.mem_of_getElem? (i := 1883) (by decide +kernel)⟩
theorem lw_p135 : lw_okq (⟨"TinStencilsModel", "fetches", "([II)V"⟩, 65) := ⟨⟨by decide +kernel, by decide +kernel⟩, List.mem_of_getElem? (i := 1222) (by decide +kernel), List.mem_of_getElem? (i := 1890) (by decide +kernel), List.mem_of_getElem? (i := 1891) (by decide +kernel)⟩
def lw_privs_9 : List (MethodName × Nat) := [(⟨"TinStencilsModel", "skips", "(IIII)I"⟩, 65), (⟨"TinStencilsModel", "reads", "(II)V"⟩, 65), (⟨"TinStencilsModel", "unlike", "(IIII)I"⟩, 65), (⟨"TinStencilsModel", "takesIn", "(IIIII)V"⟩, 65), (⟨"TinStencilsModel", "leftOut", "(III)I"⟩, 65), (⟨"TinStencilsModel", "looseBy", "(II)I"⟩, 65), (⟨"TinStencilsModel", "keeps", "([II)V"⟩, 65), (⟨"TinStencilsModel", "fetches", "([II)V"⟩, 65)]
theorem lw_r9 : ∀ q ∈ lw_privs_9, lw_okq q := List.forall_mem_cons.mpr ⟨lw_p128, List.forall_mem_cons.mpr ⟨lw_p129, List.forall_mem_cons.mpr ⟨lw_p130, List.forall_mem_cons.mpr ⟨lw_p131, List.forall_mem_cons.mpr ⟨lw_p132, List.forall_mem_cons.mpr ⟨lw_p133, List.forall_mem_cons.mpr ⟨lw_p134, List.forall_mem_cons.mpr ⟨lw_p135, fun _ h => absurd h List.not_mem_nil⟩⟩⟩⟩⟩⟩⟩⟩
def lw_privs : List (MethodName × Nat) := lw_privs_1 ++ (lw_privs_2 ++ (lw_privs_3 ++ (lw_privs_4 ++ (lw_privs_5 ++ (lw_privs_6 ++ (lw_privs_7 ++ (lw_privs_8 ++ (lw_privs_9))))))))
def lw_tbl : List Cond := k2_sels lw_privs ++ tables_1
theorem lw_privs_ok : ∀ q ∈ lw_privs, lw_okq q := by
  show ∀ q ∈ lw_privs_1 ++ (lw_privs_2 ++ (lw_privs_3 ++ (lw_privs_4 ++ (lw_privs_5 ++ (lw_privs_6 ++ (lw_privs_7 ++ (lw_privs_8 ++ (lw_privs_9)))))))), lw_okq q
  exact List.forall_mem_append.mpr ⟨lw_r1, List.forall_mem_append.mpr ⟨lw_r2, List.forall_mem_append.mpr ⟨lw_r3, List.forall_mem_append.mpr ⟨lw_r4, List.forall_mem_append.mpr ⟨lw_r5, List.forall_mem_append.mpr ⟨lw_r6, List.forall_mem_append.mpr ⟨lw_r7, List.forall_mem_append.mpr ⟨lw_r8, lw_r9⟩⟩⟩⟩⟩⟩⟩⟩
end
section
/-- the class's name by its number -/
def qz_cn : List String := ["TinStencils$Bridges", "TinStencils$Choosing", "TinStencils$Cutting", "TinStencils$Hanging", "TinStencils$Joining", "TinStencils$Parts", "TinStencils$Pile", "TinStencils$Reading", "TinStencils$Sheet", "TinStencils$Teller", "TinStencils$Tokens", "TinStencils", "TinStencilsModel"]
def qz_at {α : Type} : List α → Nat → Option α
  | [], _ => none
  | x :: _, 0 => some x
  | _ :: l, n + 1 => qz_at l n
def qz_gd {α : Type} (d : α) : List α → Nat → α
  | [], _ => d
  | x :: _, 0 => x
  | _ :: l, n + 1 => qz_gd d l n
/-! classes, methods, links: by program out of the claim's own tables -/
theorem tm_1 {w : Cond} (h : w ∈ tables_1_1) : w ∈ tables_1 := List.mem_append_left _ h
theorem tm_2 {w : Cond} (h : w ∈ tables_1_2) : w ∈ tables_1 := List.mem_append_right _ (List.mem_append_left _ h)
theorem tm_3 {w : Cond} (h : w ∈ tables_1_3) : w ∈ tables_1 := List.mem_append_right _ (List.mem_append_right _ (List.mem_append_left _ h))
theorem tm_4 {w : Cond} (h : w ∈ tables_1_4) : w ∈ tables_1 := List.mem_append_right _ (List.mem_append_right _ (List.mem_append_right _ (List.mem_append_left _ h)))
theorem tm_5 {w : Cond} (h : w ∈ tables_1_5) : w ∈ tables_1 := List.mem_append_right _ (List.mem_append_right _ (List.mem_append_right _ (List.mem_append_right _ (List.mem_append_left _ h))))
theorem tm_6 {w : Cond} (h : w ∈ tables_1_6) : w ∈ tables_1 := List.mem_append_right _ (List.mem_append_right _ (List.mem_append_right _ (List.mem_append_right _ (List.mem_append_right _ (List.mem_append_left _ h)))))
theorem tm_7 {w : Cond} (h : w ∈ tables_1_7) : w ∈ tables_1 := List.mem_append_right _ (List.mem_append_right _ (List.mem_append_right _ (List.mem_append_right _ (List.mem_append_right _ (List.mem_append_right _ (List.mem_append_left _ h))))))
theorem tm_8 {w : Cond} (h : w ∈ tables_1_8) : w ∈ tables_1 := List.mem_append_right _ (List.mem_append_right _ (List.mem_append_right _ (List.mem_append_right _ (List.mem_append_right _ (List.mem_append_right _ (List.mem_append_right _ (h)))))))
def cT_0 : u_T := fun k => match k with
  | 0 => ("TinStencils$Bridges", "number", "I", false)
  | 1 => ("TinStencils$Bridges", "in", "I", false)
  | 2 => ("TinStencils$Bridges", "hidden", "I", false)
  | 3 => ("TinStencils$Bridges", "kind", "[I", true)
  | 4 => ("TinStencils$Bridges", "lasts", "[I", true)
  | _ => ("TinStencils$Bridges", "rows", "[I", true)
def cY_0 : Nat → FieldType := fun k => match k with
  | 0 => .int
  | 1 => .int
  | 2 => .int
  | 3 => .array (.int)
  | 4 => .array (.int)
  | _ => .array (.int)
def cT_1 : u_T := fun k => match k with
  | 0 => ("TinStencils$Choosing", "within", "[I", true)
  | 1 => ("TinStencils$Choosing", "state", "[I", true)
  | _ => ("TinStencils$Choosing", "all", "I", false)
def cY_1 : Nat → FieldType := fun k => match k with
  | 0 => .array (.int)
  | 1 => .array (.int)
  | _ => .int
def cT_2 : u_T := fun k => match k with
  | 0 => ("TinStencils$Cutting", "places", "[I", true)
  | 1 => ("TinStencils$Cutting", "holes", "[I", true)
  | 2 => ("TinStencils$Cutting", "loose", "[I", true)
  | 3 => ("TinStencils$Cutting", "ahead", "[I", true)
  | 4 => ("TinStencils$Cutting", "tin", "[I", true)
  | _ => ("TinStencils$Cutting", "anchors", "[I", true)
def cY_2 : Nat → FieldType := fun k => match k with
  | 0 => .array (.int)
  | 1 => .array (.int)
  | 2 => .array (.int)
  | 3 => .array (.int)
  | 4 => .array (.int)
  | _ => .array (.int)
def cT_3 : u_T := fun k => match k with
  | 0 => ("TinStencils$Hanging", "tin", "[I", true)
  | 1 => ("TinStencils$Hanging", "hung", "[I", true)
  | 2 => ("TinStencils$Hanging", "fallen", "[I", true)
  | 3 => ("TinStencils$Hanging", "tongue", "[I", true)
  | 4 => ("TinStencils$Hanging", "reached", "I", false)
  | 5 => ("TinStencils$Hanging", "entered", "[I", true)
  | 6 => ("TinStencils$Hanging", "reach", "[I", true)
  | 7 => ("TinStencils$Hanging", "below", "[I", true)
  | 8 => ("TinStencils$Hanging", "parent", "[I", true)
  | _ => ("TinStencils$Hanging", "side", "[I", true)
def cY_3 : Nat → FieldType := fun k => match k with
  | 0 => .array (.int)
  | 1 => .array (.int)
  | 2 => .array (.int)
  | 3 => .array (.int)
  | 4 => .int
  | 5 => .array (.int)
  | 6 => .array (.int)
  | 7 => .array (.int)
  | 8 => .array (.int)
  | _ => .array (.int)
def cT_4 : u_T := fun k => match k with
  | 0 => ("TinStencils$Joining", "cost", "[I", true)
  | 1 => ("TinStencils$Joining", "price", "[I", true)
  | 2 => ("TinStencils$Joining", "rim", "[I", true)
  | _ => ("TinStencils$Joining", "all", "I", false)
def cY_4 : Nat → FieldType := fun k => match k with
  | 0 => .array (.int)
  | 1 => .array (.int)
  | 2 => .array (.int)
  | _ => .int
def cT_5 : u_T := fun k => match k with
  | 0 => ("TinStencils$Parts", "number", "I", false)
  | 1 => ("TinStencils$Parts", "partOf", "[I", true)
  | 2 => ("TinStencils$Parts", "size", "[I", true)
  | 3 => ("TinStencils$Parts", "start", "[I", true)
  | 4 => ("TinStencils$Parts", "queue", "[I", true)
  | 5 => ("TinStencils$Parts", "region", "[I", true)
  | _ => ("TinStencils$Parts", "border", "[I", true)
def cY_5 : Nat → FieldType := fun k => match k with
  | 0 => .int
  | 1 => .array (.int)
  | 2 => .array (.int)
  | 3 => .array (.int)
  | 4 => .array (.int)
  | 5 => .array (.int)
  | _ => .array (.int)
def cT_6 : u_T := fun k => match k with
  | 0 => ("TinStencils$Pile", "sheets", "[LTinStencils$Sheet;", true)
  | 1 => ("TinStencils$Pile", "places", "[I", true)
  | _ => ("TinStencils$Pile", "least", "[I", true)
def cY_6 : Nat → FieldType := fun k => match k with
  | 0 => .array (.object "TinStencils$Sheet")
  | 1 => .array (.int)
  | _ => .array (.int)
def cT_7 : u_T := fun k => match k with
  | 0 => ("TinStencils$Reading", "open", "[I", true)
  | 1 => ("TinStencils$Reading", "cost", "[I", true)
  | 2 => ("TinStencils$Reading", "used", "[I", true)
  | 3 => ("TinStencils$Reading", "ways", "[J", true)
  | 4 => ("TinStencils$Reading", "shape", "[I", true)
  | 5 => ("TinStencils$Reading", "column", "[I", true)
  | _ => ("TinStencils$Reading", "number", "I", false)
def cY_7 : Nat → FieldType := fun k => match k with
  | 0 => .array (.int)
  | 1 => .array (.int)
  | 2 => .array (.int)
  | 3 => .array (.long)
  | 4 => .array (.int)
  | 5 => .array (.int)
  | _ => .int
def cT_8 : u_T := fun k => match k with
  | 0 => ("TinStencils$Sheet", "told", "Z", false)
  | 1 => ("TinStencils$Sheet", "wide", "I", false)
  | 2 => ("TinStencils$Sheet", "high", "I", false)
  | 3 => ("TinStencils$Sheet", "statements", "I", false)
  | 4 => ("TinStencils$Sheet", "held", "I", false)
  | 5 => ("TinStencils$Sheet", "brush", "I", false)
  | 6 => ("TinStencils$Sheet", "wear", "I", false)
  | 7 => ("TinStencils$Sheet", "through", "[I", true)
  | 8 => ("TinStencils$Sheet", "worth", "[I", true)
  | 9 => ("TinStencils$Sheet", "bridges", "LTinStencils$Bridges;", true)
  | 10 => ("TinStencils$Sheet", "shapeNumber", "I", false)
  | 11 => ("TinStencils$Sheet", "shapeWide", "[I", true)
  | 12 => ("TinStencils$Sheet", "shapeHigh", "[I", true)
  | _ => ("TinStencils$Sheet", "shapeRows", "[I", true)
def cY_8 : Nat → FieldType := fun k => match k with
  | 0 => .boolean
  | 1 => .int
  | 2 => .int
  | 3 => .int
  | 4 => .int
  | 5 => .int
  | 6 => .int
  | 7 => .array (.int)
  | 8 => .array (.int)
  | 9 => .object "TinStencils$Bridges"
  | 10 => .int
  | 11 => .array (.int)
  | 12 => .array (.int)
  | _ => .array (.int)
def cT_9 : u_T := fun k => match k with
  | 0 => ("TinStencils$Teller", "tokens", "LTinStencils$Tokens;", true)
  | 1 => ("TinStencils$Teller", "names", "[J", true)
  | 2 => ("TinStencils$Teller", "at", "I", false)
  | 3 => ("TinStencils$Teller", "number", "I", false)
  | 4 => ("TinStencils$Teller", "x", "I", false)
  | 5 => ("TinStencils$Teller", "y", "I", false)
  | 6 => ("TinStencils$Teller", "squares", "I", false)
  | _ => ("TinStencils$Teller", "squaresLong", "I", false)
def cY_9 : Nat → FieldType := fun k => match k with
  | 0 => .object "TinStencils$Tokens"
  | 1 => .array (.long)
  | 2 => .int
  | 3 => .int
  | 4 => .int
  | 5 => .int
  | 6 => .int
  | _ => .int
def cT_10 : u_T := fun k => match k with
  | 0 => ("TinStencils$Tokens", "text", "[I", true)
  | 1 => ("TinStencils$Tokens", "kind", "[I", true)
  | 2 => ("TinStencils$Tokens", "start", "[I", true)
  | 3 => ("TinStencils$Tokens", "size", "[I", true)
  | 4 => ("TinStencils$Tokens", "value", "[I", true)
  | _ => ("TinStencils$Tokens", "number", "I", false)
def cY_10 : Nat → FieldType := fun k => match k with
  | 0 => .array (.int)
  | 1 => .array (.int)
  | 2 => .array (.int)
  | 3 => .array (.int)
  | 4 => .array (.int)
  | _ => .int
def cT_11 : u_T := fun k => match k with
  | 0 => ("TinStencils", "tape", "[I", true)
  | 1 => ("TinStencils", "tapeLength", "I", false)
  | 2 => ("TinStencils", "faultPlace", "I", false)
  | 3 => ("TinStencils", "refused", "[I", true)
  | 4 => ("TinStencils", "now", "LTinStencils$Pile;", true)
  | 5 => ("TinStencils", "images", "[LTinStencils$Pile;", true)
  | 6 => ("TinStencils", "imageCount", "I", false)
  | 7 => ("TinStencils", "draft", "LTinStencils$Sheet;", false)
  | 8 => ("TinStencils", "teller", "LTinStencils$Teller;", true)
  | 9 => ("TinStencils", "hanging", "LTinStencils$Hanging;", true)
  | 10 => ("TinStencils", "parts", "LTinStencils$Parts;", true)
  | 11 => ("TinStencils", "joining", "LTinStencils$Joining;", true)
  | 12 => ("TinStencils", "choosing", "LTinStencils$Choosing;", true)
  | 13 => ("TinStencils", "reading", "LTinStencils$Reading;", true)
  | 14 => ("TinStencils", "cutting", "LTinStencils$Cutting;", true)
  | 15 => ("TinStencils", "anchors", "[I", true)
  | _ => ("TinStencils", "open", "[I", true)
def cY_11 : Nat → FieldType := fun k => match k with
  | 0 => .array (.int)
  | 1 => .int
  | 2 => .int
  | 3 => .array (.int)
  | 4 => .object "TinStencils$Pile"
  | 5 => .array (.object "TinStencils$Pile")
  | 6 => .int
  | 7 => .object "TinStencils$Sheet"
  | 8 => .object "TinStencils$Teller"
  | 9 => .object "TinStencils$Hanging"
  | 10 => .object "TinStencils$Parts"
  | 11 => .object "TinStencils$Joining"
  | 12 => .object "TinStencils$Choosing"
  | 13 => .object "TinStencils$Reading"
  | 14 => .object "TinStencils$Cutting"
  | 15 => .array (.int)
  | _ => .array (.int)
def cT_12 : u_T := fun k => match k with
  | 0 => ("TinStencilsModel", "refused", "[I", true)
  | 1 => ("TinStencilsModel", "orderDigits", "I", false)
  | 2 => ("TinStencilsModel", "about", "[I", true)
  | 3 => ("TinStencilsModel", "isTold", "[I", true)
  | 4 => ("TinStencilsModel", "through", "[I", true)
  | 5 => ("TinStencilsModel", "worth", "[I", true)
  | 6 => ("TinStencilsModel", "bridgeAt", "[I", true)
  | 7 => ("TinStencilsModel", "shapeWide", "[I", true)
  | 8 => ("TinStencilsModel", "shapeHigh", "[I", true)
  | 9 => ("TinStencilsModel", "shapeRow", "[I", true)
  | 10 => ("TinStencilsModel", "bridgeKind", "[I", true)
  | 11 => ("TinStencilsModel", "bridgeHidden", "[I", true)
  | 12 => ("TinStencilsModel", "bridgeLasts", "[I", true)
  | 13 => ("TinStencilsModel", "shapeName", "[J", true)
  | 14 => ("TinStencilsModel", "taped", "I", false)
  | 15 => ("TinStencilsModel", "size", "I", false)
  | 16 => ("TinStencilsModel", "at", "I", false)
  | 17 => ("TinStencilsModel", "fault", "I", false)
  | 18 => ("TinStencilsModel", "tape", "[B", true)
  | 19 => ("TinStencilsModel", "text", "[B", true)
  | 20 => ("TinStencilsModel", "wordEnd", "I", false)
  | 21 => ("TinStencilsModel", "read", "I", false)
  | 22 => ("TinStencilsModel", "squaresMany", "I", false)
  | 23 => ("TinStencilsModel", "squaresBits", "I", false)
  | 24 => ("TinStencilsModel", "side", "I", false)
  | 25 => ("TinStencilsModel", "toldX", "I", false)
  | 26 => ("TinStencilsModel", "toldY", "I", false)
  | 27 => ("TinStencilsModel", "endX", "I", false)
  | 28 => ("TinStencilsModel", "endY", "I", false)
  | 29 => ("TinStencilsModel", "tin", "[I", true)
  | 30 => ("TinStencilsModel", "hangs", "[I", true)
  | 31 => ("TinStencilsModel", "queue", "[I", true)
  | 32 => ("TinStencilsModel", "piece", "[I", true)
  | 33 => ("TinStencilsModel", "pieceFirst", "[I", true)
  | 34 => ("TinStencilsModel", "pieceMany", "[I", true)
  | 35 => ("TinStencilsModel", "kept", "[I", true)
  | 36 => ("TinStencilsModel", "pieces", "I", false)
  | 37 => ("TinStencilsModel", "steps", "[I", true)
  | 38 => ("TinStencilsModel", "gapSheet", "I", false)
  | 39 => ("TinStencilsModel", "neckMany", "I", false)
  | 40 => ("TinStencilsModel", "greatest", "I", false)
  | 41 => ("TinStencilsModel", "aboveMany", "I", false)
  | 42 => ("TinStencilsModel", "doesHang", "[I", true)
  | 43 => ("TinStencilsModel", "joined", "[I", true)
  | 44 => ("TinStencilsModel", "byRoot", "[I", true)
  | 45 => ("TinStencilsModel", "cost", "[I", true)
  | 46 => ("TinStencilsModel", "done", "[I", true)
  | 47 => ("TinStencilsModel", "turn", "[I", true)
  | 48 => ("TinStencilsModel", "bestTurn", "[I", true)
  | 49 => ("TinStencilsModel", "paints", "[I", true)
  | 50 => ("TinStencilsModel", "leaves", "[I", true)
  | 51 => ("TinStencilsModel", "toldOnes", "[I", true)
  | 52 => ("TinStencilsModel", "toldMany", "I", false)
  | 53 => ("TinStencilsModel", "readCost", "[I", true)
  | 54 => ("TinStencilsModel", "readShapes", "[I", true)
  | 55 => ("TinStencilsModel", "readShape", "[I", true)
  | 56 => ("TinStencilsModel", "ways", "[J", true)
  | 57 => ("TinStencilsModel", "loose", "[I", true)
  | 58 => ("TinStencilsModel", "onward", "[I", true)
  | 59 => ("TinStencilsModel", "holeOf", "[I", true)
  | 60 => ("TinStencilsModel", "plan", "[I", true)
  | 61 => ("TinStencilsModel", "images", "I", false)
  | 62 => ("TinStencilsModel", "place", "I", false)
  | 63 => ("TinStencilsModel", "image", "[I", true)
  | _ => ("TinStencilsModel", "imageOrder", "[I", true)
def cY_12 : Nat → FieldType := fun k => match k with
  | 0 => .array (.int)
  | 1 => .int
  | 2 => .array (.int)
  | 3 => .array (.int)
  | 4 => .array (.int)
  | 5 => .array (.int)
  | 6 => .array (.int)
  | 7 => .array (.int)
  | 8 => .array (.int)
  | 9 => .array (.int)
  | 10 => .array (.int)
  | 11 => .array (.int)
  | 12 => .array (.int)
  | 13 => .array (.long)
  | 14 => .int
  | 15 => .int
  | 16 => .int
  | 17 => .int
  | 18 => .array (.byte)
  | 19 => .array (.byte)
  | 20 => .int
  | 21 => .int
  | 22 => .int
  | 23 => .int
  | 24 => .int
  | 25 => .int
  | 26 => .int
  | 27 => .int
  | 28 => .int
  | 29 => .array (.int)
  | 30 => .array (.int)
  | 31 => .array (.int)
  | 32 => .array (.int)
  | 33 => .array (.int)
  | 34 => .array (.int)
  | 35 => .array (.int)
  | 36 => .int
  | 37 => .array (.int)
  | 38 => .int
  | 39 => .int
  | 40 => .int
  | 41 => .int
  | 42 => .array (.int)
  | 43 => .array (.int)
  | 44 => .array (.int)
  | 45 => .array (.int)
  | 46 => .array (.int)
  | 47 => .array (.int)
  | 48 => .array (.int)
  | 49 => .array (.int)
  | 50 => .array (.int)
  | 51 => .array (.int)
  | 52 => .int
  | 53 => .array (.int)
  | 54 => .array (.int)
  | 55 => .array (.int)
  | 56 => .array (.long)
  | 57 => .array (.int)
  | 58 => .array (.int)
  | 59 => .array (.int)
  | 60 => .array (.int)
  | 61 => .int
  | 62 => .int
  | 63 => .array (.int)
  | _ => .array (.int)
def qz_cl : List vw_C := [("TinStencils$Bridges", cT_0, 6), ("TinStencils$Choosing", cT_1, 3), ("TinStencils$Cutting", cT_2, 6), ("TinStencils$Hanging", cT_3, 10), ("TinStencils$Joining", cT_4, 4), ("TinStencils$Parts", cT_5, 7), ("TinStencils$Pile", cT_6, 3), ("TinStencils$Reading", cT_7, 7), ("TinStencils$Sheet", cT_8, 14), ("TinStencils$Teller", cT_9, 8), ("TinStencils$Tokens", cT_10, 6), ("TinStencils", cT_11, 17), ("TinStencilsModel", cT_12, 65)]
def qz_on : List String := ["TinStencils$Bridges", "TinStencils$Choosing", "TinStencils$Cutting", "TinStencils$Hanging", "TinStencils$Joining", "TinStencils$Parts", "TinStencils$Pile", "TinStencils$Reading", "TinStencils$Sheet", "TinStencils$Teller", "TinStencils$Tokens", "TinStencils", "TinStencilsModel", "java/lang/String", "java/lang/StringLatin1", "java/lang/Integer", "java/lang/Math", "java/util/Arrays", "TinStencilsLaw"]
def qz_ct : List (u_T × (Nat → FieldType) × Nat) := [(cT_0, cY_0, 6), (cT_1, cY_1, 3), (cT_2, cY_2, 6), (cT_3, cY_3, 10), (cT_4, cY_4, 4), (cT_5, cY_5, 7), (cT_6, cY_6, 3), (cT_7, cY_7, 7), (cT_8, cY_8, 14), (cT_9, cY_9, 8), (cT_10, cY_10, 6), (cT_11, cY_11, 17), (cT_12, cY_12, 65)]
theorem cN_0 : ∀ a, a < 6 → ∀ b, b < 6 → a ≠ b → (cT_0 a).2.1 ≠ (cT_0 b).2.1 := by decide +kernel
theorem cP_0 : ∀ k, k < 6 → parseFieldDescriptor (cT_0 k).2.2.1 = some (cY_0 k) := by decide +kernel
theorem cD_0 : ∀ k, k < 6 → (cT_0 k).1 = "TinStencils$Bridges" := by decide +kernel
set_option maxRecDepth 100000 in
theorem cI_0 : ∀ w ∈ u_ws "TinStencils$Bridges" cT_0 6, w ∈ tables_1 := by
  have h : u_ws "TinStencils$Bridges" cT_0 6 = ([67, 69, 71, 73, 75, 77] : List Nat).filterMap (fun i => tables_1[i]?) := by decide +kernel
  intro w hw
  rw [h] at hw
  obtain ⟨i, -, hi⟩ := List.mem_filterMap.mp hw
  exact List.mem_of_getElem? hi
theorem cJ_0 : Cond.instantiable "TinStencils$Bridges" 6 ∈ tables_1 ∧ Cond.initialized "TinStencils$Bridges" ∈ tables_1 := ⟨tm_1 (List.mem_of_getElem? (i := 44) (by decide +kernel)), tm_1 (List.mem_of_getElem? (i := 4) (by decide +kernel))⟩
theorem cN_1 : ∀ a, a < 3 → ∀ b, b < 3 → a ≠ b → (cT_1 a).2.1 ≠ (cT_1 b).2.1 := by decide +kernel
theorem cP_1 : ∀ k, k < 3 → parseFieldDescriptor (cT_1 k).2.2.1 = some (cY_1 k) := by decide +kernel
theorem cD_1 : ∀ k, k < 3 → (cT_1 k).1 = "TinStencils$Choosing" := by decide +kernel
set_option maxRecDepth 100000 in
theorem cI_1 : ∀ w ∈ u_ws "TinStencils$Choosing" cT_1 3, w ∈ tables_1 := by
  have h : u_ws "TinStencils$Choosing" cT_1 3 = ([344, 346, 348] : List Nat).filterMap (fun i => tables_1[i]?) := by decide +kernel
  intro w hw
  rw [h] at hw
  obtain ⟨i, -, hi⟩ := List.mem_filterMap.mp hw
  exact List.mem_of_getElem? hi
theorem cJ_1 : Cond.instantiable "TinStencils$Choosing" 3 ∈ tables_1 ∧ Cond.initialized "TinStencils$Choosing" ∈ tables_1 := ⟨tm_2 (List.mem_of_getElem? (i := 96) (by decide +kernel)), tm_1 (List.mem_of_getElem? (i := 10) (by decide +kernel))⟩
theorem cN_2 : ∀ a, a < 6 → ∀ b, b < 6 → a ≠ b → (cT_2 a).2.1 ≠ (cT_2 b).2.1 := by decide +kernel
theorem cP_2 : ∀ k, k < 6 → parseFieldDescriptor (cT_2 k).2.2.1 = some (cY_2 k) := by decide +kernel
theorem cD_2 : ∀ k, k < 6 → (cT_2 k).1 = "TinStencils$Cutting" := by decide +kernel
set_option maxRecDepth 100000 in
theorem cI_2 : ∀ w ∈ u_ws "TinStencils$Cutting" cT_2 6, w ∈ tables_1 := by
  have h : u_ws "TinStencils$Cutting" cT_2 6 = ([392, 394, 396, 398, 400, 402] : List Nat).filterMap (fun i => tables_1[i]?) := by decide +kernel
  intro w hw
  rw [h] at hw
  obtain ⟨i, -, hi⟩ := List.mem_filterMap.mp hw
  exact List.mem_of_getElem? hi
theorem cJ_2 : Cond.instantiable "TinStencils$Cutting" 6 ∈ tables_1 ∧ Cond.initialized "TinStencils$Cutting" ∈ tables_1 := ⟨tm_2 (List.mem_of_getElem? (i := 140) (by decide +kernel)), tm_1 (List.mem_of_getElem? (i := 12) (by decide +kernel))⟩
theorem cN_3 : ∀ a, a < 10 → ∀ b, b < 10 → a ≠ b → (cT_3 a).2.1 ≠ (cT_3 b).2.1 := by decide +kernel
theorem cP_3 : ∀ k, k < 10 → parseFieldDescriptor (cT_3 k).2.2.1 = some (cY_3 k) := by decide +kernel
theorem cD_3 : ∀ k, k < 10 → (cT_3 k).1 = "TinStencils$Hanging" := by decide +kernel
set_option maxRecDepth 100000 in
theorem cI_3 : ∀ w ∈ u_ws "TinStencils$Hanging" cT_3 10, w ∈ tables_1 := by
  have h : u_ws "TinStencils$Hanging" cT_3 10 = ([260, 262, 264, 266, 268, 270, 272, 274, 276, 278] : List Nat).filterMap (fun i => tables_1[i]?) := by decide +kernel
  intro w hw
  rw [h] at hw
  obtain ⟨i, -, hi⟩ := List.mem_filterMap.mp hw
  exact List.mem_of_getElem? hi
theorem cJ_3 : Cond.instantiable "TinStencils$Hanging" 10 ∈ tables_1 ∧ Cond.initialized "TinStencils$Hanging" ∈ tables_1 := ⟨tm_2 (List.mem_of_getElem? (i := 0) (by decide +kernel)), tm_1 (List.mem_of_getElem? (i := 7) (by decide +kernel))⟩
theorem cN_4 : ∀ a, a < 4 → ∀ b, b < 4 → a ≠ b → (cT_4 a).2.1 ≠ (cT_4 b).2.1 := by decide +kernel
theorem cP_4 : ∀ k, k < 4 → parseFieldDescriptor (cT_4 k).2.2.1 = some (cY_4 k) := by decide +kernel
theorem cD_4 : ∀ k, k < 4 → (cT_4 k).1 = "TinStencils$Joining" := by decide +kernel
set_option maxRecDepth 100000 in
theorem cI_4 : ∀ w ∈ u_ws "TinStencils$Joining" cT_4 4, w ∈ tables_1 := by
  have h : u_ws "TinStencils$Joining" cT_4 4 = ([326, 328, 330, 332] : List Nat).filterMap (fun i => tables_1[i]?) := by decide +kernel
  intro w hw
  rw [h] at hw
  obtain ⟨i, -, hi⟩ := List.mem_filterMap.mp hw
  exact List.mem_of_getElem? hi
theorem cJ_4 : Cond.instantiable "TinStencils$Joining" 4 ∈ tables_1 ∧ Cond.initialized "TinStencils$Joining" ∈ tables_1 := ⟨tm_2 (List.mem_of_getElem? (i := 76) (by decide +kernel)), tm_1 (List.mem_of_getElem? (i := 9) (by decide +kernel))⟩
theorem cN_5 : ∀ a, a < 7 → ∀ b, b < 7 → a ≠ b → (cT_5 a).2.1 ≠ (cT_5 b).2.1 := by decide +kernel
theorem cP_5 : ∀ k, k < 7 → parseFieldDescriptor (cT_5 k).2.2.1 = some (cY_5 k) := by decide +kernel
theorem cD_5 : ∀ k, k < 7 → (cT_5 k).1 = "TinStencils$Parts" := by decide +kernel
set_option maxRecDepth 100000 in
theorem cI_5 : ∀ w ∈ u_ws "TinStencils$Parts" cT_5 7, w ∈ tables_1 := by
  have h : u_ws "TinStencils$Parts" cT_5 7 = ([300, 302, 304, 306, 308, 310, 312] : List Nat).filterMap (fun i => tables_1[i]?) := by decide +kernel
  intro w hw
  rw [h] at hw
  obtain ⟨i, -, hi⟩ := List.mem_filterMap.mp hw
  exact List.mem_of_getElem? hi
theorem cJ_5 : Cond.instantiable "TinStencils$Parts" 7 ∈ tables_1 ∧ Cond.initialized "TinStencils$Parts" ∈ tables_1 := ⟨tm_2 (List.mem_of_getElem? (i := 42) (by decide +kernel)), tm_1 (List.mem_of_getElem? (i := 8) (by decide +kernel))⟩
theorem cN_6 : ∀ a, a < 3 → ∀ b, b < 3 → a ≠ b → (cT_6 a).2.1 ≠ (cT_6 b).2.1 := by decide +kernel
theorem cP_6 : ∀ k, k < 3 → parseFieldDescriptor (cT_6 k).2.2.1 = some (cY_6 k) := by decide +kernel
theorem cD_6 : ∀ k, k < 3 → (cT_6 k).1 = "TinStencils$Pile" := by decide +kernel
set_option maxRecDepth 100000 in
theorem cI_6 : ∀ w ∈ u_ws "TinStencils$Pile" cT_6 3, w ∈ tables_1 := by
  have h : u_ws "TinStencils$Pile" cT_6 3 = ([167, 169, 171] : List Nat).filterMap (fun i => tables_1[i]?) := by decide +kernel
  intro w hw
  rw [h] at hw
  obtain ⟨i, -, hi⟩ := List.mem_filterMap.mp hw
  exact List.mem_of_getElem? hi
theorem cJ_6 : Cond.instantiable "TinStencils$Pile" 3 ∈ tables_1 ∧ Cond.initialized "TinStencils$Pile" ∈ tables_1 := ⟨tm_1 (List.mem_of_getElem? (i := 31) (by decide +kernel)), tm_1 (List.mem_of_getElem? (i := 2) (by decide +kernel))⟩
theorem cN_7 : ∀ a, a < 7 → ∀ b, b < 7 → a ≠ b → (cT_7 a).2.1 ≠ (cT_7 b).2.1 := by decide +kernel
theorem cP_7 : ∀ k, k < 7 → parseFieldDescriptor (cT_7 k).2.2.1 = some (cY_7 k) := by decide +kernel
theorem cD_7 : ∀ k, k < 7 → (cT_7 k).1 = "TinStencils$Reading" := by decide +kernel
set_option maxRecDepth 100000 in
theorem cI_7 : ∀ w ∈ u_ws "TinStencils$Reading" cT_7 7, w ∈ tables_1 := by
  have h : u_ws "TinStencils$Reading" cT_7 7 = ([364, 366, 368, 370, 372, 374, 376] : List Nat).filterMap (fun i => tables_1[i]?) := by decide +kernel
  intro w hw
  rw [h] at hw
  obtain ⟨i, -, hi⟩ := List.mem_filterMap.mp hw
  exact List.mem_of_getElem? hi
theorem cJ_7 : Cond.instantiable "TinStencils$Reading" 7 ∈ tables_1 ∧ Cond.initialized "TinStencils$Reading" ∈ tables_1 := ⟨tm_2 (List.mem_of_getElem? (i := 112) (by decide +kernel)), tm_1 (List.mem_of_getElem? (i := 11) (by decide +kernel))⟩
theorem cN_8 : ∀ a, a < 14 → ∀ b, b < 14 → a ≠ b → (cT_8 a).2.1 ≠ (cT_8 b).2.1 := by decide +kernel
theorem cP_8 : ∀ k, k < 14 → parseFieldDescriptor (cT_8 k).2.2.1 = some (cY_8 k) := by decide +kernel
theorem cD_8 : ∀ k, k < 14 → (cT_8 k).1 = "TinStencils$Sheet" := by decide +kernel
set_option maxRecDepth 100000 in
theorem cI_8 : ∀ w ∈ u_ws "TinStencils$Sheet" cT_8 14, w ∈ tables_1 := by
  have h : u_ws "TinStencils$Sheet" cT_8 14 = ([134, 136, 138, 140, 142, 144, 146, 148, 150, 152, 154, 156, 158, 160] : List Nat).filterMap (fun i => tables_1[i]?) := by decide +kernel
  intro w hw
  rw [h] at hw
  obtain ⟨i, -, hi⟩ := List.mem_filterMap.mp hw
  exact List.mem_of_getElem? hi
theorem cJ_8 : Cond.instantiable "TinStencils$Sheet" 14 ∈ tables_1 ∧ Cond.initialized "TinStencils$Sheet" ∈ tables_1 := ⟨tm_1 (List.mem_of_getElem? (i := 38) (by decide +kernel)), tm_1 (List.mem_of_getElem? (i := 3) (by decide +kernel))⟩
theorem cN_9 : ∀ a, a < 8 → ∀ b, b < 8 → a ≠ b → (cT_9 a).2.1 ≠ (cT_9 b).2.1 := by decide +kernel
theorem cP_9 : ∀ k, k < 8 → parseFieldDescriptor (cT_9 k).2.2.1 = some (cY_9 k) := by decide +kernel
theorem cD_9 : ∀ k, k < 8 → (cT_9 k).1 = "TinStencils$Teller" := by decide +kernel
set_option maxRecDepth 100000 in
theorem cI_9 : ∀ w ∈ u_ws "TinStencils$Teller" cT_9 8, w ∈ tables_1 := by
  have h : u_ws "TinStencils$Teller" cT_9 8 = ([221, 223, 225, 227, 229, 231, 233, 235] : List Nat).filterMap (fun i => tables_1[i]?) := by decide +kernel
  intro w hw
  rw [h] at hw
  obtain ⟨i, -, hi⟩ := List.mem_filterMap.mp hw
  exact List.mem_of_getElem? hi
theorem cJ_9 : Cond.instantiable "TinStencils$Teller" 8 ∈ tables_1 ∧ Cond.initialized "TinStencils$Teller" ∈ tables_1 := ⟨tm_1 (List.mem_of_getElem? (i := 178) (by decide +kernel)), tm_1 (List.mem_of_getElem? (i := 5) (by decide +kernel))⟩
theorem cN_10 : ∀ a, a < 6 → ∀ b, b < 6 → a ≠ b → (cT_10 a).2.1 ≠ (cT_10 b).2.1 := by decide +kernel
theorem cP_10 : ∀ k, k < 6 → parseFieldDescriptor (cT_10 k).2.2.1 = some (cY_10 k) := by decide +kernel
theorem cD_10 : ∀ k, k < 6 → (cT_10 k).1 = "TinStencils$Tokens" := by decide +kernel
set_option maxRecDepth 100000 in
theorem cI_10 : ∀ w ∈ u_ws "TinStencils$Tokens" cT_10 6, w ∈ tables_1 := by
  have h : u_ws "TinStencils$Tokens" cT_10 6 = ([200, 202, 204, 206, 208, 210] : List Nat).filterMap (fun i => tables_1[i]?) := by decide +kernel
  intro w hw
  rw [h] at hw
  obtain ⟨i, -, hi⟩ := List.mem_filterMap.mp hw
  exact List.mem_of_getElem? hi
theorem cJ_10 : Cond.instantiable "TinStencils$Tokens" 6 ∈ tables_1 ∧ Cond.initialized "TinStencils$Tokens" ∈ tables_1 := ⟨tm_1 (List.mem_of_getElem? (i := 184) (by decide +kernel)), tm_1 (List.mem_of_getElem? (i := 6) (by decide +kernel))⟩
theorem cN_11 : ∀ a, a < 17 → ∀ b, b < 17 → a ≠ b → (cT_11 a).2.1 ≠ (cT_11 b).2.1 := by decide +kernel
theorem cP_11 : ∀ k, k < 17 → parseFieldDescriptor (cT_11 k).2.2.1 = some (cY_11 k) := by decide +kernel
theorem cD_11 : ∀ k, k < 17 → (cT_11 k).1 = "TinStencils" := by decide +kernel
set_option maxRecDepth 100000 in
theorem cI_11 : ∀ w ∈ u_ws "TinStencils" cT_11 17, w ∈ tables_1 := by
  have h : u_ws "TinStencils" cT_11 17 = ([422, 424, 426, 428, 430, 432, 434, 436, 438, 440, 442, 444, 446, 448, 450, 452, 454] : List Nat).filterMap (fun i => tables_1[i]?) := by decide +kernel
  intro w hw
  rw [h] at hw
  obtain ⟨i, -, hi⟩ := List.mem_filterMap.mp hw
  exact List.mem_of_getElem? hi
theorem cJ_11 : Cond.instantiable "TinStencils" 17 ∈ tables_1 ∧ Cond.initialized "TinStencils" ∈ tables_1 := ⟨tm_1 (List.mem_of_getElem? (i := 23) (by decide +kernel)), tm_1 (List.mem_of_getElem? (i := 1) (by decide +kernel))⟩
theorem cN_12 : ∀ a, a < 65 → ∀ b, b < 65 → a ≠ b → (cT_12 a).2.1 ≠ (cT_12 b).2.1 := by decide +kernel
theorem cP_12 : ∀ k, k < 65 → parseFieldDescriptor (cT_12 k).2.2.1 = some (cY_12 k) := by decide +kernel
theorem cD_12 : ∀ k, k < 65 → (cT_12 k).1 = "TinStencilsModel" := by decide +kernel
set_option maxRecDepth 100000 in
theorem cI_12 : ∀ w ∈ u_ws "TinStencilsModel" cT_12 65, w ∈ tables_1 := by
  have h : u_ws "TinStencilsModel" cT_12 65 = ([1293, 1295, 1297, 1299, 1301, 1303, 1305, 1307, 1309, 1311, 1313, 1315, 1317, 1319, 1321, 1323, 1325, 1327, 1329, 1331, 1333, 1335, 1337, 1339, 1341, 1343, 1345, 1347, 1349, 1351, 1353, 1355, 1357, 1359, 1361, 1363, 1365, 1367, 1369, 1371, 1373, 1375, 1377, 1379, 1381, 1383, 1385, 1387, 1389, 1391, 1393, 1395, 1397, 1399, 1401, 1403, 1405, 1407, 1409, 1411, 1413, 1415, 1417, 1419, 1421] : List Nat).filterMap (fun i => tables_1[i]?) := by decide +kernel
  intro w hw
  rw [h] at hw
  obtain ⟨i, -, hi⟩ := List.mem_filterMap.mp hw
  exact List.mem_of_getElem? hi
theorem cJ_12 : Cond.instantiable "TinStencilsModel" 65 ∈ tables_1 ∧ Cond.initialized "TinStencilsModel" ∈ tables_1 := ⟨tm_6 (List.mem_of_getElem? (i := 22) (by decide +kernel)), tm_1 (List.mem_of_getElem? (i := 13) (by decide +kernel))⟩
def qz_okc (ci : Nat) (r : vw_C) (ty : Nat → FieldType) : Prop := qz_at qz_cn ci = some r.1 ∧ (∀ w ∈ u_ws r.1 r.2.1 r.2.2, w ∈ tables_1) ∧ (∀ k, k < r.2.2 → parseFieldDescriptor (r.2.1 k).2.2.1 = some (ty k)) ∧ (∀ a, a < r.2.2 → ∀ b, b < r.2.2 → a ≠ b → (r.2.1 a).2.1 ≠ (r.2.1 b).2.1) ∧ (∀ k, k < r.2.2 → (r.2.1 k).1 = r.1) ∧ Cond.instantiable r.1 r.2.2 ∈ tables_1 ∧ Cond.initialized r.1 ∈ tables_1
theorem qz_okcs : ∀ (ci : Nat) (r : vw_C), qz_cl[ci]? = some r → ∃ ty : Nat → FieldType, qz_okc ci r ty ∧ qz_gd (cT_0, cY_0, 0) qz_ct ci = (r.2.1, ty, r.2.2) := by
  intro ci r h
  match ci, h with
  | 0, h => cases h; exact ⟨cY_0, ⟨rfl, cI_0, cP_0, cN_0, cD_0, cJ_0.1, cJ_0.2⟩, rfl⟩
  | 1, h => cases h; exact ⟨cY_1, ⟨rfl, cI_1, cP_1, cN_1, cD_1, cJ_1.1, cJ_1.2⟩, rfl⟩
  | 2, h => cases h; exact ⟨cY_2, ⟨rfl, cI_2, cP_2, cN_2, cD_2, cJ_2.1, cJ_2.2⟩, rfl⟩
  | 3, h => cases h; exact ⟨cY_3, ⟨rfl, cI_3, cP_3, cN_3, cD_3, cJ_3.1, cJ_3.2⟩, rfl⟩
  | 4, h => cases h; exact ⟨cY_4, ⟨rfl, cI_4, cP_4, cN_4, cD_4, cJ_4.1, cJ_4.2⟩, rfl⟩
  | 5, h => cases h; exact ⟨cY_5, ⟨rfl, cI_5, cP_5, cN_5, cD_5, cJ_5.1, cJ_5.2⟩, rfl⟩
  | 6, h => cases h; exact ⟨cY_6, ⟨rfl, cI_6, cP_6, cN_6, cD_6, cJ_6.1, cJ_6.2⟩, rfl⟩
  | 7, h => cases h; exact ⟨cY_7, ⟨rfl, cI_7, cP_7, cN_7, cD_7, cJ_7.1, cJ_7.2⟩, rfl⟩
  | 8, h => cases h; exact ⟨cY_8, ⟨rfl, cI_8, cP_8, cN_8, cD_8, cJ_8.1, cJ_8.2⟩, rfl⟩
  | 9, h => cases h; exact ⟨cY_9, ⟨rfl, cI_9, cP_9, cN_9, cD_9, cJ_9.1, cJ_9.2⟩, rfl⟩
  | 10, h => cases h; exact ⟨cY_10, ⟨rfl, cI_10, cP_10, cN_10, cD_10, cJ_10.1, cJ_10.2⟩, rfl⟩
  | 11, h => cases h; exact ⟨cY_11, ⟨rfl, cI_11, cP_11, cN_11, cD_11, cJ_11.1, cJ_11.2⟩, rfl⟩
  | 12, h => cases h; exact ⟨cY_12, ⟨rfl, cI_12, cP_12, cN_12, cD_12, cJ_12.1, cJ_12.2⟩, rfl⟩
  | k + 13, h => simp [qz_cl] at h
abbrev qz_N : Type := (MethodName × ByteArray × Nat × Option FieldType) × (Nat × Nat × Nat × Nat × Nat)
def ti_0 : List qz_N := [((⟨"TinStencils$Bridges", "<init>", "()V"⟩, prog_2_method_1_code, 1, none), (1, 40, 0, 2, 0)),
  ((⟨"TinStencils$Sheet", "<init>", "()V"⟩, prog_10_method_1_code, 1, none), (2, 60, 8, 2, 0)),
  ((⟨"TinStencils$Pile", "<init>", "()V"⟩, prog_8_method_1_code, 2, none), (3, 80, 6, 2, 0)),
  ((⟨"TinStencils$Tokens", "<init>", "()V"⟩, prog_12_method_1_code, 1, none), (1, 40, 10, 2, 0)),
  ((⟨"TinStencils$Teller", "<init>", "()V"⟩, prog_11_method_1_code, 1, none), (2, 60, 9, 2, 0)),
  ((⟨"TinStencils$Hanging", "<init>", "()V"⟩, prog_5_method_1_code, 1, none), (1, 40, 3, 2, 0)),
  ((⟨"TinStencils$Parts", "<init>", "()V"⟩, prog_7_method_1_code, 1, none), (1, 40, 5, 2, 0)),
  ((⟨"TinStencils$Joining", "<init>", "()V"⟩, prog_6_method_1_code, 1, none), (1, 40, 4, 2, 0)),
  ((⟨"TinStencils$Choosing", "<init>", "()V"⟩, prog_3_method_1_code, 1, none), (1, 40, 1, 2, 0)),
  ((⟨"TinStencils$Reading", "<init>", "()V"⟩, prog_9_method_1_code, 1, none), (1, 40, 7, 2, 0)),
  ((⟨"TinStencils$Cutting", "<init>", "()V"⟩, prog_4_method_1_code, 1, none), (1, 40, 2, 2, 0)),
  ((⟨"TinStencils", "<init>", "()V"⟩, prog_1_method_1_code, 2, none), (4, 101, 11, 2, 0)),
  ((⟨"TinStencilsModel", "<init>", "()V"⟩, prog_14_method_1_code, 1, none), (1, 40, 12, 2, 0)),
  ((⟨"TinStencils", "feedNumber", "(I)V"⟩, prog_1_method_3_code, 3, none), (1, 40, 11, 1, 1)),
  ((⟨"TinStencils", "feed", "(IIIII)I"⟩, prog_1_method_2_code, 6, (some (.int))), (2, 62, 11, 1, 5)),
  ((⟨"TinStencilsModel", "four", "(I)V"⟩, prog_14_method_13_code, 3, none), (1, 40, 12, 1, 1))]
def ti_1 : List qz_N := [((⟨"TinStencilsModel", "feed", "(IIIII)I"⟩, prog_14_method_12_code, 6, (some (.int))), (2, 62, 12, 1, 5)),
  ((⟨"TinStencils$Tokens", "kindOf", "(I)I"⟩, prog_12_method_4_code, 1, (some (.int))), (1, 40, 10, 0, 1)),
  ((⟨"TinStencils$Tokens", "lengthAt", "(II)I"⟩, prog_12_method_3_code, 5, (some (.int))), (2, 60, 10, 1, 2)),
  ((⟨"java/lang/String", "coder", "()B"⟩, prog_17_method_152_code, 1, (some (.byte))), (1, 40, 13, 1, 0)),
  ((⟨"java/lang/String", "length", "()I"⟩, prog_17_method_54_code, 1, (some (.int))), (2, 60, 13, 1, 0)),
  ((⟨"java/lang/String", "isLatin1", "()Z"⟩, prog_17_method_154_code, 1, (some (.boolean))), (1, 40, 13, 1, 0)),
  ((⟨"java/lang/StringLatin1", "charAt", "([BI)C"⟩, prog_18_method_2_code, 2, (some (.char))), (1, 40, 14, 0, 2)),
  ((⟨"java/lang/String", "charAt", "(I)C"⟩, prog_17_method_56_code, 2, (some (.char))), (2, 61, 13, 1, 1)),
  ((⟨"TinStencils$Tokens", "isKeyword", "(III)Z"⟩, prog_12_method_8_code, 5, (some (.boolean))), (3, 82, 10, 1, 3)),
  ((⟨"TinStencils$Tokens", "keywordAt", "(II)I"⟩, prog_12_method_7_code, 6, (some (.int))), (4, 106, 10, 1, 2)),
  ((⟨"TinStencils$Tokens", "numberAt", "(II)I"⟩, prog_12_method_6_code, 5, (some (.int))), (1, 40, 10, 1, 2)),
  ((⟨"TinStencils$Tokens", "addToken", "(II)V"⟩, prog_12_method_5_code, 3, none), (5, 131, 10, 1, 2)),
  ((⟨"TinStencils$Tokens", "split", "([II)V"⟩, prog_12_method_2_code, 5, none), (6, 153, 10, 1, 2)),
  ((⟨"TinStencils$Teller", "takeKeyword", "(I)Z"⟩, prog_11_method_18_code, 2, (some (.boolean))), (1, 40, 9, 1, 1)),
  ((⟨"TinStencils$Teller", "takeNumber", "(II)Z"⟩, prog_11_method_20_code, 4, (some (.boolean))), (1, 40, 9, 1, 2)),
  ((⟨"java/util/Arrays", "fill", "([II)V"⟩, prog_21_method_103_code, 4, none), (1, 40, 17, 0, 2))]
def ti_2 : List qz_N := [((⟨"TinStencils$Bridges", "begin", "()V"⟩, prog_2_method_2_code, 1, none), (2, 63, 0, 1, 0)),
  ((⟨"TinStencils$Sheet", "begin", "(II)V"⟩, prog_10_method_2_code, 3, none), (3, 83, 8, 1, 2)),
  ((⟨"TinStencils$Teller", "takeSign", "(I)Z"⟩, prog_11_method_19_code, 2, (some (.boolean))), (1, 40, 9, 1, 1)),
  ((⟨"TinStencils$Teller", "tellSize", "(LTinStencils$Sheet;)Z"⟩, prog_11_method_4_code, 3, (some (.boolean))), (4, 105, 9, 1, 1)),
  ((⟨"TinStencils$Teller", "takeSquares", "(II)Z"⟩, prog_11_method_23_code, 7, (some (.boolean))), (1, 40, 9, 1, 2)),
  ((⟨"TinStencils$Teller", "tellRow", "(LTinStencils$Sheet;)Z"⟩, prog_11_method_6_code, 4, (some (.boolean))), (2, 66, 9, 1, 1)),
  ((⟨"TinStencils$Teller", "nameHere", "()J"⟩, prog_11_method_24_code, 4, (some (.long))), (1, 40, 9, 1, 0)),
  ((⟨"TinStencils$Teller", "shapeNamed", "(JLTinStencils$Sheet;)I"⟩, prog_11_method_25_code, 5, (some (.int))), (1, 40, 9, 1, 2)),
  ((⟨"TinStencils$Sheet", "openShape", "(I)V"⟩, prog_10_method_15_code, 2, none), (1, 40, 8, 1, 1)),
  ((⟨"TinStencils$Sheet", "addShapeRow", "(I)V"⟩, prog_10_method_16_code, 3, none), (1, 40, 8, 1, 1)),
  ((⟨"TinStencils$Teller", "tellShape", "(LTinStencils$Sheet;)Z"⟩, prog_11_method_7_code, 6, (some (.boolean))), (2, 66, 9, 1, 1)),
  ((⟨"TinStencils$Teller", "takePlace", "(LTinStencils$Sheet;)Z"⟩, prog_11_method_21_code, 2, (some (.boolean))), (2, 63, 9, 1, 1)),
  ((⟨"TinStencils", "turnedX", "(IIIII)I"⟩, prog_1_method_41_code, 5, (some (.int))), (1, 40, 11, 0, 5)),
  ((⟨"TinStencils", "turnedY", "(IIIII)I"⟩, prog_1_method_42_code, 5, (some (.int))), (1, 40, 11, 0, 5)),
  ((⟨"TinStencils$Sheet", "has", "(II)Z"⟩, prog_10_method_4_code, 3, (some (.boolean))), (1, 40, 8, 1, 2)),
  ((⟨"TinStencils$Sheet", "setThrough", "(IIZ)V"⟩, prog_10_method_5_code, 4, none), (2, 62, 8, 1, 3))]
def ti_3 : List qz_N := [((⟨"TinStencils$Sheet", "putShape", "(IIII)V"⟩, prog_10_method_17_code, 9, none), (3, 85, 8, 1, 4)),
  ((⟨"TinStencils$Teller", "tellPut", "(LTinStencils$Sheet;)Z"⟩, prog_11_method_8_code, 4, (some (.boolean))), (4, 113, 9, 1, 1)),
  ((⟨"TinStencils$Teller", "takeSide", "()Z"⟩, prog_11_method_22_code, 1, (some (.boolean))), (1, 40, 9, 1, 0)),
  ((⟨"TinStencils$Teller", "tellHold", "(LTinStencils$Sheet;)Z"⟩, prog_11_method_9_code, 3, (some (.boolean))), (2, 60, 9, 1, 1)),
  ((⟨"TinStencils$Sheet", "setWorth", "(III)V"⟩, prog_10_method_18_code, 4, none), (2, 62, 8, 1, 3)),
  ((⟨"TinStencils$Teller", "tellWorth", "(LTinStencils$Sheet;)Z"⟩, prog_11_method_10_code, 8, (some (.boolean))), (3, 85, 9, 1, 1)),
  ((⟨"TinStencils$Teller", "tellBrush", "(LTinStencils$Sheet;)Z"⟩, prog_11_method_11_code, 2, (some (.boolean))), (2, 63, 9, 1, 1)),
  ((⟨"TinStencils$Teller", "tellWear", "(LTinStencils$Sheet;)Z"⟩, prog_11_method_12_code, 2, (some (.boolean))), (2, 63, 9, 1, 1)),
  ((⟨"TinStencils$Bridges", "open", "(II)V"⟩, prog_2_method_5_code, 3, none), (1, 40, 0, 1, 2)),
  ((⟨"TinStencils$Bridges", "addSquare", "(II)V"⟩, prog_2_method_6_code, 3, none), (1, 40, 0, 1, 2)),
  ((⟨"TinStencils$Sheet", "bridgeLine", "(IIII)V"⟩, prog_10_method_19_code, 8, none), (2, 62, 8, 1, 4)),
  ((⟨"TinStencils$Teller", "tellStraight", "(LTinStencils$Sheet;)Z"⟩, prog_11_method_14_code, 3, (some (.boolean))), (3, 89, 9, 1, 1)),
  ((⟨"TinStencils$Teller", "tellBroad", "(LTinStencils$Sheet;)Z"⟩, prog_11_method_15_code, 6, (some (.boolean))), (3, 89, 9, 1, 1)),
  ((⟨"TinStencils$Teller", "tellCorner", "(LTinStencils$Sheet;)Z"⟩, prog_11_method_16_code, 7, (some (.boolean))), (3, 89, 9, 1, 1)),
  ((⟨"java/lang/Integer", "bitCount", "(I)I"⟩, prog_15_method_49_code, 1, (some (.int))), (1, 40, 15, 0, 1)),
  ((⟨"TinStencils$Bridges", "squares", "(I)I"⟩, prog_2_method_9_code, 4, (some (.int))), (2, 60, 0, 1, 1))]
def ti_4 : List qz_N := [((⟨"TinStencils$Bridges", "lastBySquares", "(I)V"⟩, prog_2_method_8_code, 2, none), (3, 83, 0, 1, 1)),
  ((⟨"TinStencils$Teller", "tellTold", "(LTinStencils$Sheet;)Z"⟩, prog_11_method_17_code, 3, (some (.boolean))), (4, 104, 9, 1, 1)),
  ((⟨"TinStencils$Bridges", "hideNewest", "()V"⟩, prog_2_method_7_code, 1, none), (1, 40, 0, 1, 0)),
  ((⟨"TinStencils$Teller", "tellBridge", "(LTinStencils$Sheet;)Z"⟩, prog_11_method_13_code, 3, (some (.boolean))), (5, 126, 9, 1, 1)),
  ((⟨"TinStencils$Teller", "tellStatement", "(LTinStencils$Sheet;)Z"⟩, prog_11_method_5_code, 2, (some (.boolean))), (6, 148, 9, 1, 1)),
  ((⟨"TinStencils$Teller", "tell", "([IILTinStencils$Sheet;)Z"⟩, prog_11_method_2_code, 5, (some (.boolean))), (7, 177, 9, 1, 3)),
  ((⟨"TinStencils$Teller", "place", "()I"⟩, prog_11_method_3_code, 1, (some (.int))), (1, 40, 9, 1, 0)),
  ((⟨"TinStencils", "plate", "(II)I"⟩, prog_1_method_4_code, 5, (some (.int))), (8, 201, 11, 1, 2)),
  ((⟨"TinStencilsModel", "isIn", "(III)Z"⟩, prog_14_method_2_code, 3, (some (.boolean))), (1, 40, 12, 0, 3)),
  ((⟨"TinStencilsModel", "refuses", "(II)I"⟩, prog_14_method_7_code, 3, (some (.int))), (1, 40, 12, 1, 2)),
  ((⟨"TinStencilsModel", "says", "(II)V"⟩, prog_14_method_26_code, 3, none), (1, 40, 12, 1, 2)),
  ((⟨"TinStencilsModel", "blanks", "()V"⟩, prog_14_method_14_code, 1, none), (1, 40, 12, 1, 0)),
  ((⟨"TinStencilsModel", "word", "()J"⟩, prog_14_method_15_code, 3, (some (.long))), (2, 60, 12, 1, 0)),
  ((⟨"TinStencilsModel", "takes", "(J)Z"⟩, prog_14_method_16_code, 3, (some (.boolean))), (3, 82, 12, 1, 1)),
  ((⟨"TinStencilsModel", "takesNumber", "(II)Z"⟩, prog_14_method_18_code, 4, (some (.boolean))), (2, 62, 12, 1, 2)),
  ((⟨"TinStencilsModel", "takesSign", "(I)Z"⟩, prog_14_method_17_code, 2, (some (.boolean))), (2, 60, 12, 1, 1))]
def ti_5 : List qz_N := [((⟨"TinStencilsModel", "draft", "(I)I"⟩, prog_14_method_25_code, 2, (some (.int))), (1, 40, 12, 1, 1)),
  ((⟨"TinStencilsModel", "high", "(I)I"⟩, prog_14_method_9_code, 2, (some (.int))), (1, 40, 12, 1, 1)),
  ((⟨"TinStencilsModel", "wide", "(I)I"⟩, prog_14_method_8_code, 2, (some (.int))), (1, 40, 12, 1, 1)),
  ((⟨"TinStencilsModel", "takesSquares", "(II)Z"⟩, prog_14_method_19_code, 4, (some (.boolean))), (2, 62, 12, 1, 2)),
  ((⟨"TinStencilsModel", "at", "(III)I"⟩, prog_14_method_11_code, 3, (some (.int))), (1, 40, 12, 0, 3)),
  ((⟨"TinStencilsModel", "row", "()Z"⟩, prog_14_method_28_code, 3, (some (.boolean))), (3, 85, 12, 1, 0)),
  ((⟨"TinStencilsModel", "isBridgeWord", "(J)Z"⟩, prog_14_method_21_code, 2, (some (.boolean))), (1, 40, 12, 0, 1)),
  ((⟨"TinStencilsModel", "sideOf", "(J)I"⟩, prog_14_method_22_code, 2, (some (.int))), (1, 40, 12, 0, 1)),
  ((⟨"TinStencilsModel", "isKept", "(J)Z"⟩, prog_14_method_20_code, 2, (some (.boolean))), (2, 61, 12, 0, 1)),
  ((⟨"TinStencilsModel", "named", "(J)I"⟩, prog_14_method_27_code, 4, (some (.int))), (2, 61, 12, 1, 1)),
  ((⟨"TinStencilsModel", "shape", "()Z"⟩, prog_14_method_29_code, 4, (some (.boolean))), (3, 85, 12, 1, 0)),
  ((⟨"TinStencilsModel", "takesPlace", "(II)Z"⟩, prog_14_method_24_code, 3, (some (.boolean))), (3, 85, 12, 1, 2)),
  ((⟨"TinStencilsModel", "has", "(II)Z"⟩, prog_14_method_4_code, 2, (some (.boolean))), (1, 40, 12, 0, 2)),
  ((⟨"TinStencilsModel", "turned", "(IIIIII)I"⟩, prog_14_method_31_code, 13, (some (.int))), (1, 40, 12, 0, 6)),
  ((⟨"TinStencilsModel", "isWithin", "(III)Z"⟩, prog_14_method_10_code, 4, (some (.boolean))), (2, 62, 12, 1, 3)),
  ((⟨"TinStencilsModel", "put", "()Z"⟩, prog_14_method_30_code, 9, (some (.boolean))), (4, 107, 12, 1, 0))]
def ti_6 : List qz_N := [((⟨"TinStencilsModel", "takesSide", "()Z"⟩, prog_14_method_23_code, 1, (some (.boolean))), (3, 82, 12, 1, 0)),
  ((⟨"TinStencilsModel", "hold", "()Z"⟩, prog_14_method_32_code, 2, (some (.boolean))), (4, 102, 12, 1, 0)),
  ((⟨"TinStencilsModel", "worthTold", "()Z"⟩, prog_14_method_33_code, 5, (some (.boolean))), (4, 107, 12, 1, 0)),
  ((⟨"TinStencilsModel", "numberTold", "(II)Z"⟩, prog_14_method_34_code, 3, (some (.boolean))), (3, 85, 12, 1, 2)),
  ((⟨"TinStencilsModel", "east", "(I)I"⟩, prog_14_method_35_code, 1, (some (.int))), (1, 40, 12, 0, 1)),
  ((⟨"TinStencilsModel", "south", "(I)I"⟩, prog_14_method_36_code, 1, (some (.int))), (1, 40, 12, 0, 1)),
  ((⟨"TinStencilsModel", "lays", "(IIIIII)V"⟩, prog_14_method_37_code, 8, none), (3, 85, 12, 1, 6)),
  ((⟨"TinStencilsModel", "cornerTold", "(I)Z"⟩, prog_14_method_39_code, 4, (some (.boolean))), (4, 112, 12, 1, 1)),
  ((⟨"TinStencilsModel", "unit", "(Z)I"⟩, prog_14_method_3_code, 1, (some (.int))), (1, 40, 12, 0, 1)),
  ((⟨"TinStencilsModel", "countBridge", "(IIZ)I"⟩, prog_14_method_41_code, 6, (some (.int))), (2, 61, 12, 1, 3)),
  ((⟨"TinStencilsModel", "squaresTold", "(I)Z"⟩, prog_14_method_40_code, 3, (some (.boolean))), (4, 107, 12, 1, 1)),
  ((⟨"TinStencilsModel", "straight", "(IZ)Z"⟩, prog_14_method_38_code, 8, (some (.boolean))), (4, 112, 12, 1, 2)),
  ((⟨"TinStencilsModel", "bridgeTold", "()Z"⟩, prog_14_method_42_code, 4, (some (.boolean))), (5, 139, 12, 1, 0)),
  ((⟨"TinStencilsModel", "statement", "()Z"⟩, prog_14_method_43_code, 1, (some (.boolean))), (6, 162, 12, 1, 0)),
  ((⟨"TinStencilsModel", "plateTold", "()Z"⟩, prog_14_method_44_code, 2, (some (.boolean))), (7, 182, 12, 1, 0)),
  ((⟨"TinStencilsModel", "takesOver", "(I)V"⟩, prog_14_method_46_code, 4, none), (2, 61, 12, 1, 1))]
def ti_7 : List qz_N := [((⟨"TinStencilsModel", "plate", "(II)I"⟩, prog_14_method_45_code, 4, (some (.int))), (8, 203, 12, 1, 2)),
  ((⟨"TinStencils", "fault", "()I"⟩, prog_1_method_5_code, 1, (some (.int))), (1, 40, 11, 1, 0)),
  ((⟨"TinStencilsModel", "fault", "()I"⟩, prog_14_method_47_code, 1, (some (.int))), (1, 40, 12, 1, 0)),
  ((⟨"TinStencils", "toldSheet", "(I)LTinStencils$Sheet;"⟩, prog_1_method_32_code, 2, (some (.object "TinStencils$Sheet"))), (1, 40, 11, 1, 1)),
  ((⟨"TinStencils$Sheet", "fullRow", "(I)I"⟩, prog_10_method_6_code, 2, (some (.int))), (1, 40, 8, 1, 1)),
  ((⟨"TinStencils$Sheet", "tinRow", "(II)I"⟩, prog_10_method_7_code, 5, (some (.int))), (2, 61, 8, 1, 2)),
  ((⟨"TinStencils$Sheet", "tinSquares", "(I)I"⟩, prog_10_method_10_code, 4, (some (.int))), (3, 85, 8, 1, 1)),
  ((⟨"TinStencils", "sheet", "(II)I"⟩, prog_1_method_6_code, 4, (some (.int))), (4, 108, 11, 1, 2)),
  ((⟨"TinStencilsModel", "isSheet", "(I)Z"⟩, prog_14_method_48_code, 2, (some (.boolean))), (2, 62, 12, 1, 1)),
  ((⟨"TinStencilsModel", "bridgesIn", "(I)I"⟩, prog_14_method_49_code, 2, (some (.int))), (1, 40, 12, 1, 1)),
  ((⟨"TinStencilsModel", "isTin", "(IIII)Z"⟩, prog_14_method_51_code, 5, (some (.boolean))), (2, 62, 12, 1, 4)),
  ((⟨"TinStencilsModel", "tins", "(II)V"⟩, prog_14_method_52_code, 4, none), (3, 86, 12, 1, 2)),
  ((⟨"TinStencilsModel", "tinMany", "()I"⟩, prog_14_method_58_code, 3, (some (.int))), (1, 40, 12, 1, 0)),
  ((⟨"TinStencilsModel", "sheet", "(II)I"⟩, prog_14_method_63_code, 3, (some (.int))), (4, 109, 12, 1, 2)),
  ((⟨"TinStencils$Sheet", "rimRow", "(I)I"⟩, prog_10_method_11_code, 3, (some (.int))), (2, 61, 8, 1, 1)),
  ((⟨"TinStencils$Hanging", "alongRow", "(II)I"⟩, prog_5_method_4_code, 7, (some (.int))), (1, 40, 3, 0, 2))]
def ti_8 : List qz_N := [((⟨"TinStencils$Hanging", "pull", "(II)Z"⟩, prog_5_method_3_code, 4, (some (.boolean))), (2, 66, 3, 1, 2)),
  ((⟨"TinStencils$Hanging", "spread", "(LTinStencils$Sheet;I)V"⟩, prog_5_method_2_code, 6, none), (3, 89, 3, 1, 2)),
  ((⟨"TinStencils", "isSet", "([II)Z"⟩, prog_1_method_44_code, 2, (some (.boolean))), (1, 40, 11, 0, 2)),
  ((⟨"TinStencils", "beside", "(II)I"⟩, prog_1_method_43_code, 4, (some (.int))), (1, 40, 11, 0, 2)),
  ((⟨"TinStencils$Parts", "gather", "(I[I)V"⟩, prog_7_method_3_code, 7, none), (2, 63, 5, 1, 2)),
  ((⟨"TinStencils$Parts", "split", "([I)V"⟩, prog_7_method_2_code, 3, none), (3, 89, 5, 1, 1)),
  ((⟨"TinStencils", "findPieces", "(LTinStencils$Sheet;I)V"⟩, prog_1_method_33_code, 3, none), (4, 114, 11, 1, 2)),
  ((⟨"TinStencils$Hanging", "enter", "(II[I)V"⟩, prog_5_method_8_code, 4, none), (2, 61, 3, 1, 3)),
  ((⟨"java/lang/Math", "min", "(II)I"⟩, prog_16_method_69_code, 2, (some (.int))), (1, 40, 16, 0, 2)),
  ((⟨"TinStencils$Hanging", "leave", "(I)I"⟩, prog_5_method_9_code, 3, (some (.int))), (2, 61, 3, 1, 1)),
  ((⟨"TinStencils$Hanging", "follow", "(I[I[I)V"⟩, prog_5_method_7_code, 7, none), (3, 84, 3, 1, 3)),
  ((⟨"TinStencils$Hanging", "walk", "([I[I)V"⟩, prog_5_method_6_code, 4, none), (4, 110, 3, 1, 2)),
  ((⟨"TinStencils", "walkHeld", "(LTinStencils$Sheet;)V"⟩, prog_1_method_36_code, 3, none), (5, 133, 11, 1, 1)),
  ((⟨"TinStencils", "square", "(IIII)I"⟩, prog_1_method_7_code, 7, (some (.int))), (6, 155, 11, 1, 4)),
  ((⟨"TinStencilsModel", "isRim", "(II)Z"⟩, prog_14_method_53_code, 6, (some (.boolean))), (2, 61, 12, 1, 2)),
  ((⟨"TinStencilsModel", "begins", "(II)I"⟩, prog_14_method_56_code, 3, (some (.int))), (1, 40, 12, 1, 2))]
def ti_9 : List qz_N := [((⟨"TinStencilsModel", "beside", "(II)I"⟩, prog_14_method_54_code, 4, (some (.int))), (2, 62, 12, 0, 2)),
  ((⟨"TinStencilsModel", "floods", "(II)I"⟩, prog_14_method_55_code, 7, (some (.int))), (3, 85, 12, 1, 2)),
  ((⟨"TinStencilsModel", "hanging", "(III)I"⟩, prog_14_method_57_code, 6, (some (.int))), (4, 111, 12, 1, 3)),
  ((⟨"TinStencilsModel", "isPart", "(III)Z"⟩, prog_14_method_61_code, 4, (some (.boolean))), (3, 85, 12, 1, 3)),
  ((⟨"TinStencilsModel", "parts", "(II)V"⟩, prog_14_method_60_code, 8, none), (4, 108, 12, 1, 2)),
  ((⟨"TinStencilsModel", "looks", "(II)V"⟩, prog_14_method_62_code, 3, none), (5, 136, 12, 1, 2)),
  ((⟨"TinStencilsModel", "tongueOf", "(IIII)I"⟩, prog_14_method_64_code, 5, (some (.int))), (5, 136, 12, 1, 4)),
  ((⟨"TinStencilsModel", "tongue", "(II)I"⟩, prog_14_method_65_code, 4, (some (.int))), (6, 160, 12, 1, 2)),
  ((⟨"TinStencilsModel", "square", "(IIII)I"⟩, prog_14_method_66_code, 6, (some (.int))), (7, 183, 12, 1, 4)),
  ((⟨"TinStencils$Parts", "has", "(I)Z"⟩, prog_7_method_4_code, 2, (some (.boolean))), (1, 40, 5, 1, 1)),
  ((⟨"TinStencils$Parts", "rowOf", "(II)I"⟩, prog_7_method_7_code, 5, (some (.int))), (1, 40, 5, 1, 2)),
  ((⟨"TinStencils$Parts", "borderRow", "(I)I"⟩, prog_7_method_8_code, 4, (some (.int))), (1, 40, 5, 1, 1)),
  ((⟨"TinStencils$Parts", "gap", "(ILTinStencils$Sheet;[I)I"⟩, prog_7_method_6_code, 8, (some (.int))), (2, 64, 5, 1, 3)),
  ((⟨"TinStencils$Parts", "told", "(II)I"⟩, prog_7_method_5_code, 3, (some (.int))), (2, 61, 5, 1, 2)),
  ((⟨"TinStencils", "falls", "(III)I"⟩, prog_1_method_8_code, 5, (some (.int))), (5, 136, 11, 1, 3)),
  ((⟨"TinStencilsModel", "gap", "(I)I"⟩, prog_14_method_67_code, 6, (some (.int))), (3, 85, 12, 1, 1))]
def ti_10 : List qz_N := [((⟨"TinStencilsModel", "falls", "(III)I"⟩, prog_14_method_68_code, 4, (some (.int))), (6, 158, 12, 1, 3)),
  ((⟨"TinStencils$Hanging", "tonguesAbove", "(II)I"⟩, prog_5_method_11_code, 5, (some (.int))), (1, 40, 3, 1, 2)),
  ((⟨"java/lang/Math", "max", "(II)I"⟩, prog_16_method_65_code, 2, (some (.int))), (1, 40, 16, 0, 2)),
  ((⟨"TinStencils$Hanging", "greatestTongue", "(I)I"⟩, prog_5_method_10_code, 4, (some (.int))), (2, 61, 3, 1, 1)),
  ((⟨"TinStencils", "tongues", "(II)I"⟩, prog_1_method_9_code, 4, (some (.int))), (6, 155, 11, 1, 2)),
  ((⟨"TinStencilsModel", "necks", "(III)V"⟩, prog_14_method_69_code, 7, none), (6, 160, 12, 1, 3)),
  ((⟨"TinStencilsModel", "tongues", "(II)I"⟩, prog_14_method_70_code, 3, (some (.int))), (7, 186, 12, 1, 2)),
  ((⟨"TinStencils", "change", "(IIIZ)Z"⟩, prog_1_method_10_code, 6, (some (.boolean))), (3, 85, 11, 1, 4)),
  ((⟨"TinStencilsModel", "refuses", "(I)Z"⟩, prog_14_method_6_code, 2, (some (.boolean))), (1, 40, 12, 1, 1)),
  ((⟨"TinStencilsModel", "change", "(IIIZ)Z"⟩, prog_14_method_71_code, 5, (some (.boolean))), (3, 85, 12, 1, 4)),
  ((⟨"TinStencils$Bridges", "has", "(I)Z"⟩, prog_2_method_4_code, 2, (some (.boolean))), (1, 40, 0, 1, 1)),
  ((⟨"TinStencils$Sheet", "bridgedThrough", "(I)I"⟩, prog_10_method_12_code, 4, (some (.int))), (2, 60, 8, 1, 1)),
  ((⟨"TinStencils", "bridge", "(III)I"⟩, prog_1_method_11_code, 5, (some (.int))), (3, 83, 11, 1, 3)),
  ((⟨"TinStencilsModel", "isBridge", "(II)Z"⟩, prog_14_method_72_code, 3, (some (.boolean))), (3, 83, 12, 1, 2)),
  ((⟨"TinStencilsModel", "bridge", "(III)I"⟩, prog_14_method_73_code, 5, (some (.int))), (4, 105, 12, 1, 3)),
  ((⟨"TinStencils", "put", "(IIZ)Z"⟩, prog_1_method_12_code, 6, (some (.boolean))), (2, 61, 11, 1, 3))]
def ti_11 : List qz_N := [((⟨"TinStencilsModel", "put", "(IIZ)Z"⟩, prog_14_method_74_code, 5, (some (.boolean))), (4, 105, 12, 1, 3)),
  ((⟨"TinStencils$Hanging", "loose", "()I"⟩, prog_5_method_5_code, 3, (some (.int))), (2, 60, 3, 1, 0)),
  ((⟨"TinStencils$Bridges", "firstBelow", "(I)I"⟩, prog_2_method_11_code, 3, (some (.int))), (1, 40, 0, 1, 1)),
  ((⟨"TinStencils$Bridges", "over", "(II)I"⟩, prog_2_method_10_code, 5, (some (.int))), (1, 40, 0, 1, 2)),
  ((⟨"TinStencils$Sheet", "showing", "(IIILTinStencils$Sheet;)I"⟩, prog_10_method_13_code, 7, (some (.int))), (2, 64, 8, 1, 4)),
  ((⟨"TinStencils$Sheet", "seen", "(ILTinStencils$Sheet;)I"⟩, prog_10_method_14_code, 6, (some (.int))), (3, 90, 8, 1, 2)),
  ((⟨"TinStencils", "judge", "(II)I"⟩, prog_1_method_13_code, 4, (some (.int))), (4, 115, 11, 1, 2)),
  ((⟨"TinStencilsModel", "allHang", "(II)Z"⟩, prog_14_method_59_code, 3, (some (.boolean))), (5, 136, 12, 1, 2)),
  ((⟨"TinStencilsModel", "hiddenOnes", "(I)I"⟩, prog_14_method_75_code, 4, (some (.int))), (1, 40, 12, 1, 1)),
  ((⟨"TinStencilsModel", "isCutBelow", "(III)Z"⟩, prog_14_method_76_code, 4, (some (.boolean))), (3, 85, 12, 1, 3)),
  ((⟨"TinStencilsModel", "seen", "(II)I"⟩, prog_14_method_77_code, 8, (some (.int))), (4, 108, 12, 1, 2)),
  ((⟨"TinStencilsModel", "judge", "(II)I"⟩, prog_14_method_78_code, 5, (some (.int))), (6, 158, 12, 1, 2)),
  ((⟨"TinStencils", "joinable", "(LTinStencils$Sheet;)Z"⟩, prog_1_method_35_code, 2, (some (.boolean))), (5, 136, 11, 1, 1)),
  ((⟨"TinStencils$Joining", "setPrices", "(LTinStencils$Sheet;Z)V"⟩, prog_6_method_3_code, 7, none), (3, 83, 4, 1, 2)),
  ((⟨"TinStencils$Joining", "begin", "(ILTinStencils$Parts;)V"⟩, prog_6_method_4_code, 6, none), (1, 40, 4, 1, 2)),
  ((⟨"TinStencils$Joining", "merge", "(II)V"⟩, prog_6_method_5_code, 8, none), (2, 61, 4, 1, 2))]
def ti_12 : List qz_N := [((⟨"TinStencils$Joining", "relaxSquare", "(II)Z"⟩, prog_6_method_7_code, 7, (some (.boolean))), (2, 63, 4, 1, 2)),
  ((⟨"TinStencils$Joining", "relax", "(I)V"⟩, prog_6_method_6_code, 6, none), (3, 89, 4, 1, 1)),
  ((⟨"TinStencils$Joining", "join", "(LTinStencils$Sheet;LTinStencils$Parts;Z)V"⟩, prog_6_method_2_code, 6, none), (4, 114, 4, 1, 3)),
  ((⟨"TinStencils$Joining", "joinedToFrame", "(I)I"⟩, prog_6_method_9_code, 2, (some (.int))), (1, 40, 4, 1, 1)),
  ((⟨"TinStencils$Joining", "cheapestJoin", "()I"⟩, prog_6_method_8_code, 1, (some (.int))), (2, 61, 4, 1, 0)),
  ((⟨"TinStencils", "cheapest", "(I)I"⟩, prog_1_method_14_code, 3, (some (.int))), (6, 157, 11, 1, 1)),
  ((⟨"TinStencilsModel", "costs", "(IZ)V"⟩, prog_14_method_87_code, 4, none), (3, 85, 12, 1, 2)),
  ((⟨"TinStencilsModel", "bits", "(I)I"⟩, prog_14_method_5_code, 3, (some (.int))), (1, 40, 12, 0, 1)),
  ((⟨"TinStencilsModel", "goesOn", "(I)V"⟩, prog_14_method_88_code, 7, none), (3, 85, 12, 1, 1)),
  ((⟨"TinStencilsModel", "joins", "(IZ)V"⟩, prog_14_method_89_code, 9, none), (4, 111, 12, 1, 2)),
  ((⟨"TinStencilsModel", "cheapest", "(I)I"⟩, prog_14_method_90_code, 2, (some (.int))), (6, 158, 12, 1, 1)),
  ((⟨"TinStencils$Joining", "fewestChanges", "(LTinStencils$Parts;)I"⟩, prog_6_method_10_code, 6, (some (.int))), (2, 61, 4, 1, 1)),
  ((⟨"TinStencils", "made", "(I)I"⟩, prog_1_method_15_code, 3, (some (.int))), (6, 157, 11, 1, 1)),
  ((⟨"TinStencilsModel", "made", "(I)I"⟩, prog_14_method_91_code, 6, (some (.int))), (6, 158, 12, 1, 1)),
  ((⟨"TinStencils$Choosing", "weigh", "(LTinStencils$Sheet;LTinStencils$Sheet;)V"⟩, prog_3_method_5_code, 5, none), (3, 90, 1, 1, 2)),
  ((⟨"TinStencils$Choosing", "seenBy", "(I)I"⟩, prog_3_method_4_code, 2, (some (.int))), (1, 40, 1, 1, 1))]
def ti_13 : List qz_N := [((⟨"TinStencils$Choosing", "isBetter", "(II)Z"⟩, prog_3_method_3_code, 5, (some (.boolean))), (2, 61, 1, 1, 2)),
  ((⟨"TinStencils$Choosing", "allHangs", "(ILTinStencils$Sheet;LTinStencils$Hanging;)Z"⟩, prog_3_method_7_code, 4, (some (.boolean))), (4, 114, 1, 1, 3)),
  ((⟨"TinStencils$Choosing", "holds", "(ILTinStencils$Sheet;LTinStencils$Hanging;Z)Z"⟩, prog_3_method_6_code, 6, (some (.boolean))), (5, 137, 1, 1, 4)),
  ((⟨"TinStencils$Choosing", "choose", "(LTinStencils$Sheet;LTinStencils$Sheet;LTinStencils$Hanging;Z)I"⟩, prog_3_method_2_code, 7, (some (.int))), (6, 162, 1, 1, 4)),
  ((⟨"TinStencils", "choice", "(IZI)I"⟩, prog_1_method_16_code, 6, (some (.int))), (7, 188, 11, 1, 3)),
  ((⟨"TinStencilsModel", "all", "(I)I"⟩, prog_14_method_50_code, 2, (some (.int))), (1, 40, 12, 1, 1)),
  ((⟨"TinStencilsModel", "isTwice", "(I)Z"⟩, prog_14_method_79_code, 4, (some (.boolean))), (2, 61, 12, 1, 1)),
  ((⟨"TinStencilsModel", "choice", "(IZI)I"⟩, prog_14_method_80_code, 8, (some (.int))), (6, 158, 12, 1, 3)),
  ((⟨"TinStencils$Sheet", "isTin", "(II)Z"⟩, prog_10_method_9_code, 3, (some (.boolean))), (3, 85, 8, 1, 2)),
  ((⟨"TinStencils", "walkFrom", "(LTinStencils$Sheet;II)V"⟩, prog_1_method_37_code, 4, none), (5, 133, 11, 1, 3)),
  ((⟨"TinStencils", "sagOf", "(LTinStencils$Sheet;II)I"⟩, prog_1_method_38_code, 4, (some (.int))), (6, 156, 11, 1, 3)),
  ((⟨"TinStencils", "sagsAbove", "(LTinStencils$Sheet;III)I"⟩, prog_1_method_39_code, 5, (some (.int))), (6, 156, 11, 1, 4)),
  ((⟨"TinStencils", "sag", "(IIIII)I"⟩, prog_1_method_17_code, 7, (some (.int))), (7, 180, 11, 1, 5)),
  ((⟨"TinStencilsModel", "isHeldBy", "(III)Z"⟩, prog_14_method_84_code, 4, (some (.boolean))), (4, 109, 12, 1, 3)),
  ((⟨"TinStencilsModel", "sag", "(IIIII)I"⟩, prog_14_method_85_code, 6, (some (.int))), (7, 186, 12, 1, 5)),
  ((⟨"TinStencils", "corner", "(I)I"⟩, prog_1_method_18_code, 9, (some (.int))), (7, 179, 11, 1, 1))]
def ti_14 : List qz_N := [((⟨"TinStencilsModel", "corner", "(I)I"⟩, prog_14_method_86_code, 8, (some (.int))), (8, 211, 12, 1, 1)),
  ((⟨"TinStencils$Bridges", "leastLasting", "()I"⟩, prog_2_method_12_code, 3, (some (.int))), (1, 40, 0, 1, 0)),
  ((⟨"TinStencils", "first", "(I)I"⟩, prog_1_method_19_code, 3, (some (.int))), (2, 62, 11, 1, 1)),
  ((⟨"TinStencilsModel", "first", "(I)I"⟩, prog_14_method_81_code, 4, (some (.int))), (3, 83, 12, 1, 1)),
  ((⟨"TinStencils", "spoilt", "(II)I"⟩, prog_1_method_20_code, 5, (some (.int))), (4, 114, 11, 1, 2)),
  ((⟨"TinStencilsModel", "falling", "(II)I"⟩, prog_14_method_82_code, 4, (some (.int))), (5, 136, 12, 1, 2)),
  ((⟨"TinStencilsModel", "spoilt", "(II)I"⟩, prog_14_method_83_code, 3, (some (.int))), (6, 159, 12, 1, 2)),
  ((⟨"TinStencils$Pile", "namesEachOnce", "(I)Z"⟩, prog_8_method_5_code, 4, (some (.boolean))), (1, 40, 6, 0, 1)),
  ((⟨"TinStencils$Pile", "setOrder", "(I)Z"⟩, prog_8_method_4_code, 4, (some (.boolean))), (2, 63, 6, 1, 1)),
  ((⟨"TinStencils", "order", "(I)Z"⟩, prog_1_method_21_code, 2, (some (.boolean))), (3, 86, 11, 1, 1)),
  ((⟨"TinStencilsModel", "order", "(I)Z"⟩, prog_14_method_92_code, 5, (some (.boolean))), (2, 61, 12, 1, 1)),
  ((⟨"TinStencils$Pile", "painter", "(II)I"⟩, prog_8_method_7_code, 5, (some (.int))), (4, 107, 6, 1, 2)),
  ((⟨"TinStencils", "paint", "(II)I"⟩, prog_1_method_22_code, 3, (some (.int))), (5, 131, 11, 1, 2)),
  ((⟨"TinStencilsModel", "laysOver", "()V"⟩, prog_14_method_93_code, 5, none), (3, 86, 12, 1, 0)),
  ((⟨"TinStencilsModel", "byOrder", "()V"⟩, prog_14_method_94_code, 5, none), (1, 40, 12, 1, 0)),
  ((⟨"TinStencilsModel", "paint", "(II)I"⟩, prog_14_method_95_code, 5, (some (.int))), (4, 110, 12, 1, 2))]
def ti_15 : List qz_N := [((⟨"TinStencils$Pile", "toldSet", "()I"⟩, prog_8_method_3_code, 3, (some (.int))), (1, 40, 6, 1, 0)),
  ((⟨"TinStencils$Sheet", "openRow", "(I)I"⟩, prog_10_method_8_code, 2, (some (.int))), (3, 85, 8, 1, 1)),
  ((⟨"TinStencils$Pile", "leftOf", "(II)I"⟩, prog_8_method_9_code, 8, (some (.int))), (4, 106, 6, 1, 2)),
  ((⟨"TinStencils$Pile", "leftOfOrder", "()I"⟩, prog_8_method_8_code, 5, (some (.int))), (5, 133, 6, 1, 0)),
  ((⟨"TinStencils$Pile", "weighAhead", "(I)I"⟩, prog_8_method_11_code, 6, (some (.int))), (5, 133, 6, 1, 1)),
  ((⟨"TinStencils$Pile", "leastLeft", "()I"⟩, prog_8_method_10_code, 3, (some (.int))), (6, 158, 6, 1, 0)),
  ((⟨"TinStencils$Pile", "leastOrder", "(I)I"⟩, prog_8_method_12_code, 5, (some (.int))), (6, 158, 6, 1, 1)),
  ((⟨"TinStencils", "left", "(I)I"⟩, prog_1_method_23_code, 3, (some (.int))), (7, 182, 11, 1, 1)),
  ((⟨"TinStencilsModel", "leftBy", "()I"⟩, prog_14_method_96_code, 6, (some (.int))), (2, 61, 12, 1, 0)),
  ((⟨"TinStencilsModel", "factorial", "(I)I"⟩, prog_14_method_98_code, 4, (some (.int))), (1, 40, 12, 1, 1)),
  ((⟨"TinStencilsModel", "skips", "(IIII)I"⟩, prog_14_method_97_code, 7, (some (.int))), (2, 61, 12, 1, 4)),
  ((⟨"TinStencilsModel", "leastLeft", "()I"⟩, prog_14_method_99_code, 6, (some (.int))), (3, 87, 12, 1, 0)),
  ((⟨"TinStencilsModel", "left", "(I)I"⟩, prog_14_method_100_code, 3, (some (.int))), (4, 112, 12, 1, 1)),
  ((⟨"TinStencils", "alikeSquares", "(LTinStencils$Sheet;LTinStencils$Sheet;III)I"⟩, prog_1_method_40_code, 11, (some (.int))), (3, 85, 11, 0, 5)),
  ((⟨"TinStencils", "alike", "(IIIII)I"⟩, prog_1_method_24_code, 8, (some (.int))), (4, 115, 11, 1, 5)),
  ((⟨"TinStencilsModel", "alike", "(IIIII)I"⟩, prog_14_method_101_code, 11, (some (.int))), (3, 86, 12, 1, 5))]
def ti_16 : List qz_N := [((⟨"TinStencils", "turn", "(II)I"⟩, prog_1_method_25_code, 9, (some (.int))), (4, 115, 11, 1, 2)),
  ((⟨"TinStencilsModel", "turn", "(II)I"⟩, prog_14_method_102_code, 5, (some (.int))), (4, 116, 12, 1, 2)),
  ((⟨"TinStencils$Reading", "costLeftOut", "(I)I"⟩, prog_9_method_4_code, 4, (some (.int))), (1, 40, 7, 1, 1)),
  ((⟨"TinStencils$Reading", "costOf", "(LTinStencils$Sheet;II)I"⟩, prog_9_method_5_code, 7, (some (.int))), (2, 60, 7, 1, 3)),
  ((⟨"java/lang/Math", "min", "(JJ)J"⟩, prog_16_method_70_code, 4, (some (.long))), (1, 40, 16, 0, 2)),
  ((⟨"TinStencils$Reading", "weigh", "(III)V"⟩, prog_9_method_3_code, 5, none), (2, 63, 7, 1, 3)),
  ((⟨"TinStencils$Reading", "shapeAt", "(LTinStencils$Sheet;I)I"⟩, prog_9_method_7_code, 5, (some (.int))), (3, 86, 7, 1, 2)),
  ((⟨"TinStencils$Reading", "follow", "(LTinStencils$Sheet;)V"⟩, prog_9_method_6_code, 5, none), (4, 110, 7, 1, 1)),
  ((⟨"TinStencils$Reading", "cover", "(LTinStencils$Sheet;I)V"⟩, prog_9_method_2_code, 5, none), (5, 134, 7, 1, 2)),
  ((⟨"TinStencils$Reading", "told", "(I)J"⟩, prog_9_method_8_code, 2, (some (.long))), (1, 40, 7, 1, 1)),
  ((⟨"TinStencils", "read", "(III)J"⟩, prog_1_method_26_code, 5, (some (.long))), (6, 158, 11, 1, 3)),
  ((⟨"TinStencilsModel", "unlike", "(IIII)I"⟩, prog_14_method_103_code, 9, (some (.int))), (3, 86, 12, 1, 4)),
  ((⟨"TinStencilsModel", "takesIn", "(IIIII)V"⟩, prog_14_method_105_code, 6, none), (2, 63, 12, 1, 5)),
  ((⟨"TinStencilsModel", "leftOut", "(III)I"⟩, prog_14_method_104_code, 6, (some (.int))), (3, 86, 12, 1, 3)),
  ((⟨"TinStencilsModel", "reads", "(II)V"⟩, prog_14_method_106_code, 7, none), (4, 114, 12, 1, 2)),
  ((⟨"TinStencilsModel", "read", "(III)J"⟩, prog_14_method_107_code, 7, (some (.long))), (5, 140, 12, 1, 3))]
def ti_17 : List qz_N := [((⟨"TinStencils", "findHoles", "(LTinStencils$Sheet;)V"⟩, prog_1_method_34_code, 3, none), (4, 111, 11, 1, 1)),
  ((⟨"TinStencils", "hole", "(III)I"⟩, prog_1_method_27_code, 5, (some (.int))), (5, 133, 11, 1, 3)),
  ((⟨"TinStencilsModel", "hole", "(III)I"⟩, prog_14_method_108_code, 4, (some (.int))), (5, 135, 12, 1, 3)),
  ((⟨"TinStencils$Cutting", "prepare", "(LTinStencils$Sheet;LTinStencils$Parts;I)V"⟩, prog_4_method_5_code, 6, none), (3, 83, 2, 1, 3)),
  ((⟨"TinStencils$Cutting", "looseBehind", "(LTinStencils$Sheet;IILTinStencils$Hanging;)I"⟩, prog_4_method_6_code, 8, (some (.int))), (5, 133, 2, 1, 4)),
  ((⟨"TinStencils$Cutting", "worstFrom", "(I)I"⟩, prog_4_method_4_code, 2, (some (.int))), (2, 61, 2, 1, 1)),
  ((⟨"TinStencils$Cutting", "follow", "(I)V"⟩, prog_4_method_7_code, 6, none), (3, 82, 2, 1, 1)),
  ((⟨"TinStencils$Cutting", "plan", "(LTinStencils$Sheet;LTinStencils$Parts;LTinStencils$Hanging;)V"⟩, prog_4_method_2_code, 8, none), (6, 160, 2, 1, 3)),
  ((⟨"TinStencils$Cutting", "greatest", "()I"⟩, prog_4_method_3_code, 1, (some (.int))), (1, 40, 2, 1, 0)),
  ((⟨"TinStencils", "cut", "(II)I"⟩, prog_1_method_28_code, 4, (some (.int))), (7, 187, 11, 1, 2)),
  ((⟨"TinStencilsModel", "looseBy", "(II)I"⟩, prog_14_method_109_code, 4, (some (.int))), (7, 186, 12, 1, 2)),
  ((⟨"TinStencilsModel", "cut", "(II)I"⟩, prog_14_method_110_code, 8, (some (.int))), (8, 209, 12, 1, 2)),
  ((⟨"TinStencils$Bridges", "copyFrom", "(LTinStencils$Bridges;)V"⟩, prog_2_method_3_code, 2, none), (1, 40, 0, 1, 1)),
  ((⟨"TinStencils$Sheet", "copyFrom", "(LTinStencils$Sheet;)V"⟩, prog_10_method_3_code, 2, none), (2, 61, 8, 1, 1)),
  ((⟨"TinStencils$Pile", "copyFrom", "(LTinStencils$Pile;)V"⟩, prog_8_method_2_code, 3, none), (3, 82, 6, 1, 1)),
  ((⟨"TinStencils", "image", "()I"⟩, prog_1_method_29_code, 1, (some (.int))), (4, 104, 11, 1, 0))]
def ti_18 : List qz_N := [((⟨"TinStencilsModel", "keeps", "([II)V"⟩, prog_14_method_111_code, 4, none), (1, 40, 12, 1, 2)),
  ((⟨"TinStencilsModel", "image", "()I"⟩, prog_14_method_113_code, 1, (some (.int))), (2, 63, 12, 1, 0)),
  ((⟨"TinStencils", "back", "(I)Z"⟩, prog_1_method_30_code, 2, (some (.boolean))), (4, 104, 11, 1, 1)),
  ((⟨"TinStencilsModel", "fetches", "([II)V"⟩, prog_14_method_112_code, 4, none), (1, 40, 12, 1, 2)),
  ((⟨"TinStencilsModel", "back", "(I)Z"⟩, prog_14_method_114_code, 2, (some (.boolean))), (2, 63, 12, 1, 1)),
  ((⟨"TinStencils$Pile", "orderDigits", "()I"⟩, prog_8_method_6_code, 3, (some (.int))), (1, 40, 6, 1, 0)),
  ((⟨"TinStencils", "count", "(I)I"⟩, prog_1_method_31_code, 2, (some (.int))), (2, 62, 11, 1, 1)),
  ((⟨"TinStencilsModel", "count", "(I)I"⟩, prog_14_method_115_code, 4, (some (.int))), (1, 40, 12, 1, 1)),
  ((⟨"TinStencilsLaw", "law", "([I)Z"⟩, code, 4, (some (.boolean))), (9, 238, 18, 0, 1))]
def ti_all : List (List qz_N) := [ti_0, ti_1, ti_2, ti_3, ti_4, ti_5, ti_6, ti_7, ti_8, ti_9, ti_10, ti_11, ti_12, ti_13, ti_14, ti_15, ti_16, ti_17, ti_18]
def qz_n0 : qz_N := ((⟨"", "", ""⟩, code, 0, none), (0, 0, 0, 0, 0))
/-- a method: name, bytes, places for locals, what it answers; frames, words, class, kind (0 static, 1 of an object, 2 a constructor), arguments -/
def qz_in (m : Nat) : qz_N := qz_gd qz_n0 (qz_gd [] ti_all (m / 16)) (m % 16)
/-- the words on a method that a call needs -/
def qz_vm (m : Nat) : Prop := Cond.code (qz_in m).1.1 (qz_in m).1.2.1 (qz_in m).1.2.2.1 (qz_in m).1.2.2.2 ∈ tables_1 ∧ Cond.initialized (qz_in m).1.1.cls ∈ tables_1 ∧ (plainName (qz_in m).1.1.cls = true ∨ (qz_in m).1.1.cls = "java/lang/Math") ∧
  ((qz_in m).1.1.cls ≠ "java/lang/invoke/MethodHandle" ∧ (qz_in m).1.1.cls ≠ "java/lang/invoke/VarHandle" ∧ (parseMethodDescriptor (qz_in m).1.1.desc).map (fun d => d.parameters.length) = some (qz_in m).2.2.2.2.2) ∧ (qz_in m).1.1.cls = qz_gd "" qz_on (qz_in m).2.2.2.1 ∧
  ((qz_in m).2.2.2.2.1 = 0 ∧ Cond.static (qz_in m).1.1 ∈ tables_1 ∨ (qz_in m).2.2.2.2.1 = 1 ∧ Cond.instanceMethod (qz_in m).1.1 ∈ tables_1 ∧ Cond.selects (qz_in m).1.1.cls (qz_in m).1.1 (qz_in m).1.1 ∈ lw_tbl ∨
    (qz_in m).2.2.2.2.1 = 2 ∧ Cond.instanceMethod (qz_in m).1.1 ∈ tables_1 ∧ (qz_in m).1.1.name = "<init>" ∧ (qz_in m).1.2.2.2 = none)
theorem vm_0 : qz_vm 0 := ⟨tm_1 (List.mem_of_getElem? (i := 47) (by decide +kernel)), tm_1 (List.mem_of_getElem? (i := 4) (by decide +kernel)), Or.inl (by decide +kernel), ⟨by decide +kernel, by decide +kernel, by decide +kernel⟩, by decide +kernel, Or.inr (Or.inr ⟨by decide +kernel, tm_1 (List.mem_of_getElem? (i := 46) (by decide +kernel)), by decide +kernel, by decide +kernel⟩)⟩
theorem vm_1 : qz_vm 1 := ⟨tm_1 (List.mem_of_getElem? (i := 41) (by decide +kernel)), tm_1 (List.mem_of_getElem? (i := 3) (by decide +kernel)), Or.inl (by decide +kernel), ⟨by decide +kernel, by decide +kernel, by decide +kernel⟩, by decide +kernel, Or.inr (Or.inr ⟨by decide +kernel, tm_1 (List.mem_of_getElem? (i := 40) (by decide +kernel)), by decide +kernel, by decide +kernel⟩)⟩
theorem vm_2 : qz_vm 2 := ⟨tm_1 (List.mem_of_getElem? (i := 34) (by decide +kernel)), tm_1 (List.mem_of_getElem? (i := 2) (by decide +kernel)), Or.inl (by decide +kernel), ⟨by decide +kernel, by decide +kernel, by decide +kernel⟩, by decide +kernel, Or.inr (Or.inr ⟨by decide +kernel, tm_1 (List.mem_of_getElem? (i := 33) (by decide +kernel)), by decide +kernel, by decide +kernel⟩)⟩
theorem vm_3 : qz_vm 3 := ⟨tm_1 (List.mem_of_getElem? (i := 187) (by decide +kernel)), tm_1 (List.mem_of_getElem? (i := 6) (by decide +kernel)), Or.inl (by decide +kernel), ⟨by decide +kernel, by decide +kernel, by decide +kernel⟩, by decide +kernel, Or.inr (Or.inr ⟨by decide +kernel, tm_1 (List.mem_of_getElem? (i := 186) (by decide +kernel)), by decide +kernel, by decide +kernel⟩)⟩
theorem vm_4 : qz_vm 4 := ⟨tm_1 (List.mem_of_getElem? (i := 181) (by decide +kernel)), tm_1 (List.mem_of_getElem? (i := 5) (by decide +kernel)), Or.inl (by decide +kernel), ⟨by decide +kernel, by decide +kernel, by decide +kernel⟩, by decide +kernel, Or.inr (Or.inr ⟨by decide +kernel, tm_1 (List.mem_of_getElem? (i := 180) (by decide +kernel)), by decide +kernel, by decide +kernel⟩)⟩
theorem vm_5 : qz_vm 5 := ⟨tm_2 (List.mem_of_getElem? (i := 3) (by decide +kernel)), tm_1 (List.mem_of_getElem? (i := 7) (by decide +kernel)), Or.inl (by decide +kernel), ⟨by decide +kernel, by decide +kernel, by decide +kernel⟩, by decide +kernel, Or.inr (Or.inr ⟨by decide +kernel, tm_2 (List.mem_of_getElem? (i := 2) (by decide +kernel)), by decide +kernel, by decide +kernel⟩)⟩
theorem vm_6 : qz_vm 6 := ⟨tm_2 (List.mem_of_getElem? (i := 45) (by decide +kernel)), tm_1 (List.mem_of_getElem? (i := 8) (by decide +kernel)), Or.inl (by decide +kernel), ⟨by decide +kernel, by decide +kernel, by decide +kernel⟩, by decide +kernel, Or.inr (Or.inr ⟨by decide +kernel, tm_2 (List.mem_of_getElem? (i := 44) (by decide +kernel)), by decide +kernel, by decide +kernel⟩)⟩
theorem vm_7 : qz_vm 7 := ⟨tm_2 (List.mem_of_getElem? (i := 79) (by decide +kernel)), tm_1 (List.mem_of_getElem? (i := 9) (by decide +kernel)), Or.inl (by decide +kernel), ⟨by decide +kernel, by decide +kernel, by decide +kernel⟩, by decide +kernel, Or.inr (Or.inr ⟨by decide +kernel, tm_2 (List.mem_of_getElem? (i := 78) (by decide +kernel)), by decide +kernel, by decide +kernel⟩)⟩
theorem vm_8 : qz_vm 8 := ⟨tm_2 (List.mem_of_getElem? (i := 99) (by decide +kernel)), tm_1 (List.mem_of_getElem? (i := 10) (by decide +kernel)), Or.inl (by decide +kernel), ⟨by decide +kernel, by decide +kernel, by decide +kernel⟩, by decide +kernel, Or.inr (Or.inr ⟨by decide +kernel, tm_2 (List.mem_of_getElem? (i := 98) (by decide +kernel)), by decide +kernel, by decide +kernel⟩)⟩
theorem vm_9 : qz_vm 9 := ⟨tm_2 (List.mem_of_getElem? (i := 115) (by decide +kernel)), tm_1 (List.mem_of_getElem? (i := 11) (by decide +kernel)), Or.inl (by decide +kernel), ⟨by decide +kernel, by decide +kernel, by decide +kernel⟩, by decide +kernel, Or.inr (Or.inr ⟨by decide +kernel, tm_2 (List.mem_of_getElem? (i := 114) (by decide +kernel)), by decide +kernel, by decide +kernel⟩)⟩
theorem vm_10 : qz_vm 10 := ⟨tm_2 (List.mem_of_getElem? (i := 143) (by decide +kernel)), tm_1 (List.mem_of_getElem? (i := 12) (by decide +kernel)), Or.inl (by decide +kernel), ⟨by decide +kernel, by decide +kernel, by decide +kernel⟩, by decide +kernel, Or.inr (Or.inr ⟨by decide +kernel, tm_2 (List.mem_of_getElem? (i := 142) (by decide +kernel)), by decide +kernel, by decide +kernel⟩)⟩
theorem vm_11 : qz_vm 11 := ⟨tm_1 (List.mem_of_getElem? (i := 26) (by decide +kernel)), tm_1 (List.mem_of_getElem? (i := 1) (by decide +kernel)), Or.inl (by decide +kernel), ⟨by decide +kernel, by decide +kernel, by decide +kernel⟩, by decide +kernel, Or.inr (Or.inr ⟨by decide +kernel, tm_1 (List.mem_of_getElem? (i := 25) (by decide +kernel)), by decide +kernel, by decide +kernel⟩)⟩
theorem vm_12 : qz_vm 12 := ⟨tm_6 (List.mem_of_getElem? (i := 25) (by decide +kernel)), tm_1 (List.mem_of_getElem? (i := 13) (by decide +kernel)), Or.inl (by decide +kernel), ⟨by decide +kernel, by decide +kernel, by decide +kernel⟩, by decide +kernel, Or.inr (Or.inr ⟨by decide +kernel, tm_6 (List.mem_of_getElem? (i := 24) (by decide +kernel)), by decide +kernel, by decide +kernel⟩)⟩
theorem vm_13 : qz_vm 13 := ⟨tm_2 (List.mem_of_getElem? (i := 224) (by decide +kernel)), tm_1 (List.mem_of_getElem? (i := 1) (by decide +kernel)), Or.inl (by decide +kernel), ⟨by decide +kernel, by decide +kernel, by decide +kernel⟩, by decide +kernel, Or.inr (Or.inl ⟨by decide +kernel, tm_2 (List.mem_of_getElem? (i := 223) (by decide +kernel)), List.mem_append_left _ (List.mem_of_getElem? (i := 0) (by decide +kernel))⟩)⟩
theorem vm_14 : qz_vm 14 := ⟨tm_2 (List.mem_of_getElem? (i := 220) (by decide +kernel)), tm_1 (List.mem_of_getElem? (i := 1) (by decide +kernel)), Or.inl (by decide +kernel), ⟨by decide +kernel, by decide +kernel, by decide +kernel⟩, by decide +kernel, Or.inr (Or.inl ⟨by decide +kernel, tm_2 (List.mem_of_getElem? (i := 218) (by decide +kernel)), List.mem_append_right _ (tm_2 (List.mem_of_getElem? (i := 219) (by decide +kernel)))⟩)⟩
theorem vm_15 : qz_vm 15 := ⟨tm_6 (List.mem_of_getElem? (i := 231) (by decide +kernel)), tm_1 (List.mem_of_getElem? (i := 13) (by decide +kernel)), Or.inl (by decide +kernel), ⟨by decide +kernel, by decide +kernel, by decide +kernel⟩, by decide +kernel, Or.inr (Or.inl ⟨by decide +kernel, tm_6 (List.mem_of_getElem? (i := 230) (by decide +kernel)), List.mem_append_left _ (List.mem_of_getElem? (i := 63) (by decide +kernel))⟩)⟩
theorem vm_16 : qz_vm 16 := ⟨tm_6 (List.mem_of_getElem? (i := 227) (by decide +kernel)), tm_1 (List.mem_of_getElem? (i := 13) (by decide +kernel)), Or.inl (by decide +kernel), ⟨by decide +kernel, by decide +kernel, by decide +kernel⟩, by decide +kernel, Or.inr (Or.inl ⟨by decide +kernel, tm_6 (List.mem_of_getElem? (i := 225) (by decide +kernel)), List.mem_append_right _ (tm_6 (List.mem_of_getElem? (i := 226) (by decide +kernel)))⟩)⟩
theorem vm_17 : qz_vm 17 := ⟨tm_3 (List.mem_of_getElem? (i := 6) (by decide +kernel)), tm_1 (List.mem_of_getElem? (i := 6) (by decide +kernel)), Or.inl (by decide +kernel), ⟨by decide +kernel, by decide +kernel, by decide +kernel⟩, by decide +kernel, Or.inl ⟨by decide +kernel, tm_3 (List.mem_of_getElem? (i := 5) (by decide +kernel))⟩⟩
theorem vm_18 : qz_vm 18 := ⟨tm_3 (List.mem_of_getElem? (i := 3) (by decide +kernel)), tm_1 (List.mem_of_getElem? (i := 6) (by decide +kernel)), Or.inl (by decide +kernel), ⟨by decide +kernel, by decide +kernel, by decide +kernel⟩, by decide +kernel, Or.inr (Or.inl ⟨by decide +kernel, tm_3 (List.mem_of_getElem? (i := 2) (by decide +kernel)), List.mem_append_left _ (List.mem_of_getElem? (i := 1) (by decide +kernel))⟩)⟩
theorem vm_19 : qz_vm 19 := ⟨tm_3 (List.mem_of_getElem? (i := 23) (by decide +kernel)), tm_1 (List.mem_of_getElem? (i := 15) (by decide +kernel)), Or.inl (by decide +kernel), ⟨by decide +kernel, by decide +kernel, by decide +kernel⟩, by decide +kernel, Or.inr (Or.inl ⟨by decide +kernel, tm_3 (List.mem_of_getElem? (i := 21) (by decide +kernel)), List.mem_append_right _ (tm_3 (List.mem_of_getElem? (i := 22) (by decide +kernel)))⟩)⟩
theorem vm_20 : qz_vm 20 := ⟨tm_3 (List.mem_of_getElem? (i := 19) (by decide +kernel)), tm_1 (List.mem_of_getElem? (i := 15) (by decide +kernel)), Or.inl (by decide +kernel), ⟨by decide +kernel, by decide +kernel, by decide +kernel⟩, by decide +kernel, Or.inr (Or.inl ⟨by decide +kernel, tm_3 (List.mem_of_getElem? (i := 17) (by decide +kernel)), List.mem_append_right _ (tm_3 (List.mem_of_getElem? (i := 18) (by decide +kernel)))⟩)⟩
theorem vm_21 : qz_vm 21 := ⟨tm_3 (List.mem_of_getElem? (i := 33) (by decide +kernel)), tm_1 (List.mem_of_getElem? (i := 15) (by decide +kernel)), Or.inl (by decide +kernel), ⟨by decide +kernel, by decide +kernel, by decide +kernel⟩, by decide +kernel, Or.inr (Or.inl ⟨by decide +kernel, tm_3 (List.mem_of_getElem? (i := 31) (by decide +kernel)), List.mem_append_right _ (tm_3 (List.mem_of_getElem? (i := 32) (by decide +kernel)))⟩)⟩
theorem vm_22 : qz_vm 22 := ⟨tm_3 (List.mem_of_getElem? (i := 36) (by decide +kernel)), tm_1 (List.mem_of_getElem? (i := 16) (by decide +kernel)), Or.inl (by decide +kernel), ⟨by decide +kernel, by decide +kernel, by decide +kernel⟩, by decide +kernel, Or.inl ⟨by decide +kernel, tm_3 (List.mem_of_getElem? (i := 35) (by decide +kernel))⟩⟩
theorem vm_23 : qz_vm 23 := ⟨tm_3 (List.mem_of_getElem? (i := 29) (by decide +kernel)), tm_1 (List.mem_of_getElem? (i := 15) (by decide +kernel)), Or.inl (by decide +kernel), ⟨by decide +kernel, by decide +kernel, by decide +kernel⟩, by decide +kernel, Or.inr (Or.inl ⟨by decide +kernel, tm_3 (List.mem_of_getElem? (i := 27) (by decide +kernel)), List.mem_append_right _ (tm_3 (List.mem_of_getElem? (i := 28) (by decide +kernel)))⟩)⟩
theorem vm_24 : qz_vm 24 := ⟨tm_3 (List.mem_of_getElem? (i := 67) (by decide +kernel)), tm_1 (List.mem_of_getElem? (i := 6) (by decide +kernel)), Or.inl (by decide +kernel), ⟨by decide +kernel, by decide +kernel, by decide +kernel⟩, by decide +kernel, Or.inr (Or.inl ⟨by decide +kernel, tm_3 (List.mem_of_getElem? (i := 66) (by decide +kernel)), List.mem_append_left _ (List.mem_of_getElem? (i := 4) (by decide +kernel))⟩)⟩
theorem vm_25 : qz_vm 25 := ⟨tm_3 (List.mem_of_getElem? (i := 14) (by decide +kernel)), tm_1 (List.mem_of_getElem? (i := 6) (by decide +kernel)), Or.inl (by decide +kernel), ⟨by decide +kernel, by decide +kernel, by decide +kernel⟩, by decide +kernel, Or.inr (Or.inl ⟨by decide +kernel, tm_3 (List.mem_of_getElem? (i := 13) (by decide +kernel)), List.mem_append_left _ (List.mem_of_getElem? (i := 3) (by decide +kernel))⟩)⟩
theorem vm_26 : qz_vm 26 := ⟨tm_3 (List.mem_of_getElem? (i := 71) (by decide +kernel)), tm_1 (List.mem_of_getElem? (i := 6) (by decide +kernel)), Or.inl (by decide +kernel), ⟨by decide +kernel, by decide +kernel, by decide +kernel⟩, by decide +kernel, Or.inr (Or.inl ⟨by decide +kernel, tm_3 (List.mem_of_getElem? (i := 70) (by decide +kernel)), List.mem_append_left _ (List.mem_of_getElem? (i := 5) (by decide +kernel))⟩)⟩
theorem vm_27 : qz_vm 27 := ⟨tm_3 (List.mem_of_getElem? (i := 10) (by decide +kernel)), tm_1 (List.mem_of_getElem? (i := 6) (by decide +kernel)), Or.inl (by decide +kernel), ⟨by decide +kernel, by decide +kernel, by decide +kernel⟩, by decide +kernel, Or.inr (Or.inl ⟨by decide +kernel, tm_3 (List.mem_of_getElem? (i := 9) (by decide +kernel)), List.mem_append_left _ (List.mem_of_getElem? (i := 2) (by decide +kernel))⟩)⟩
theorem vm_28 : qz_vm 28 := ⟨tm_2 (List.mem_of_getElem? (i := 236) (by decide +kernel)), tm_1 (List.mem_of_getElem? (i := 6) (by decide +kernel)), Or.inl (by decide +kernel), ⟨by decide +kernel, by decide +kernel, by decide +kernel⟩, by decide +kernel, Or.inr (Or.inl ⟨by decide +kernel, tm_2 (List.mem_of_getElem? (i := 234) (by decide +kernel)), List.mem_append_right _ (tm_2 (List.mem_of_getElem? (i := 235) (by decide +kernel)))⟩)⟩
theorem vm_29 : qz_vm 29 := ⟨tm_3 (List.mem_of_getElem? (i := 79) (by decide +kernel)), tm_1 (List.mem_of_getElem? (i := 5) (by decide +kernel)), Or.inl (by decide +kernel), ⟨by decide +kernel, by decide +kernel, by decide +kernel⟩, by decide +kernel, Or.inr (Or.inl ⟨by decide +kernel, tm_3 (List.mem_of_getElem? (i := 78) (by decide +kernel)), List.mem_append_left _ (List.mem_of_getElem? (i := 7) (by decide +kernel))⟩)⟩
theorem vm_30 : qz_vm 30 := ⟨tm_3 (List.mem_of_getElem? (i := 83) (by decide +kernel)), tm_1 (List.mem_of_getElem? (i := 5) (by decide +kernel)), Or.inl (by decide +kernel), ⟨by decide +kernel, by decide +kernel, by decide +kernel⟩, by decide +kernel, Or.inr (Or.inl ⟨by decide +kernel, tm_3 (List.mem_of_getElem? (i := 82) (by decide +kernel)), List.mem_append_left _ (List.mem_of_getElem? (i := 8) (by decide +kernel))⟩)⟩
theorem vm_31 : qz_vm 31 := ⟨tm_3 (List.mem_of_getElem? (i := 90) (by decide +kernel)), tm_1 (List.mem_of_getElem? (i := 19) (by decide +kernel)), Or.inl (by decide +kernel), ⟨by decide +kernel, by decide +kernel, by decide +kernel⟩, by decide +kernel, Or.inl ⟨by decide +kernel, tm_3 (List.mem_of_getElem? (i := 89) (by decide +kernel))⟩⟩
theorem vm_32 : qz_vm 32 := ⟨tm_3 (List.mem_of_getElem? (i := 94) (by decide +kernel)), tm_1 (List.mem_of_getElem? (i := 4) (by decide +kernel)), Or.inl (by decide +kernel), ⟨by decide +kernel, by decide +kernel, by decide +kernel⟩, by decide +kernel, Or.inr (Or.inl ⟨by decide +kernel, tm_3 (List.mem_of_getElem? (i := 92) (by decide +kernel)), List.mem_append_right _ (tm_3 (List.mem_of_getElem? (i := 93) (by decide +kernel)))⟩)⟩
theorem vm_33 : qz_vm 33 := ⟨tm_3 (List.mem_of_getElem? (i := 87) (by decide +kernel)), tm_1 (List.mem_of_getElem? (i := 3) (by decide +kernel)), Or.inl (by decide +kernel), ⟨by decide +kernel, by decide +kernel, by decide +kernel⟩, by decide +kernel, Or.inr (Or.inl ⟨by decide +kernel, tm_3 (List.mem_of_getElem? (i := 85) (by decide +kernel)), List.mem_append_right _ (tm_3 (List.mem_of_getElem? (i := 86) (by decide +kernel)))⟩)⟩
theorem vm_34 : qz_vm 34 := ⟨tm_3 (List.mem_of_getElem? (i := 99) (by decide +kernel)), tm_1 (List.mem_of_getElem? (i := 5) (by decide +kernel)), Or.inl (by decide +kernel), ⟨by decide +kernel, by decide +kernel, by decide +kernel⟩, by decide +kernel, Or.inr (Or.inl ⟨by decide +kernel, tm_3 (List.mem_of_getElem? (i := 98) (by decide +kernel)), List.mem_append_left _ (List.mem_of_getElem? (i := 9) (by decide +kernel))⟩)⟩
theorem vm_35 : qz_vm 35 := ⟨tm_3 (List.mem_of_getElem? (i := 75) (by decide +kernel)), tm_1 (List.mem_of_getElem? (i := 5) (by decide +kernel)), Or.inl (by decide +kernel), ⟨by decide +kernel, by decide +kernel, by decide +kernel⟩, by decide +kernel, Or.inr (Or.inl ⟨by decide +kernel, tm_3 (List.mem_of_getElem? (i := 74) (by decide +kernel)), List.mem_append_left _ (List.mem_of_getElem? (i := 6) (by decide +kernel))⟩)⟩
theorem vm_36 : qz_vm 36 := ⟨tm_3 (List.mem_of_getElem? (i := 111) (by decide +kernel)), tm_1 (List.mem_of_getElem? (i := 5) (by decide +kernel)), Or.inl (by decide +kernel), ⟨by decide +kernel, by decide +kernel, by decide +kernel⟩, by decide +kernel, Or.inr (Or.inl ⟨by decide +kernel, tm_3 (List.mem_of_getElem? (i := 110) (by decide +kernel)), List.mem_append_left _ (List.mem_of_getElem? (i := 12) (by decide +kernel))⟩)⟩
theorem vm_37 : qz_vm 37 := ⟨tm_3 (List.mem_of_getElem? (i := 107) (by decide +kernel)), tm_1 (List.mem_of_getElem? (i := 5) (by decide +kernel)), Or.inl (by decide +kernel), ⟨by decide +kernel, by decide +kernel, by decide +kernel⟩, by decide +kernel, Or.inr (Or.inl ⟨by decide +kernel, tm_3 (List.mem_of_getElem? (i := 106) (by decide +kernel)), List.mem_append_left _ (List.mem_of_getElem? (i := 11) (by decide +kernel))⟩)⟩
theorem vm_38 : qz_vm 38 := ⟨tm_3 (List.mem_of_getElem? (i := 119) (by decide +kernel)), tm_1 (List.mem_of_getElem? (i := 5) (by decide +kernel)), Or.inl (by decide +kernel), ⟨by decide +kernel, by decide +kernel, by decide +kernel⟩, by decide +kernel, Or.inr (Or.inl ⟨by decide +kernel, tm_3 (List.mem_of_getElem? (i := 118) (by decide +kernel)), List.mem_append_left _ (List.mem_of_getElem? (i := 14) (by decide +kernel))⟩)⟩
theorem vm_39 : qz_vm 39 := ⟨tm_3 (List.mem_of_getElem? (i := 125) (by decide +kernel)), tm_1 (List.mem_of_getElem? (i := 5) (by decide +kernel)), Or.inl (by decide +kernel), ⟨by decide +kernel, by decide +kernel, by decide +kernel⟩, by decide +kernel, Or.inr (Or.inl ⟨by decide +kernel, tm_3 (List.mem_of_getElem? (i := 124) (by decide +kernel)), List.mem_append_left _ (List.mem_of_getElem? (i := 15) (by decide +kernel))⟩)⟩
theorem vm_40 : qz_vm 40 := ⟨tm_3 (List.mem_of_getElem? (i := 129) (by decide +kernel)), tm_1 (List.mem_of_getElem? (i := 3) (by decide +kernel)), Or.inl (by decide +kernel), ⟨by decide +kernel, by decide +kernel, by decide +kernel⟩, by decide +kernel, Or.inr (Or.inl ⟨by decide +kernel, tm_3 (List.mem_of_getElem? (i := 127) (by decide +kernel)), List.mem_append_right _ (tm_3 (List.mem_of_getElem? (i := 128) (by decide +kernel)))⟩)⟩
theorem vm_41 : qz_vm 41 := ⟨tm_3 (List.mem_of_getElem? (i := 133) (by decide +kernel)), tm_1 (List.mem_of_getElem? (i := 3) (by decide +kernel)), Or.inl (by decide +kernel), ⟨by decide +kernel, by decide +kernel, by decide +kernel⟩, by decide +kernel, Or.inr (Or.inl ⟨by decide +kernel, tm_3 (List.mem_of_getElem? (i := 131) (by decide +kernel)), List.mem_append_right _ (tm_3 (List.mem_of_getElem? (i := 132) (by decide +kernel)))⟩)⟩
theorem vm_42 : qz_vm 42 := ⟨tm_3 (List.mem_of_getElem? (i := 115) (by decide +kernel)), tm_1 (List.mem_of_getElem? (i := 5) (by decide +kernel)), Or.inl (by decide +kernel), ⟨by decide +kernel, by decide +kernel, by decide +kernel⟩, by decide +kernel, Or.inr (Or.inl ⟨by decide +kernel, tm_3 (List.mem_of_getElem? (i := 114) (by decide +kernel)), List.mem_append_left _ (List.mem_of_getElem? (i := 13) (by decide +kernel))⟩)⟩
theorem vm_43 : qz_vm 43 := ⟨tm_3 (List.mem_of_getElem? (i := 141) (by decide +kernel)), tm_1 (List.mem_of_getElem? (i := 5) (by decide +kernel)), Or.inl (by decide +kernel), ⟨by decide +kernel, by decide +kernel, by decide +kernel⟩, by decide +kernel, Or.inr (Or.inl ⟨by decide +kernel, tm_3 (List.mem_of_getElem? (i := 140) (by decide +kernel)), List.mem_append_left _ (List.mem_of_getElem? (i := 17) (by decide +kernel))⟩)⟩
theorem vm_44 : qz_vm 44 := ⟨tm_3 (List.mem_of_getElem? (i := 148) (by decide +kernel)), tm_1 (List.mem_of_getElem? (i := 1) (by decide +kernel)), Or.inl (by decide +kernel), ⟨by decide +kernel, by decide +kernel, by decide +kernel⟩, by decide +kernel, Or.inl ⟨by decide +kernel, tm_3 (List.mem_of_getElem? (i := 147) (by decide +kernel))⟩⟩
theorem vm_45 : qz_vm 45 := ⟨tm_3 (List.mem_of_getElem? (i := 151) (by decide +kernel)), tm_1 (List.mem_of_getElem? (i := 1) (by decide +kernel)), Or.inl (by decide +kernel), ⟨by decide +kernel, by decide +kernel, by decide +kernel⟩, by decide +kernel, Or.inl ⟨by decide +kernel, tm_3 (List.mem_of_getElem? (i := 150) (by decide +kernel))⟩⟩
theorem vm_46 : qz_vm 46 := ⟨tm_3 (List.mem_of_getElem? (i := 159) (by decide +kernel)), tm_1 (List.mem_of_getElem? (i := 3) (by decide +kernel)), Or.inl (by decide +kernel), ⟨by decide +kernel, by decide +kernel, by decide +kernel⟩, by decide +kernel, Or.inr (Or.inl ⟨by decide +kernel, tm_3 (List.mem_of_getElem? (i := 157) (by decide +kernel)), List.mem_append_right _ (tm_3 (List.mem_of_getElem? (i := 158) (by decide +kernel)))⟩)⟩
theorem vm_47 : qz_vm 47 := ⟨tm_3 (List.mem_of_getElem? (i := 155) (by decide +kernel)), tm_1 (List.mem_of_getElem? (i := 3) (by decide +kernel)), Or.inl (by decide +kernel), ⟨by decide +kernel, by decide +kernel, by decide +kernel⟩, by decide +kernel, Or.inr (Or.inl ⟨by decide +kernel, tm_3 (List.mem_of_getElem? (i := 153) (by decide +kernel)), List.mem_append_right _ (tm_3 (List.mem_of_getElem? (i := 154) (by decide +kernel)))⟩)⟩
theorem vm_48 : qz_vm 48 := ⟨tm_3 (List.mem_of_getElem? (i := 145) (by decide +kernel)), tm_1 (List.mem_of_getElem? (i := 3) (by decide +kernel)), Or.inl (by decide +kernel), ⟨by decide +kernel, by decide +kernel, by decide +kernel⟩, by decide +kernel, Or.inr (Or.inl ⟨by decide +kernel, tm_3 (List.mem_of_getElem? (i := 143) (by decide +kernel)), List.mem_append_right _ (tm_3 (List.mem_of_getElem? (i := 144) (by decide +kernel)))⟩)⟩
theorem vm_49 : qz_vm 49 := ⟨tm_3 (List.mem_of_getElem? (i := 137) (by decide +kernel)), tm_1 (List.mem_of_getElem? (i := 5) (by decide +kernel)), Or.inl (by decide +kernel), ⟨by decide +kernel, by decide +kernel, by decide +kernel⟩, by decide +kernel, Or.inr (Or.inl ⟨by decide +kernel, tm_3 (List.mem_of_getElem? (i := 136) (by decide +kernel)), List.mem_append_left _ (List.mem_of_getElem? (i := 16) (by decide +kernel))⟩)⟩
theorem vm_50 : qz_vm 50 := ⟨tm_3 (List.mem_of_getElem? (i := 167) (by decide +kernel)), tm_1 (List.mem_of_getElem? (i := 5) (by decide +kernel)), Or.inl (by decide +kernel), ⟨by decide +kernel, by decide +kernel, by decide +kernel⟩, by decide +kernel, Or.inr (Or.inl ⟨by decide +kernel, tm_3 (List.mem_of_getElem? (i := 166) (by decide +kernel)), List.mem_append_left _ (List.mem_of_getElem? (i := 19) (by decide +kernel))⟩)⟩
theorem vm_51 : qz_vm 51 := ⟨tm_3 (List.mem_of_getElem? (i := 163) (by decide +kernel)), tm_1 (List.mem_of_getElem? (i := 5) (by decide +kernel)), Or.inl (by decide +kernel), ⟨by decide +kernel, by decide +kernel, by decide +kernel⟩, by decide +kernel, Or.inr (Or.inl ⟨by decide +kernel, tm_3 (List.mem_of_getElem? (i := 162) (by decide +kernel)), List.mem_append_left _ (List.mem_of_getElem? (i := 18) (by decide +kernel))⟩)⟩
theorem vm_52 : qz_vm 52 := ⟨tm_3 (List.mem_of_getElem? (i := 175) (by decide +kernel)), tm_1 (List.mem_of_getElem? (i := 3) (by decide +kernel)), Or.inl (by decide +kernel), ⟨by decide +kernel, by decide +kernel, by decide +kernel⟩, by decide +kernel, Or.inr (Or.inl ⟨by decide +kernel, tm_3 (List.mem_of_getElem? (i := 173) (by decide +kernel)), List.mem_append_right _ (tm_3 (List.mem_of_getElem? (i := 174) (by decide +kernel)))⟩)⟩
theorem vm_53 : qz_vm 53 := ⟨tm_3 (List.mem_of_getElem? (i := 171) (by decide +kernel)), tm_1 (List.mem_of_getElem? (i := 5) (by decide +kernel)), Or.inl (by decide +kernel), ⟨by decide +kernel, by decide +kernel, by decide +kernel⟩, by decide +kernel, Or.inr (Or.inl ⟨by decide +kernel, tm_3 (List.mem_of_getElem? (i := 170) (by decide +kernel)), List.mem_append_left _ (List.mem_of_getElem? (i := 20) (by decide +kernel))⟩)⟩
theorem vm_54 : qz_vm 54 := ⟨tm_3 (List.mem_of_getElem? (i := 179) (by decide +kernel)), tm_1 (List.mem_of_getElem? (i := 5) (by decide +kernel)), Or.inl (by decide +kernel), ⟨by decide +kernel, by decide +kernel, by decide +kernel⟩, by decide +kernel, Or.inr (Or.inl ⟨by decide +kernel, tm_3 (List.mem_of_getElem? (i := 178) (by decide +kernel)), List.mem_append_left _ (List.mem_of_getElem? (i := 21) (by decide +kernel))⟩)⟩
theorem vm_55 : qz_vm 55 := ⟨tm_3 (List.mem_of_getElem? (i := 183) (by decide +kernel)), tm_1 (List.mem_of_getElem? (i := 5) (by decide +kernel)), Or.inl (by decide +kernel), ⟨by decide +kernel, by decide +kernel, by decide +kernel⟩, by decide +kernel, Or.inr (Or.inl ⟨by decide +kernel, tm_3 (List.mem_of_getElem? (i := 182) (by decide +kernel)), List.mem_append_left _ (List.mem_of_getElem? (i := 22) (by decide +kernel))⟩)⟩
theorem vm_56 : qz_vm 56 := ⟨tm_3 (List.mem_of_getElem? (i := 195) (by decide +kernel)), tm_1 (List.mem_of_getElem? (i := 4) (by decide +kernel)), Or.inl (by decide +kernel), ⟨by decide +kernel, by decide +kernel, by decide +kernel⟩, by decide +kernel, Or.inr (Or.inl ⟨by decide +kernel, tm_3 (List.mem_of_getElem? (i := 193) (by decide +kernel)), List.mem_append_right _ (tm_3 (List.mem_of_getElem? (i := 194) (by decide +kernel)))⟩)⟩
theorem vm_57 : qz_vm 57 := ⟨tm_3 (List.mem_of_getElem? (i := 207) (by decide +kernel)), tm_1 (List.mem_of_getElem? (i := 4) (by decide +kernel)), Or.inl (by decide +kernel), ⟨by decide +kernel, by decide +kernel, by decide +kernel⟩, by decide +kernel, Or.inr (Or.inl ⟨by decide +kernel, tm_3 (List.mem_of_getElem? (i := 205) (by decide +kernel)), List.mem_append_right _ (tm_3 (List.mem_of_getElem? (i := 206) (by decide +kernel)))⟩)⟩
theorem vm_58 : qz_vm 58 := ⟨tm_3 (List.mem_of_getElem? (i := 199) (by decide +kernel)), tm_1 (List.mem_of_getElem? (i := 3) (by decide +kernel)), Or.inl (by decide +kernel), ⟨by decide +kernel, by decide +kernel, by decide +kernel⟩, by decide +kernel, Or.inr (Or.inl ⟨by decide +kernel, tm_3 (List.mem_of_getElem? (i := 197) (by decide +kernel)), List.mem_append_right _ (tm_3 (List.mem_of_getElem? (i := 198) (by decide +kernel)))⟩)⟩
theorem vm_59 : qz_vm 59 := ⟨tm_3 (List.mem_of_getElem? (i := 191) (by decide +kernel)), tm_1 (List.mem_of_getElem? (i := 5) (by decide +kernel)), Or.inl (by decide +kernel), ⟨by decide +kernel, by decide +kernel, by decide +kernel⟩, by decide +kernel, Or.inr (Or.inl ⟨by decide +kernel, tm_3 (List.mem_of_getElem? (i := 190) (by decide +kernel)), List.mem_append_left _ (List.mem_of_getElem? (i := 24) (by decide +kernel))⟩)⟩
theorem vm_60 : qz_vm 60 := ⟨tm_3 (List.mem_of_getElem? (i := 211) (by decide +kernel)), tm_1 (List.mem_of_getElem? (i := 5) (by decide +kernel)), Or.inl (by decide +kernel), ⟨by decide +kernel, by decide +kernel, by decide +kernel⟩, by decide +kernel, Or.inr (Or.inl ⟨by decide +kernel, tm_3 (List.mem_of_getElem? (i := 210) (by decide +kernel)), List.mem_append_left _ (List.mem_of_getElem? (i := 25) (by decide +kernel))⟩)⟩
theorem vm_61 : qz_vm 61 := ⟨tm_3 (List.mem_of_getElem? (i := 217) (by decide +kernel)), tm_1 (List.mem_of_getElem? (i := 5) (by decide +kernel)), Or.inl (by decide +kernel), ⟨by decide +kernel, by decide +kernel, by decide +kernel⟩, by decide +kernel, Or.inr (Or.inl ⟨by decide +kernel, tm_3 (List.mem_of_getElem? (i := 216) (by decide +kernel)), List.mem_append_left _ (List.mem_of_getElem? (i := 26) (by decide +kernel))⟩)⟩
theorem vm_62 : qz_vm 62 := ⟨tm_3 (List.mem_of_getElem? (i := 233) (by decide +kernel)), tm_1 (List.mem_of_getElem? (i := 20) (by decide +kernel)), Or.inl (by decide +kernel), ⟨by decide +kernel, by decide +kernel, by decide +kernel⟩, by decide +kernel, Or.inl ⟨by decide +kernel, tm_3 (List.mem_of_getElem? (i := 232) (by decide +kernel))⟩⟩
theorem vm_63 : qz_vm 63 := ⟨tm_3 (List.mem_of_getElem? (i := 230) (by decide +kernel)), tm_1 (List.mem_of_getElem? (i := 4) (by decide +kernel)), Or.inl (by decide +kernel), ⟨by decide +kernel, by decide +kernel, by decide +kernel⟩, by decide +kernel, Or.inr (Or.inl ⟨by decide +kernel, tm_3 (List.mem_of_getElem? (i := 228) (by decide +kernel)), List.mem_append_right _ (tm_3 (List.mem_of_getElem? (i := 229) (by decide +kernel)))⟩)⟩
theorem vm_64 : qz_vm 64 := ⟨tm_3 (List.mem_of_getElem? (i := 226) (by decide +kernel)), tm_1 (List.mem_of_getElem? (i := 4) (by decide +kernel)), Or.inl (by decide +kernel), ⟨by decide +kernel, by decide +kernel, by decide +kernel⟩, by decide +kernel, Or.inr (Or.inl ⟨by decide +kernel, tm_3 (List.mem_of_getElem? (i := 224) (by decide +kernel)), List.mem_append_right _ (tm_3 (List.mem_of_getElem? (i := 225) (by decide +kernel)))⟩)⟩
theorem vm_65 : qz_vm 65 := ⟨tm_3 (List.mem_of_getElem? (i := 221) (by decide +kernel)), tm_1 (List.mem_of_getElem? (i := 5) (by decide +kernel)), Or.inl (by decide +kernel), ⟨by decide +kernel, by decide +kernel, by decide +kernel⟩, by decide +kernel, Or.inr (Or.inl ⟨by decide +kernel, tm_3 (List.mem_of_getElem? (i := 220) (by decide +kernel)), List.mem_append_left _ (List.mem_of_getElem? (i := 27) (by decide +kernel))⟩)⟩
theorem vm_66 : qz_vm 66 := ⟨tm_4 (List.mem_of_getElem? (i := 0) (by decide +kernel)), tm_1 (List.mem_of_getElem? (i := 4) (by decide +kernel)), Or.inl (by decide +kernel), ⟨by decide +kernel, by decide +kernel, by decide +kernel⟩, by decide +kernel, Or.inr (Or.inl ⟨by decide +kernel, tm_3 (List.mem_of_getElem? (i := 238) (by decide +kernel)), List.mem_append_right _ (tm_3 (List.mem_of_getElem? (i := 239) (by decide +kernel)))⟩)⟩
theorem vm_67 : qz_vm 67 := ⟨tm_3 (List.mem_of_getElem? (i := 187) (by decide +kernel)), tm_1 (List.mem_of_getElem? (i := 5) (by decide +kernel)), Or.inl (by decide +kernel), ⟨by decide +kernel, by decide +kernel, by decide +kernel⟩, by decide +kernel, Or.inr (Or.inl ⟨by decide +kernel, tm_3 (List.mem_of_getElem? (i := 186) (by decide +kernel)), List.mem_append_left _ (List.mem_of_getElem? (i := 23) (by decide +kernel))⟩)⟩
theorem vm_68 : qz_vm 68 := ⟨tm_3 (List.mem_of_getElem? (i := 103) (by decide +kernel)), tm_1 (List.mem_of_getElem? (i := 5) (by decide +kernel)), Or.inl (by decide +kernel), ⟨by decide +kernel, by decide +kernel, by decide +kernel⟩, by decide +kernel, Or.inr (Or.inl ⟨by decide +kernel, tm_3 (List.mem_of_getElem? (i := 102) (by decide +kernel)), List.mem_append_left _ (List.mem_of_getElem? (i := 10) (by decide +kernel))⟩)⟩
theorem vm_69 : qz_vm 69 := ⟨tm_2 (List.mem_of_getElem? (i := 232) (by decide +kernel)), tm_1 (List.mem_of_getElem? (i := 5) (by decide +kernel)), Or.inl (by decide +kernel), ⟨by decide +kernel, by decide +kernel, by decide +kernel⟩, by decide +kernel, Or.inr (Or.inl ⟨by decide +kernel, tm_2 (List.mem_of_getElem? (i := 230) (by decide +kernel)), List.mem_append_right _ (tm_2 (List.mem_of_getElem? (i := 231) (by decide +kernel)))⟩)⟩
theorem vm_70 : qz_vm 70 := ⟨tm_4 (List.mem_of_getElem? (i := 4) (by decide +kernel)), tm_1 (List.mem_of_getElem? (i := 5) (by decide +kernel)), Or.inl (by decide +kernel), ⟨by decide +kernel, by decide +kernel, by decide +kernel⟩, by decide +kernel, Or.inr (Or.inl ⟨by decide +kernel, tm_4 (List.mem_of_getElem? (i := 2) (by decide +kernel)), List.mem_append_right _ (tm_4 (List.mem_of_getElem? (i := 3) (by decide +kernel)))⟩)⟩
theorem vm_71 : qz_vm 71 := ⟨tm_2 (List.mem_of_getElem? (i := 228) (by decide +kernel)), tm_1 (List.mem_of_getElem? (i := 1) (by decide +kernel)), Or.inl (by decide +kernel), ⟨by decide +kernel, by decide +kernel, by decide +kernel⟩, by decide +kernel, Or.inr (Or.inl ⟨by decide +kernel, tm_2 (List.mem_of_getElem? (i := 226) (by decide +kernel)), List.mem_append_right _ (tm_2 (List.mem_of_getElem? (i := 227) (by decide +kernel)))⟩)⟩
theorem vm_72 : qz_vm 72 := ⟨tm_6 (List.mem_of_getElem? (i := 238) (by decide +kernel)), tm_1 (List.mem_of_getElem? (i := 13) (by decide +kernel)), Or.inl (by decide +kernel), ⟨by decide +kernel, by decide +kernel, by decide +kernel⟩, by decide +kernel, Or.inl ⟨by decide +kernel, tm_6 (List.mem_of_getElem? (i := 237) (by decide +kernel))⟩⟩
theorem vm_73 : qz_vm 73 := ⟨tm_7 (List.mem_of_getElem? (i := 2) (by decide +kernel)), tm_1 (List.mem_of_getElem? (i := 13) (by decide +kernel)), Or.inl (by decide +kernel), ⟨by decide +kernel, by decide +kernel, by decide +kernel⟩, by decide +kernel, Or.inr (Or.inl ⟨by decide +kernel, tm_7 (List.mem_of_getElem? (i := 1) (by decide +kernel)), List.mem_append_left _ (List.mem_of_getElem? (i := 64) (by decide +kernel))⟩)⟩
theorem vm_74 : qz_vm 74 := ⟨tm_7 (List.mem_of_getElem? (i := 10) (by decide +kernel)), tm_1 (List.mem_of_getElem? (i := 13) (by decide +kernel)), Or.inl (by decide +kernel), ⟨by decide +kernel, by decide +kernel, by decide +kernel⟩, by decide +kernel, Or.inr (Or.inl ⟨by decide +kernel, tm_7 (List.mem_of_getElem? (i := 9) (by decide +kernel)), List.mem_append_left _ (List.mem_of_getElem? (i := 66) (by decide +kernel))⟩)⟩
theorem vm_75 : qz_vm 75 := ⟨tm_7 (List.mem_of_getElem? (i := 23) (by decide +kernel)), tm_1 (List.mem_of_getElem? (i := 13) (by decide +kernel)), Or.inl (by decide +kernel), ⟨by decide +kernel, by decide +kernel, by decide +kernel⟩, by decide +kernel, Or.inr (Or.inl ⟨by decide +kernel, tm_7 (List.mem_of_getElem? (i := 22) (by decide +kernel)), List.mem_append_left _ (List.mem_of_getElem? (i := 69) (by decide +kernel))⟩)⟩
theorem vm_76 : qz_vm 76 := ⟨tm_7 (List.mem_of_getElem? (i := 19) (by decide +kernel)), tm_1 (List.mem_of_getElem? (i := 13) (by decide +kernel)), Or.inl (by decide +kernel), ⟨by decide +kernel, by decide +kernel, by decide +kernel⟩, by decide +kernel, Or.inr (Or.inl ⟨by decide +kernel, tm_7 (List.mem_of_getElem? (i := 18) (by decide +kernel)), List.mem_append_left _ (List.mem_of_getElem? (i := 68) (by decide +kernel))⟩)⟩
theorem vm_77 : qz_vm 77 := ⟨tm_7 (List.mem_of_getElem? (i := 15) (by decide +kernel)), tm_1 (List.mem_of_getElem? (i := 13) (by decide +kernel)), Or.inl (by decide +kernel), ⟨by decide +kernel, by decide +kernel, by decide +kernel⟩, by decide +kernel, Or.inr (Or.inl ⟨by decide +kernel, tm_7 (List.mem_of_getElem? (i := 14) (by decide +kernel)), List.mem_append_left _ (List.mem_of_getElem? (i := 67) (by decide +kernel))⟩)⟩
theorem vm_78 : qz_vm 78 := ⟨tm_7 (List.mem_of_getElem? (i := 27) (by decide +kernel)), tm_1 (List.mem_of_getElem? (i := 13) (by decide +kernel)), Or.inl (by decide +kernel), ⟨by decide +kernel, by decide +kernel, by decide +kernel⟩, by decide +kernel, Or.inr (Or.inl ⟨by decide +kernel, tm_7 (List.mem_of_getElem? (i := 26) (by decide +kernel)), List.mem_append_left _ (List.mem_of_getElem? (i := 70) (by decide +kernel))⟩)⟩
theorem vm_79 : qz_vm 79 := ⟨tm_7 (List.mem_of_getElem? (i := 31) (by decide +kernel)), tm_1 (List.mem_of_getElem? (i := 13) (by decide +kernel)), Or.inl (by decide +kernel), ⟨by decide +kernel, by decide +kernel, by decide +kernel⟩, by decide +kernel, Or.inr (Or.inl ⟨by decide +kernel, tm_7 (List.mem_of_getElem? (i := 30) (by decide +kernel)), List.mem_append_left _ (List.mem_of_getElem? (i := 71) (by decide +kernel))⟩)⟩
theorem vm_80 : qz_vm 80 := ⟨tm_7 (List.mem_of_getElem? (i := 35) (by decide +kernel)), tm_1 (List.mem_of_getElem? (i := 13) (by decide +kernel)), Or.inl (by decide +kernel), ⟨by decide +kernel, by decide +kernel, by decide +kernel⟩, by decide +kernel, Or.inr (Or.inl ⟨by decide +kernel, tm_7 (List.mem_of_getElem? (i := 34) (by decide +kernel)), List.mem_append_left _ (List.mem_of_getElem? (i := 72) (by decide +kernel))⟩)⟩
theorem vm_81 : qz_vm 81 := ⟨tm_7 (List.mem_of_getElem? (i := 48) (by decide +kernel)), tm_1 (List.mem_of_getElem? (i := 13) (by decide +kernel)), Or.inl (by decide +kernel), ⟨by decide +kernel, by decide +kernel, by decide +kernel⟩, by decide +kernel, Or.inr (Or.inl ⟨by decide +kernel, tm_7 (List.mem_of_getElem? (i := 47) (by decide +kernel)), List.mem_append_left _ (List.mem_of_getElem? (i := 75) (by decide +kernel))⟩)⟩
theorem vm_82 : qz_vm 82 := ⟨tm_7 (List.mem_of_getElem? (i := 52) (by decide +kernel)), tm_1 (List.mem_of_getElem? (i := 13) (by decide +kernel)), Or.inl (by decide +kernel), ⟨by decide +kernel, by decide +kernel, by decide +kernel⟩, by decide +kernel, Or.inr (Or.inl ⟨by decide +kernel, tm_7 (List.mem_of_getElem? (i := 51) (by decide +kernel)), List.mem_append_left _ (List.mem_of_getElem? (i := 76) (by decide +kernel))⟩)⟩
theorem vm_83 : qz_vm 83 := ⟨tm_7 (List.mem_of_getElem? (i := 56) (by decide +kernel)), tm_1 (List.mem_of_getElem? (i := 13) (by decide +kernel)), Or.inl (by decide +kernel), ⟨by decide +kernel, by decide +kernel, by decide +kernel⟩, by decide +kernel, Or.inr (Or.inl ⟨by decide +kernel, tm_7 (List.mem_of_getElem? (i := 55) (by decide +kernel)), List.mem_append_left _ (List.mem_of_getElem? (i := 77) (by decide +kernel))⟩)⟩
theorem vm_84 : qz_vm 84 := ⟨tm_7 (List.mem_of_getElem? (i := 59) (by decide +kernel)), tm_1 (List.mem_of_getElem? (i := 13) (by decide +kernel)), Or.inl (by decide +kernel), ⟨by decide +kernel, by decide +kernel, by decide +kernel⟩, by decide +kernel, Or.inl ⟨by decide +kernel, tm_7 (List.mem_of_getElem? (i := 58) (by decide +kernel))⟩⟩
theorem vm_85 : qz_vm 85 := ⟨tm_7 (List.mem_of_getElem? (i := 44) (by decide +kernel)), tm_1 (List.mem_of_getElem? (i := 13) (by decide +kernel)), Or.inl (by decide +kernel), ⟨by decide +kernel, by decide +kernel, by decide +kernel⟩, by decide +kernel, Or.inr (Or.inl ⟨by decide +kernel, tm_7 (List.mem_of_getElem? (i := 43) (by decide +kernel)), List.mem_append_left _ (List.mem_of_getElem? (i := 74) (by decide +kernel))⟩)⟩
theorem vm_86 : qz_vm 86 := ⟨tm_7 (List.mem_of_getElem? (i := 78) (by decide +kernel)), tm_1 (List.mem_of_getElem? (i := 13) (by decide +kernel)), Or.inl (by decide +kernel), ⟨by decide +kernel, by decide +kernel, by decide +kernel⟩, by decide +kernel, Or.inl ⟨by decide +kernel, tm_7 (List.mem_of_getElem? (i := 77) (by decide +kernel))⟩⟩
theorem vm_87 : qz_vm 87 := ⟨tm_7 (List.mem_of_getElem? (i := 86) (by decide +kernel)), tm_1 (List.mem_of_getElem? (i := 13) (by decide +kernel)), Or.inl (by decide +kernel), ⟨by decide +kernel, by decide +kernel, by decide +kernel⟩, by decide +kernel, Or.inl ⟨by decide +kernel, tm_7 (List.mem_of_getElem? (i := 85) (by decide +kernel))⟩⟩
theorem vm_88 : qz_vm 88 := ⟨tm_7 (List.mem_of_getElem? (i := 67) (by decide +kernel)), tm_1 (List.mem_of_getElem? (i := 13) (by decide +kernel)), Or.inl (by decide +kernel), ⟨by decide +kernel, by decide +kernel, by decide +kernel⟩, by decide +kernel, Or.inl ⟨by decide +kernel, tm_7 (List.mem_of_getElem? (i := 66) (by decide +kernel))⟩⟩
theorem vm_89 : qz_vm 89 := ⟨tm_7 (List.mem_of_getElem? (i := 94) (by decide +kernel)), tm_1 (List.mem_of_getElem? (i := 13) (by decide +kernel)), Or.inl (by decide +kernel), ⟨by decide +kernel, by decide +kernel, by decide +kernel⟩, by decide +kernel, Or.inr (Or.inl ⟨by decide +kernel, tm_7 (List.mem_of_getElem? (i := 93) (by decide +kernel)), List.mem_append_left _ (List.mem_of_getElem? (i := 79) (by decide +kernel))⟩)⟩
theorem vm_90 : qz_vm 90 := ⟨tm_7 (List.mem_of_getElem? (i := 64) (by decide +kernel)), tm_1 (List.mem_of_getElem? (i := 13) (by decide +kernel)), Or.inl (by decide +kernel), ⟨by decide +kernel, by decide +kernel, by decide +kernel⟩, by decide +kernel, Or.inr (Or.inl ⟨by decide +kernel, tm_7 (List.mem_of_getElem? (i := 63) (by decide +kernel)), List.mem_append_left _ (List.mem_of_getElem? (i := 78) (by decide +kernel))⟩)⟩
theorem vm_91 : qz_vm 91 := ⟨tm_7 (List.mem_of_getElem? (i := 102) (by decide +kernel)), tm_1 (List.mem_of_getElem? (i := 13) (by decide +kernel)), Or.inl (by decide +kernel), ⟨by decide +kernel, by decide +kernel, by decide +kernel⟩, by decide +kernel, Or.inr (Or.inl ⟨by decide +kernel, tm_7 (List.mem_of_getElem? (i := 101) (by decide +kernel)), List.mem_append_left _ (List.mem_of_getElem? (i := 81) (by decide +kernel))⟩)⟩
theorem vm_92 : qz_vm 92 := ⟨tm_7 (List.mem_of_getElem? (i := 105) (by decide +kernel)), tm_1 (List.mem_of_getElem? (i := 13) (by decide +kernel)), Or.inl (by decide +kernel), ⟨by decide +kernel, by decide +kernel, by decide +kernel⟩, by decide +kernel, Or.inl ⟨by decide +kernel, tm_7 (List.mem_of_getElem? (i := 104) (by decide +kernel))⟩⟩
theorem vm_93 : qz_vm 93 := ⟨tm_7 (List.mem_of_getElem? (i := 108) (by decide +kernel)), tm_1 (List.mem_of_getElem? (i := 13) (by decide +kernel)), Or.inl (by decide +kernel), ⟨by decide +kernel, by decide +kernel, by decide +kernel⟩, by decide +kernel, Or.inl ⟨by decide +kernel, tm_7 (List.mem_of_getElem? (i := 107) (by decide +kernel))⟩⟩
theorem vm_94 : qz_vm 94 := ⟨tm_7 (List.mem_of_getElem? (i := 112) (by decide +kernel)), tm_1 (List.mem_of_getElem? (i := 13) (by decide +kernel)), Or.inl (by decide +kernel), ⟨by decide +kernel, by decide +kernel, by decide +kernel⟩, by decide +kernel, Or.inr (Or.inl ⟨by decide +kernel, tm_7 (List.mem_of_getElem? (i := 111) (by decide +kernel)), List.mem_append_left _ (List.mem_of_getElem? (i := 82) (by decide +kernel))⟩)⟩
theorem vm_95 : qz_vm 95 := ⟨tm_7 (List.mem_of_getElem? (i := 98) (by decide +kernel)), tm_1 (List.mem_of_getElem? (i := 13) (by decide +kernel)), Or.inl (by decide +kernel), ⟨by decide +kernel, by decide +kernel, by decide +kernel⟩, by decide +kernel, Or.inr (Or.inl ⟨by decide +kernel, tm_7 (List.mem_of_getElem? (i := 97) (by decide +kernel)), List.mem_append_left _ (List.mem_of_getElem? (i := 80) (by decide +kernel))⟩)⟩
theorem vm_96 : qz_vm 96 := ⟨tm_7 (List.mem_of_getElem? (i := 120) (by decide +kernel)), tm_1 (List.mem_of_getElem? (i := 13) (by decide +kernel)), Or.inl (by decide +kernel), ⟨by decide +kernel, by decide +kernel, by decide +kernel⟩, by decide +kernel, Or.inr (Or.inl ⟨by decide +kernel, tm_7 (List.mem_of_getElem? (i := 119) (by decide +kernel)), List.mem_append_left _ (List.mem_of_getElem? (i := 84) (by decide +kernel))⟩)⟩
theorem vm_97 : qz_vm 97 := ⟨tm_7 (List.mem_of_getElem? (i := 116) (by decide +kernel)), tm_1 (List.mem_of_getElem? (i := 13) (by decide +kernel)), Or.inl (by decide +kernel), ⟨by decide +kernel, by decide +kernel, by decide +kernel⟩, by decide +kernel, Or.inr (Or.inl ⟨by decide +kernel, tm_7 (List.mem_of_getElem? (i := 115) (by decide +kernel)), List.mem_append_left _ (List.mem_of_getElem? (i := 83) (by decide +kernel))⟩)⟩
theorem vm_98 : qz_vm 98 := ⟨tm_7 (List.mem_of_getElem? (i := 124) (by decide +kernel)), tm_1 (List.mem_of_getElem? (i := 13) (by decide +kernel)), Or.inl (by decide +kernel), ⟨by decide +kernel, by decide +kernel, by decide +kernel⟩, by decide +kernel, Or.inr (Or.inl ⟨by decide +kernel, tm_7 (List.mem_of_getElem? (i := 123) (by decide +kernel)), List.mem_append_left _ (List.mem_of_getElem? (i := 85) (by decide +kernel))⟩)⟩
theorem vm_99 : qz_vm 99 := ⟨tm_7 (List.mem_of_getElem? (i := 128) (by decide +kernel)), tm_1 (List.mem_of_getElem? (i := 13) (by decide +kernel)), Or.inl (by decide +kernel), ⟨by decide +kernel, by decide +kernel, by decide +kernel⟩, by decide +kernel, Or.inr (Or.inl ⟨by decide +kernel, tm_7 (List.mem_of_getElem? (i := 127) (by decide +kernel)), List.mem_append_left _ (List.mem_of_getElem? (i := 86) (by decide +kernel))⟩)⟩
theorem vm_100 : qz_vm 100 := ⟨tm_7 (List.mem_of_getElem? (i := 143) (by decide +kernel)), tm_1 (List.mem_of_getElem? (i := 13) (by decide +kernel)), Or.inl (by decide +kernel), ⟨by decide +kernel, by decide +kernel, by decide +kernel⟩, by decide +kernel, Or.inl ⟨by decide +kernel, tm_7 (List.mem_of_getElem? (i := 142) (by decide +kernel))⟩⟩
theorem vm_101 : qz_vm 101 := ⟨tm_7 (List.mem_of_getElem? (i := 146) (by decide +kernel)), tm_1 (List.mem_of_getElem? (i := 13) (by decide +kernel)), Or.inl (by decide +kernel), ⟨by decide +kernel, by decide +kernel, by decide +kernel⟩, by decide +kernel, Or.inl ⟨by decide +kernel, tm_7 (List.mem_of_getElem? (i := 145) (by decide +kernel))⟩⟩
theorem vm_102 : qz_vm 102 := ⟨tm_7 (List.mem_of_getElem? (i := 140) (by decide +kernel)), tm_1 (List.mem_of_getElem? (i := 13) (by decide +kernel)), Or.inl (by decide +kernel), ⟨by decide +kernel, by decide +kernel, by decide +kernel⟩, by decide +kernel, Or.inr (Or.inl ⟨by decide +kernel, tm_7 (List.mem_of_getElem? (i := 139) (by decide +kernel)), List.mem_append_left _ (List.mem_of_getElem? (i := 89) (by decide +kernel))⟩)⟩
theorem vm_103 : qz_vm 103 := ⟨tm_7 (List.mem_of_getElem? (i := 136) (by decide +kernel)), tm_1 (List.mem_of_getElem? (i := 13) (by decide +kernel)), Or.inl (by decide +kernel), ⟨by decide +kernel, by decide +kernel, by decide +kernel⟩, by decide +kernel, Or.inr (Or.inl ⟨by decide +kernel, tm_7 (List.mem_of_getElem? (i := 135) (by decide +kernel)), List.mem_append_left _ (List.mem_of_getElem? (i := 88) (by decide +kernel))⟩)⟩
theorem vm_104 : qz_vm 104 := ⟨tm_7 (List.mem_of_getElem? (i := 157) (by decide +kernel)), tm_1 (List.mem_of_getElem? (i := 13) (by decide +kernel)), Or.inl (by decide +kernel), ⟨by decide +kernel, by decide +kernel, by decide +kernel⟩, by decide +kernel, Or.inl ⟨by decide +kernel, tm_7 (List.mem_of_getElem? (i := 156) (by decide +kernel))⟩⟩
theorem vm_105 : qz_vm 105 := ⟨tm_7 (List.mem_of_getElem? (i := 154) (by decide +kernel)), tm_1 (List.mem_of_getElem? (i := 13) (by decide +kernel)), Or.inl (by decide +kernel), ⟨by decide +kernel, by decide +kernel, by decide +kernel⟩, by decide +kernel, Or.inr (Or.inl ⟨by decide +kernel, tm_7 (List.mem_of_getElem? (i := 153) (by decide +kernel)), List.mem_append_left _ (List.mem_of_getElem? (i := 91) (by decide +kernel))⟩)⟩
theorem vm_106 : qz_vm 106 := ⟨tm_7 (List.mem_of_getElem? (i := 150) (by decide +kernel)), tm_1 (List.mem_of_getElem? (i := 13) (by decide +kernel)), Or.inl (by decide +kernel), ⟨by decide +kernel, by decide +kernel, by decide +kernel⟩, by decide +kernel, Or.inr (Or.inl ⟨by decide +kernel, tm_7 (List.mem_of_getElem? (i := 149) (by decide +kernel)), List.mem_append_left _ (List.mem_of_getElem? (i := 90) (by decide +kernel))⟩)⟩
theorem vm_107 : qz_vm 107 := ⟨tm_7 (List.mem_of_getElem? (i := 161) (by decide +kernel)), tm_1 (List.mem_of_getElem? (i := 13) (by decide +kernel)), Or.inl (by decide +kernel), ⟨by decide +kernel, by decide +kernel, by decide +kernel⟩, by decide +kernel, Or.inr (Or.inl ⟨by decide +kernel, tm_7 (List.mem_of_getElem? (i := 160) (by decide +kernel)), List.mem_append_left _ (List.mem_of_getElem? (i := 92) (by decide +kernel))⟩)⟩
theorem vm_108 : qz_vm 108 := ⟨tm_7 (List.mem_of_getElem? (i := 132) (by decide +kernel)), tm_1 (List.mem_of_getElem? (i := 13) (by decide +kernel)), Or.inl (by decide +kernel), ⟨by decide +kernel, by decide +kernel, by decide +kernel⟩, by decide +kernel, Or.inr (Or.inl ⟨by decide +kernel, tm_7 (List.mem_of_getElem? (i := 131) (by decide +kernel)), List.mem_append_left _ (List.mem_of_getElem? (i := 87) (by decide +kernel))⟩)⟩
theorem vm_109 : qz_vm 109 := ⟨tm_7 (List.mem_of_getElem? (i := 39) (by decide +kernel)), tm_1 (List.mem_of_getElem? (i := 13) (by decide +kernel)), Or.inl (by decide +kernel), ⟨by decide +kernel, by decide +kernel, by decide +kernel⟩, by decide +kernel, Or.inr (Or.inl ⟨by decide +kernel, tm_7 (List.mem_of_getElem? (i := 38) (by decide +kernel)), List.mem_append_left _ (List.mem_of_getElem? (i := 73) (by decide +kernel))⟩)⟩
theorem vm_110 : qz_vm 110 := ⟨tm_7 (List.mem_of_getElem? (i := 6) (by decide +kernel)), tm_1 (List.mem_of_getElem? (i := 13) (by decide +kernel)), Or.inl (by decide +kernel), ⟨by decide +kernel, by decide +kernel, by decide +kernel⟩, by decide +kernel, Or.inr (Or.inl ⟨by decide +kernel, tm_7 (List.mem_of_getElem? (i := 5) (by decide +kernel)), List.mem_append_left _ (List.mem_of_getElem? (i := 65) (by decide +kernel))⟩)⟩
theorem vm_111 : qz_vm 111 := ⟨tm_7 (List.mem_of_getElem? (i := 165) (by decide +kernel)), tm_1 (List.mem_of_getElem? (i := 13) (by decide +kernel)), Or.inl (by decide +kernel), ⟨by decide +kernel, by decide +kernel, by decide +kernel⟩, by decide +kernel, Or.inr (Or.inl ⟨by decide +kernel, tm_7 (List.mem_of_getElem? (i := 164) (by decide +kernel)), List.mem_append_left _ (List.mem_of_getElem? (i := 93) (by decide +kernel))⟩)⟩
theorem vm_112 : qz_vm 112 := ⟨tm_6 (List.mem_of_getElem? (i := 235) (by decide +kernel)), tm_1 (List.mem_of_getElem? (i := 13) (by decide +kernel)), Or.inl (by decide +kernel), ⟨by decide +kernel, by decide +kernel, by decide +kernel⟩, by decide +kernel, Or.inr (Or.inl ⟨by decide +kernel, tm_6 (List.mem_of_getElem? (i := 233) (by decide +kernel)), List.mem_append_right _ (tm_6 (List.mem_of_getElem? (i := 234) (by decide +kernel)))⟩)⟩
theorem vm_113 : qz_vm 113 := ⟨tm_4 (List.mem_of_getElem? (i := 9) (by decide +kernel)), tm_1 (List.mem_of_getElem? (i := 1) (by decide +kernel)), Or.inl (by decide +kernel), ⟨by decide +kernel, by decide +kernel, by decide +kernel⟩, by decide +kernel, Or.inr (Or.inl ⟨by decide +kernel, tm_4 (List.mem_of_getElem? (i := 7) (by decide +kernel)), List.mem_append_right _ (tm_4 (List.mem_of_getElem? (i := 8) (by decide +kernel)))⟩)⟩
theorem vm_114 : qz_vm 114 := ⟨tm_7 (List.mem_of_getElem? (i := 169) (by decide +kernel)), tm_1 (List.mem_of_getElem? (i := 13) (by decide +kernel)), Or.inl (by decide +kernel), ⟨by decide +kernel, by decide +kernel, by decide +kernel⟩, by decide +kernel, Or.inr (Or.inl ⟨by decide +kernel, tm_7 (List.mem_of_getElem? (i := 167) (by decide +kernel)), List.mem_append_right _ (tm_7 (List.mem_of_getElem? (i := 168) (by decide +kernel)))⟩)⟩
theorem vm_115 : qz_vm 115 := ⟨tm_4 (List.mem_of_getElem? (i := 17) (by decide +kernel)), tm_1 (List.mem_of_getElem? (i := 1) (by decide +kernel)), Or.inl (by decide +kernel), ⟨by decide +kernel, by decide +kernel, by decide +kernel⟩, by decide +kernel, Or.inr (Or.inl ⟨by decide +kernel, tm_4 (List.mem_of_getElem? (i := 16) (by decide +kernel)), List.mem_append_left _ (List.mem_of_getElem? (i := 28) (by decide +kernel))⟩)⟩
theorem vm_116 : qz_vm 116 := ⟨tm_4 (List.mem_of_getElem? (i := 29) (by decide +kernel)), tm_1 (List.mem_of_getElem? (i := 3) (by decide +kernel)), Or.inl (by decide +kernel), ⟨by decide +kernel, by decide +kernel, by decide +kernel⟩, by decide +kernel, Or.inr (Or.inl ⟨by decide +kernel, tm_4 (List.mem_of_getElem? (i := 27) (by decide +kernel)), List.mem_append_right _ (tm_4 (List.mem_of_getElem? (i := 28) (by decide +kernel)))⟩)⟩
theorem vm_117 : qz_vm 117 := ⟨tm_4 (List.mem_of_getElem? (i := 25) (by decide +kernel)), tm_1 (List.mem_of_getElem? (i := 3) (by decide +kernel)), Or.inl (by decide +kernel), ⟨by decide +kernel, by decide +kernel, by decide +kernel⟩, by decide +kernel, Or.inr (Or.inl ⟨by decide +kernel, tm_4 (List.mem_of_getElem? (i := 23) (by decide +kernel)), List.mem_append_right _ (tm_4 (List.mem_of_getElem? (i := 24) (by decide +kernel)))⟩)⟩
theorem vm_118 : qz_vm 118 := ⟨tm_4 (List.mem_of_getElem? (i := 21) (by decide +kernel)), tm_1 (List.mem_of_getElem? (i := 3) (by decide +kernel)), Or.inl (by decide +kernel), ⟨by decide +kernel, by decide +kernel, by decide +kernel⟩, by decide +kernel, Or.inr (Or.inl ⟨by decide +kernel, tm_4 (List.mem_of_getElem? (i := 19) (by decide +kernel)), List.mem_append_right _ (tm_4 (List.mem_of_getElem? (i := 20) (by decide +kernel)))⟩)⟩
theorem vm_119 : qz_vm 119 := ⟨tm_4 (List.mem_of_getElem? (i := 13) (by decide +kernel)), tm_1 (List.mem_of_getElem? (i := 1) (by decide +kernel)), Or.inl (by decide +kernel), ⟨by decide +kernel, by decide +kernel, by decide +kernel⟩, by decide +kernel, Or.inr (Or.inl ⟨by decide +kernel, tm_4 (List.mem_of_getElem? (i := 11) (by decide +kernel)), List.mem_append_right _ (tm_4 (List.mem_of_getElem? (i := 12) (by decide +kernel)))⟩)⟩
theorem vm_120 : qz_vm 120 := ⟨tm_7 (List.mem_of_getElem? (i := 177) (by decide +kernel)), tm_1 (List.mem_of_getElem? (i := 13) (by decide +kernel)), Or.inl (by decide +kernel), ⟨by decide +kernel, by decide +kernel, by decide +kernel⟩, by decide +kernel, Or.inr (Or.inl ⟨by decide +kernel, tm_7 (List.mem_of_getElem? (i := 176) (by decide +kernel)), List.mem_append_left _ (List.mem_of_getElem? (i := 94) (by decide +kernel))⟩)⟩
theorem vm_121 : qz_vm 121 := ⟨tm_7 (List.mem_of_getElem? (i := 181) (by decide +kernel)), tm_1 (List.mem_of_getElem? (i := 13) (by decide +kernel)), Or.inl (by decide +kernel), ⟨by decide +kernel, by decide +kernel, by decide +kernel⟩, by decide +kernel, Or.inr (Or.inl ⟨by decide +kernel, tm_7 (List.mem_of_getElem? (i := 180) (by decide +kernel)), List.mem_append_left _ (List.mem_of_getElem? (i := 95) (by decide +kernel))⟩)⟩
theorem vm_122 : qz_vm 122 := ⟨tm_7 (List.mem_of_getElem? (i := 189) (by decide +kernel)), tm_1 (List.mem_of_getElem? (i := 13) (by decide +kernel)), Or.inl (by decide +kernel), ⟨by decide +kernel, by decide +kernel, by decide +kernel⟩, by decide +kernel, Or.inr (Or.inl ⟨by decide +kernel, tm_7 (List.mem_of_getElem? (i := 188) (by decide +kernel)), List.mem_append_left _ (List.mem_of_getElem? (i := 97) (by decide +kernel))⟩)⟩
theorem vm_123 : qz_vm 123 := ⟨tm_7 (List.mem_of_getElem? (i := 185) (by decide +kernel)), tm_1 (List.mem_of_getElem? (i := 13) (by decide +kernel)), Or.inl (by decide +kernel), ⟨by decide +kernel, by decide +kernel, by decide +kernel⟩, by decide +kernel, Or.inr (Or.inl ⟨by decide +kernel, tm_7 (List.mem_of_getElem? (i := 184) (by decide +kernel)), List.mem_append_left _ (List.mem_of_getElem? (i := 96) (by decide +kernel))⟩)⟩
theorem vm_124 : qz_vm 124 := ⟨tm_7 (List.mem_of_getElem? (i := 193) (by decide +kernel)), tm_1 (List.mem_of_getElem? (i := 13) (by decide +kernel)), Or.inl (by decide +kernel), ⟨by decide +kernel, by decide +kernel, by decide +kernel⟩, by decide +kernel, Or.inr (Or.inl ⟨by decide +kernel, tm_7 (List.mem_of_getElem? (i := 192) (by decide +kernel)), List.mem_append_left _ (List.mem_of_getElem? (i := 98) (by decide +kernel))⟩)⟩
theorem vm_125 : qz_vm 125 := ⟨tm_7 (List.mem_of_getElem? (i := 173) (by decide +kernel)), tm_1 (List.mem_of_getElem? (i := 13) (by decide +kernel)), Or.inl (by decide +kernel), ⟨by decide +kernel, by decide +kernel, by decide +kernel⟩, by decide +kernel, Or.inr (Or.inl ⟨by decide +kernel, tm_7 (List.mem_of_getElem? (i := 171) (by decide +kernel)), List.mem_append_right _ (tm_7 (List.mem_of_getElem? (i := 172) (by decide +kernel)))⟩)⟩
theorem vm_126 : qz_vm 126 := ⟨tm_4 (List.mem_of_getElem? (i := 45) (by decide +kernel)), tm_1 (List.mem_of_getElem? (i := 3) (by decide +kernel)), Or.inl (by decide +kernel), ⟨by decide +kernel, by decide +kernel, by decide +kernel⟩, by decide +kernel, Or.inr (Or.inl ⟨by decide +kernel, tm_4 (List.mem_of_getElem? (i := 43) (by decide +kernel)), List.mem_append_right _ (tm_4 (List.mem_of_getElem? (i := 44) (by decide +kernel)))⟩)⟩
theorem vm_127 : qz_vm 127 := ⟨tm_4 (List.mem_of_getElem? (i := 48) (by decide +kernel)), tm_1 (List.mem_of_getElem? (i := 7) (by decide +kernel)), Or.inl (by decide +kernel), ⟨by decide +kernel, by decide +kernel, by decide +kernel⟩, by decide +kernel, Or.inl ⟨by decide +kernel, tm_4 (List.mem_of_getElem? (i := 47) (by decide +kernel))⟩⟩
theorem vm_128 : qz_vm 128 := ⟨tm_4 (List.mem_of_getElem? (i := 52) (by decide +kernel)), tm_1 (List.mem_of_getElem? (i := 7) (by decide +kernel)), Or.inl (by decide +kernel), ⟨by decide +kernel, by decide +kernel, by decide +kernel⟩, by decide +kernel, Or.inr (Or.inl ⟨by decide +kernel, tm_4 (List.mem_of_getElem? (i := 51) (by decide +kernel)), List.mem_append_left _ (List.mem_of_getElem? (i := 29) (by decide +kernel))⟩)⟩
theorem vm_129 : qz_vm 129 := ⟨tm_4 (List.mem_of_getElem? (i := 40) (by decide +kernel)), tm_1 (List.mem_of_getElem? (i := 7) (by decide +kernel)), Or.inl (by decide +kernel), ⟨by decide +kernel, by decide +kernel, by decide +kernel⟩, by decide +kernel, Or.inr (Or.inl ⟨by decide +kernel, tm_4 (List.mem_of_getElem? (i := 38) (by decide +kernel)), List.mem_append_right _ (tm_4 (List.mem_of_getElem? (i := 39) (by decide +kernel)))⟩)⟩
theorem vm_130 : qz_vm 130 := ⟨tm_4 (List.mem_of_getElem? (i := 64) (by decide +kernel)), tm_1 (List.mem_of_getElem? (i := 1) (by decide +kernel)), Or.inl (by decide +kernel), ⟨by decide +kernel, by decide +kernel, by decide +kernel⟩, by decide +kernel, Or.inl ⟨by decide +kernel, tm_4 (List.mem_of_getElem? (i := 63) (by decide +kernel))⟩⟩
theorem vm_131 : qz_vm 131 := ⟨tm_4 (List.mem_of_getElem? (i := 71) (by decide +kernel)), tm_1 (List.mem_of_getElem? (i := 1) (by decide +kernel)), Or.inl (by decide +kernel), ⟨by decide +kernel, by decide +kernel, by decide +kernel⟩, by decide +kernel, Or.inl ⟨by decide +kernel, tm_4 (List.mem_of_getElem? (i := 70) (by decide +kernel))⟩⟩
theorem vm_132 : qz_vm 132 := ⟨tm_4 (List.mem_of_getElem? (i := 68) (by decide +kernel)), tm_1 (List.mem_of_getElem? (i := 8) (by decide +kernel)), Or.inl (by decide +kernel), ⟨by decide +kernel, by decide +kernel, by decide +kernel⟩, by decide +kernel, Or.inr (Or.inl ⟨by decide +kernel, tm_4 (List.mem_of_getElem? (i := 67) (by decide +kernel)), List.mem_append_left _ (List.mem_of_getElem? (i := 31) (by decide +kernel))⟩)⟩
theorem vm_133 : qz_vm 133 := ⟨tm_4 (List.mem_of_getElem? (i := 60) (by decide +kernel)), tm_1 (List.mem_of_getElem? (i := 8) (by decide +kernel)), Or.inl (by decide +kernel), ⟨by decide +kernel, by decide +kernel, by decide +kernel⟩, by decide +kernel, Or.inr (Or.inl ⟨by decide +kernel, tm_4 (List.mem_of_getElem? (i := 58) (by decide +kernel)), List.mem_append_right _ (tm_4 (List.mem_of_getElem? (i := 59) (by decide +kernel)))⟩)⟩
theorem vm_134 : qz_vm 134 := ⟨tm_4 (List.mem_of_getElem? (i := 56) (by decide +kernel)), tm_1 (List.mem_of_getElem? (i := 1) (by decide +kernel)), Or.inl (by decide +kernel), ⟨by decide +kernel, by decide +kernel, by decide +kernel⟩, by decide +kernel, Or.inr (Or.inl ⟨by decide +kernel, tm_4 (List.mem_of_getElem? (i := 55) (by decide +kernel)), List.mem_append_left _ (List.mem_of_getElem? (i := 30) (by decide +kernel))⟩)⟩
theorem vm_135 : qz_vm 135 := ⟨tm_4 (List.mem_of_getElem? (i := 92) (by decide +kernel)), tm_1 (List.mem_of_getElem? (i := 7) (by decide +kernel)), Or.inl (by decide +kernel), ⟨by decide +kernel, by decide +kernel, by decide +kernel⟩, by decide +kernel, Or.inr (Or.inl ⟨by decide +kernel, tm_4 (List.mem_of_getElem? (i := 91) (by decide +kernel)), List.mem_append_left _ (List.mem_of_getElem? (i := 34) (by decide +kernel))⟩)⟩
theorem vm_136 : qz_vm 136 := ⟨tm_4 (List.mem_of_getElem? (i := 99) (by decide +kernel)), tm_1 (List.mem_of_getElem? (i := 21) (by decide +kernel)), Or.inr (by decide +kernel), ⟨by decide +kernel, by decide +kernel, by decide +kernel⟩, by decide +kernel, Or.inl ⟨by decide +kernel, tm_4 (List.mem_of_getElem? (i := 98) (by decide +kernel))⟩⟩
theorem vm_137 : qz_vm 137 := ⟨tm_4 (List.mem_of_getElem? (i := 96) (by decide +kernel)), tm_1 (List.mem_of_getElem? (i := 7) (by decide +kernel)), Or.inl (by decide +kernel), ⟨by decide +kernel, by decide +kernel, by decide +kernel⟩, by decide +kernel, Or.inr (Or.inl ⟨by decide +kernel, tm_4 (List.mem_of_getElem? (i := 95) (by decide +kernel)), List.mem_append_left _ (List.mem_of_getElem? (i := 35) (by decide +kernel))⟩)⟩
theorem vm_138 : qz_vm 138 := ⟨tm_4 (List.mem_of_getElem? (i := 88) (by decide +kernel)), tm_1 (List.mem_of_getElem? (i := 7) (by decide +kernel)), Or.inl (by decide +kernel), ⟨by decide +kernel, by decide +kernel, by decide +kernel⟩, by decide +kernel, Or.inr (Or.inl ⟨by decide +kernel, tm_4 (List.mem_of_getElem? (i := 87) (by decide +kernel)), List.mem_append_left _ (List.mem_of_getElem? (i := 33) (by decide +kernel))⟩)⟩
theorem vm_139 : qz_vm 139 := ⟨tm_4 (List.mem_of_getElem? (i := 82) (by decide +kernel)), tm_1 (List.mem_of_getElem? (i := 7) (by decide +kernel)), Or.inl (by decide +kernel), ⟨by decide +kernel, by decide +kernel, by decide +kernel⟩, by decide +kernel, Or.inr (Or.inl ⟨by decide +kernel, tm_4 (List.mem_of_getElem? (i := 80) (by decide +kernel)), List.mem_append_right _ (tm_4 (List.mem_of_getElem? (i := 81) (by decide +kernel)))⟩)⟩
theorem vm_140 : qz_vm 140 := ⟨tm_4 (List.mem_of_getElem? (i := 77) (by decide +kernel)), tm_1 (List.mem_of_getElem? (i := 1) (by decide +kernel)), Or.inl (by decide +kernel), ⟨by decide +kernel, by decide +kernel, by decide +kernel⟩, by decide +kernel, Or.inr (Or.inl ⟨by decide +kernel, tm_4 (List.mem_of_getElem? (i := 76) (by decide +kernel)), List.mem_append_left _ (List.mem_of_getElem? (i := 32) (by decide +kernel))⟩)⟩
theorem vm_141 : qz_vm 141 := ⟨tm_4 (List.mem_of_getElem? (i := 34) (by decide +kernel)), tm_1 (List.mem_of_getElem? (i := 1) (by decide +kernel)), Or.inl (by decide +kernel), ⟨by decide +kernel, by decide +kernel, by decide +kernel⟩, by decide +kernel, Or.inr (Or.inl ⟨by decide +kernel, tm_4 (List.mem_of_getElem? (i := 32) (by decide +kernel)), List.mem_append_right _ (tm_4 (List.mem_of_getElem? (i := 33) (by decide +kernel)))⟩)⟩
theorem vm_142 : qz_vm 142 := ⟨tm_7 (List.mem_of_getElem? (i := 209) (by decide +kernel)), tm_1 (List.mem_of_getElem? (i := 13) (by decide +kernel)), Or.inl (by decide +kernel), ⟨by decide +kernel, by decide +kernel, by decide +kernel⟩, by decide +kernel, Or.inr (Or.inl ⟨by decide +kernel, tm_7 (List.mem_of_getElem? (i := 208) (by decide +kernel)), List.mem_append_left _ (List.mem_of_getElem? (i := 101) (by decide +kernel))⟩)⟩
theorem vm_143 : qz_vm 143 := ⟨tm_7 (List.mem_of_getElem? (i := 213) (by decide +kernel)), tm_1 (List.mem_of_getElem? (i := 13) (by decide +kernel)), Or.inl (by decide +kernel), ⟨by decide +kernel, by decide +kernel, by decide +kernel⟩, by decide +kernel, Or.inr (Or.inl ⟨by decide +kernel, tm_7 (List.mem_of_getElem? (i := 212) (by decide +kernel)), List.mem_append_left _ (List.mem_of_getElem? (i := 102) (by decide +kernel))⟩)⟩
theorem vm_144 : qz_vm 144 := ⟨tm_7 (List.mem_of_getElem? (i := 220) (by decide +kernel)), tm_1 (List.mem_of_getElem? (i := 13) (by decide +kernel)), Or.inl (by decide +kernel), ⟨by decide +kernel, by decide +kernel, by decide +kernel⟩, by decide +kernel, Or.inl ⟨by decide +kernel, tm_7 (List.mem_of_getElem? (i := 219) (by decide +kernel))⟩⟩
theorem vm_145 : qz_vm 145 := ⟨tm_7 (List.mem_of_getElem? (i := 217) (by decide +kernel)), tm_1 (List.mem_of_getElem? (i := 13) (by decide +kernel)), Or.inl (by decide +kernel), ⟨by decide +kernel, by decide +kernel, by decide +kernel⟩, by decide +kernel, Or.inr (Or.inl ⟨by decide +kernel, tm_7 (List.mem_of_getElem? (i := 216) (by decide +kernel)), List.mem_append_left _ (List.mem_of_getElem? (i := 103) (by decide +kernel))⟩)⟩
theorem vm_146 : qz_vm 146 := ⟨tm_7 (List.mem_of_getElem? (i := 205) (by decide +kernel)), tm_1 (List.mem_of_getElem? (i := 13) (by decide +kernel)), Or.inl (by decide +kernel), ⟨by decide +kernel, by decide +kernel, by decide +kernel⟩, by decide +kernel, Or.inr (Or.inl ⟨by decide +kernel, tm_7 (List.mem_of_getElem? (i := 204) (by decide +kernel)), List.mem_append_left _ (List.mem_of_getElem? (i := 100) (by decide +kernel))⟩)⟩
theorem vm_147 : qz_vm 147 := ⟨tm_7 (List.mem_of_getElem? (i := 228) (by decide +kernel)), tm_1 (List.mem_of_getElem? (i := 13) (by decide +kernel)), Or.inl (by decide +kernel), ⟨by decide +kernel, by decide +kernel, by decide +kernel⟩, by decide +kernel, Or.inr (Or.inl ⟨by decide +kernel, tm_7 (List.mem_of_getElem? (i := 227) (by decide +kernel)), List.mem_append_left _ (List.mem_of_getElem? (i := 105) (by decide +kernel))⟩)⟩
theorem vm_148 : qz_vm 148 := ⟨tm_7 (List.mem_of_getElem? (i := 224) (by decide +kernel)), tm_1 (List.mem_of_getElem? (i := 13) (by decide +kernel)), Or.inl (by decide +kernel), ⟨by decide +kernel, by decide +kernel, by decide +kernel⟩, by decide +kernel, Or.inr (Or.inl ⟨by decide +kernel, tm_7 (List.mem_of_getElem? (i := 223) (by decide +kernel)), List.mem_append_left _ (List.mem_of_getElem? (i := 104) (by decide +kernel))⟩)⟩
theorem vm_149 : qz_vm 149 := ⟨tm_7 (List.mem_of_getElem? (i := 201) (by decide +kernel)), tm_1 (List.mem_of_getElem? (i := 13) (by decide +kernel)), Or.inl (by decide +kernel), ⟨by decide +kernel, by decide +kernel, by decide +kernel⟩, by decide +kernel, Or.inr (Or.inl ⟨by decide +kernel, tm_7 (List.mem_of_getElem? (i := 200) (by decide +kernel)), List.mem_append_left _ (List.mem_of_getElem? (i := 99) (by decide +kernel))⟩)⟩
theorem vm_150 : qz_vm 150 := ⟨tm_7 (List.mem_of_getElem? (i := 236) (by decide +kernel)), tm_1 (List.mem_of_getElem? (i := 13) (by decide +kernel)), Or.inl (by decide +kernel), ⟨by decide +kernel, by decide +kernel, by decide +kernel⟩, by decide +kernel, Or.inr (Or.inl ⟨by decide +kernel, tm_7 (List.mem_of_getElem? (i := 235) (by decide +kernel)), List.mem_append_left _ (List.mem_of_getElem? (i := 107) (by decide +kernel))⟩)⟩
theorem vm_151 : qz_vm 151 := ⟨tm_7 (List.mem_of_getElem? (i := 232) (by decide +kernel)), tm_1 (List.mem_of_getElem? (i := 13) (by decide +kernel)), Or.inl (by decide +kernel), ⟨by decide +kernel, by decide +kernel, by decide +kernel⟩, by decide +kernel, Or.inr (Or.inl ⟨by decide +kernel, tm_7 (List.mem_of_getElem? (i := 231) (by decide +kernel)), List.mem_append_left _ (List.mem_of_getElem? (i := 106) (by decide +kernel))⟩)⟩
theorem vm_152 : qz_vm 152 := ⟨tm_7 (List.mem_of_getElem? (i := 197) (by decide +kernel)), tm_1 (List.mem_of_getElem? (i := 13) (by decide +kernel)), Or.inl (by decide +kernel), ⟨by decide +kernel, by decide +kernel, by decide +kernel⟩, by decide +kernel, Or.inr (Or.inl ⟨by decide +kernel, tm_7 (List.mem_of_getElem? (i := 195) (by decide +kernel)), List.mem_append_right _ (tm_7 (List.mem_of_getElem? (i := 196) (by decide +kernel)))⟩)⟩
theorem vm_153 : qz_vm 153 := ⟨tm_4 (List.mem_of_getElem? (i := 108) (by decide +kernel)), tm_1 (List.mem_of_getElem? (i := 8) (by decide +kernel)), Or.inl (by decide +kernel), ⟨by decide +kernel, by decide +kernel, by decide +kernel⟩, by decide +kernel, Or.inr (Or.inl ⟨by decide +kernel, tm_4 (List.mem_of_getElem? (i := 106) (by decide +kernel)), List.mem_append_right _ (tm_4 (List.mem_of_getElem? (i := 107) (by decide +kernel)))⟩)⟩
theorem vm_154 : qz_vm 154 := ⟨tm_4 (List.mem_of_getElem? (i := 116) (by decide +kernel)), tm_1 (List.mem_of_getElem? (i := 8) (by decide +kernel)), Or.inl (by decide +kernel), ⟨by decide +kernel, by decide +kernel, by decide +kernel⟩, by decide +kernel, Or.inr (Or.inl ⟨by decide +kernel, tm_4 (List.mem_of_getElem? (i := 114) (by decide +kernel)), List.mem_append_right _ (tm_4 (List.mem_of_getElem? (i := 115) (by decide +kernel)))⟩)⟩
theorem vm_155 : qz_vm 155 := ⟨tm_4 (List.mem_of_getElem? (i := 120) (by decide +kernel)), tm_1 (List.mem_of_getElem? (i := 8) (by decide +kernel)), Or.inl (by decide +kernel), ⟨by decide +kernel, by decide +kernel, by decide +kernel⟩, by decide +kernel, Or.inr (Or.inl ⟨by decide +kernel, tm_4 (List.mem_of_getElem? (i := 119) (by decide +kernel)), List.mem_append_left _ (List.mem_of_getElem? (i := 36) (by decide +kernel))⟩)⟩
theorem vm_156 : qz_vm 156 := ⟨tm_4 (List.mem_of_getElem? (i := 112) (by decide +kernel)), tm_1 (List.mem_of_getElem? (i := 8) (by decide +kernel)), Or.inl (by decide +kernel), ⟨by decide +kernel, by decide +kernel, by decide +kernel⟩, by decide +kernel, Or.inr (Or.inl ⟨by decide +kernel, tm_4 (List.mem_of_getElem? (i := 110) (by decide +kernel)), List.mem_append_right _ (tm_4 (List.mem_of_getElem? (i := 111) (by decide +kernel)))⟩)⟩
theorem vm_157 : qz_vm 157 := ⟨tm_4 (List.mem_of_getElem? (i := 125) (by decide +kernel)), tm_1 (List.mem_of_getElem? (i := 8) (by decide +kernel)), Or.inl (by decide +kernel), ⟨by decide +kernel, by decide +kernel, by decide +kernel⟩, by decide +kernel, Or.inr (Or.inl ⟨by decide +kernel, tm_4 (List.mem_of_getElem? (i := 123) (by decide +kernel)), List.mem_append_right _ (tm_4 (List.mem_of_getElem? (i := 124) (by decide +kernel)))⟩)⟩
theorem vm_158 : qz_vm 158 := ⟨tm_4 (List.mem_of_getElem? (i := 104) (by decide +kernel)), tm_1 (List.mem_of_getElem? (i := 1) (by decide +kernel)), Or.inl (by decide +kernel), ⟨by decide +kernel, by decide +kernel, by decide +kernel⟩, by decide +kernel, Or.inr (Or.inl ⟨by decide +kernel, tm_4 (List.mem_of_getElem? (i := 102) (by decide +kernel)), List.mem_append_right _ (tm_4 (List.mem_of_getElem? (i := 103) (by decide +kernel)))⟩)⟩
theorem vm_159 : qz_vm 159 := ⟨tm_8 (List.mem_of_getElem? (i := 4) (by decide +kernel)), tm_1 (List.mem_of_getElem? (i := 13) (by decide +kernel)), Or.inl (by decide +kernel), ⟨by decide +kernel, by decide +kernel, by decide +kernel⟩, by decide +kernel, Or.inr (Or.inl ⟨by decide +kernel, tm_8 (List.mem_of_getElem? (i := 3) (by decide +kernel)), List.mem_append_left _ (List.mem_of_getElem? (i := 108) (by decide +kernel))⟩)⟩
theorem vm_160 : qz_vm 160 := ⟨tm_8 (List.mem_of_getElem? (i := 0) (by decide +kernel)), tm_1 (List.mem_of_getElem? (i := 13) (by decide +kernel)), Or.inl (by decide +kernel), ⟨by decide +kernel, by decide +kernel, by decide +kernel⟩, by decide +kernel, Or.inr (Or.inl ⟨by decide +kernel, tm_7 (List.mem_of_getElem? (i := 238) (by decide +kernel)), List.mem_append_right _ (tm_7 (List.mem_of_getElem? (i := 239) (by decide +kernel)))⟩)⟩
theorem vm_161 : qz_vm 161 := ⟨tm_4 (List.mem_of_getElem? (i := 134) (by decide +kernel)), tm_1 (List.mem_of_getElem? (i := 7) (by decide +kernel)), Or.inl (by decide +kernel), ⟨by decide +kernel, by decide +kernel, by decide +kernel⟩, by decide +kernel, Or.inr (Or.inl ⟨by decide +kernel, tm_4 (List.mem_of_getElem? (i := 132) (by decide +kernel)), List.mem_append_right _ (tm_4 (List.mem_of_getElem? (i := 133) (by decide +kernel)))⟩)⟩
theorem vm_162 : qz_vm 162 := ⟨tm_4 (List.mem_of_getElem? (i := 141) (by decide +kernel)), tm_1 (List.mem_of_getElem? (i := 21) (by decide +kernel)), Or.inr (by decide +kernel), ⟨by decide +kernel, by decide +kernel, by decide +kernel⟩, by decide +kernel, Or.inl ⟨by decide +kernel, tm_4 (List.mem_of_getElem? (i := 140) (by decide +kernel))⟩⟩
theorem vm_163 : qz_vm 163 := ⟨tm_4 (List.mem_of_getElem? (i := 138) (by decide +kernel)), tm_1 (List.mem_of_getElem? (i := 7) (by decide +kernel)), Or.inl (by decide +kernel), ⟨by decide +kernel, by decide +kernel, by decide +kernel⟩, by decide +kernel, Or.inr (Or.inl ⟨by decide +kernel, tm_4 (List.mem_of_getElem? (i := 136) (by decide +kernel)), List.mem_append_right _ (tm_4 (List.mem_of_getElem? (i := 137) (by decide +kernel)))⟩)⟩
theorem vm_164 : qz_vm 164 := ⟨tm_4 (List.mem_of_getElem? (i := 130) (by decide +kernel)), tm_1 (List.mem_of_getElem? (i := 1) (by decide +kernel)), Or.inl (by decide +kernel), ⟨by decide +kernel, by decide +kernel, by decide +kernel⟩, by decide +kernel, Or.inr (Or.inl ⟨by decide +kernel, tm_4 (List.mem_of_getElem? (i := 128) (by decide +kernel)), List.mem_append_right _ (tm_4 (List.mem_of_getElem? (i := 129) (by decide +kernel)))⟩)⟩
theorem vm_165 : qz_vm 165 := ⟨tm_8 (List.mem_of_getElem? (i := 12) (by decide +kernel)), tm_1 (List.mem_of_getElem? (i := 13) (by decide +kernel)), Or.inl (by decide +kernel), ⟨by decide +kernel, by decide +kernel, by decide +kernel⟩, by decide +kernel, Or.inr (Or.inl ⟨by decide +kernel, tm_8 (List.mem_of_getElem? (i := 11) (by decide +kernel)), List.mem_append_left _ (List.mem_of_getElem? (i := 109) (by decide +kernel))⟩)⟩
theorem vm_166 : qz_vm 166 := ⟨tm_8 (List.mem_of_getElem? (i := 8) (by decide +kernel)), tm_1 (List.mem_of_getElem? (i := 13) (by decide +kernel)), Or.inl (by decide +kernel), ⟨by decide +kernel, by decide +kernel, by decide +kernel⟩, by decide +kernel, Or.inr (Or.inl ⟨by decide +kernel, tm_8 (List.mem_of_getElem? (i := 6) (by decide +kernel)), List.mem_append_right _ (tm_8 (List.mem_of_getElem? (i := 7) (by decide +kernel)))⟩)⟩
theorem vm_167 : qz_vm 167 := ⟨tm_4 (List.mem_of_getElem? (i := 145) (by decide +kernel)), tm_1 (List.mem_of_getElem? (i := 1) (by decide +kernel)), Or.inl (by decide +kernel), ⟨by decide +kernel, by decide +kernel, by decide +kernel⟩, by decide +kernel, Or.inr (Or.inl ⟨by decide +kernel, tm_4 (List.mem_of_getElem? (i := 143) (by decide +kernel)), List.mem_append_right _ (tm_4 (List.mem_of_getElem? (i := 144) (by decide +kernel)))⟩)⟩
theorem vm_168 : qz_vm 168 := ⟨tm_8 (List.mem_of_getElem? (i := 21) (by decide +kernel)), tm_1 (List.mem_of_getElem? (i := 13) (by decide +kernel)), Or.inl (by decide +kernel), ⟨by decide +kernel, by decide +kernel, by decide +kernel⟩, by decide +kernel, Or.inr (Or.inl ⟨by decide +kernel, tm_8 (List.mem_of_getElem? (i := 20) (by decide +kernel)), List.mem_append_left _ (List.mem_of_getElem? (i := 110) (by decide +kernel))⟩)⟩
theorem vm_169 : qz_vm 169 := ⟨tm_8 (List.mem_of_getElem? (i := 17) (by decide +kernel)), tm_1 (List.mem_of_getElem? (i := 13) (by decide +kernel)), Or.inl (by decide +kernel), ⟨by decide +kernel, by decide +kernel, by decide +kernel⟩, by decide +kernel, Or.inr (Or.inl ⟨by decide +kernel, tm_8 (List.mem_of_getElem? (i := 15) (by decide +kernel)), List.mem_append_right _ (tm_8 (List.mem_of_getElem? (i := 16) (by decide +kernel)))⟩)⟩
theorem vm_170 : qz_vm 170 := ⟨tm_4 (List.mem_of_getElem? (i := 154) (by decide +kernel)), tm_1 (List.mem_of_getElem? (i := 4) (by decide +kernel)), Or.inl (by decide +kernel), ⟨by decide +kernel, by decide +kernel, by decide +kernel⟩, by decide +kernel, Or.inr (Or.inl ⟨by decide +kernel, tm_4 (List.mem_of_getElem? (i := 152) (by decide +kernel)), List.mem_append_right _ (tm_4 (List.mem_of_getElem? (i := 153) (by decide +kernel)))⟩)⟩
theorem vm_171 : qz_vm 171 := ⟨tm_4 (List.mem_of_getElem? (i := 159) (by decide +kernel)), tm_1 (List.mem_of_getElem? (i := 3) (by decide +kernel)), Or.inl (by decide +kernel), ⟨by decide +kernel, by decide +kernel, by decide +kernel⟩, by decide +kernel, Or.inr (Or.inl ⟨by decide +kernel, tm_4 (List.mem_of_getElem? (i := 157) (by decide +kernel)), List.mem_append_right _ (tm_4 (List.mem_of_getElem? (i := 158) (by decide +kernel)))⟩)⟩
theorem vm_172 : qz_vm 172 := ⟨tm_4 (List.mem_of_getElem? (i := 150) (by decide +kernel)), tm_1 (List.mem_of_getElem? (i := 1) (by decide +kernel)), Or.inl (by decide +kernel), ⟨by decide +kernel, by decide +kernel, by decide +kernel⟩, by decide +kernel, Or.inr (Or.inl ⟨by decide +kernel, tm_4 (List.mem_of_getElem? (i := 148) (by decide +kernel)), List.mem_append_right _ (tm_4 (List.mem_of_getElem? (i := 149) (by decide +kernel)))⟩)⟩
theorem vm_173 : qz_vm 173 := ⟨tm_8 (List.mem_of_getElem? (i := 29) (by decide +kernel)), tm_1 (List.mem_of_getElem? (i := 13) (by decide +kernel)), Or.inl (by decide +kernel), ⟨by decide +kernel, by decide +kernel, by decide +kernel⟩, by decide +kernel, Or.inr (Or.inl ⟨by decide +kernel, tm_8 (List.mem_of_getElem? (i := 28) (by decide +kernel)), List.mem_append_left _ (List.mem_of_getElem? (i := 111) (by decide +kernel))⟩)⟩
theorem vm_174 : qz_vm 174 := ⟨tm_8 (List.mem_of_getElem? (i := 25) (by decide +kernel)), tm_1 (List.mem_of_getElem? (i := 13) (by decide +kernel)), Or.inl (by decide +kernel), ⟨by decide +kernel, by decide +kernel, by decide +kernel⟩, by decide +kernel, Or.inr (Or.inl ⟨by decide +kernel, tm_8 (List.mem_of_getElem? (i := 23) (by decide +kernel)), List.mem_append_right _ (tm_8 (List.mem_of_getElem? (i := 24) (by decide +kernel)))⟩)⟩
theorem vm_175 : qz_vm 175 := ⟨tm_4 (List.mem_of_getElem? (i := 163) (by decide +kernel)), tm_1 (List.mem_of_getElem? (i := 1) (by decide +kernel)), Or.inl (by decide +kernel), ⟨by decide +kernel, by decide +kernel, by decide +kernel⟩, by decide +kernel, Or.inr (Or.inl ⟨by decide +kernel, tm_4 (List.mem_of_getElem? (i := 161) (by decide +kernel)), List.mem_append_right _ (tm_4 (List.mem_of_getElem? (i := 162) (by decide +kernel)))⟩)⟩
theorem vm_176 : qz_vm 176 := ⟨tm_8 (List.mem_of_getElem? (i := 33) (by decide +kernel)), tm_1 (List.mem_of_getElem? (i := 13) (by decide +kernel)), Or.inl (by decide +kernel), ⟨by decide +kernel, by decide +kernel, by decide +kernel⟩, by decide +kernel, Or.inr (Or.inl ⟨by decide +kernel, tm_8 (List.mem_of_getElem? (i := 31) (by decide +kernel)), List.mem_append_right _ (tm_8 (List.mem_of_getElem? (i := 32) (by decide +kernel)))⟩)⟩
theorem vm_177 : qz_vm 177 := ⟨tm_4 (List.mem_of_getElem? (i := 171) (by decide +kernel)), tm_1 (List.mem_of_getElem? (i := 7) (by decide +kernel)), Or.inl (by decide +kernel), ⟨by decide +kernel, by decide +kernel, by decide +kernel⟩, by decide +kernel, Or.inr (Or.inl ⟨by decide +kernel, tm_4 (List.mem_of_getElem? (i := 169) (by decide +kernel)), List.mem_append_right _ (tm_4 (List.mem_of_getElem? (i := 170) (by decide +kernel)))⟩)⟩
theorem vm_178 : qz_vm 178 := ⟨tm_4 (List.mem_of_getElem? (i := 176) (by decide +kernel)), tm_1 (List.mem_of_getElem? (i := 4) (by decide +kernel)), Or.inl (by decide +kernel), ⟨by decide +kernel, by decide +kernel, by decide +kernel⟩, by decide +kernel, Or.inr (Or.inl ⟨by decide +kernel, tm_4 (List.mem_of_getElem? (i := 174) (by decide +kernel)), List.mem_append_right _ (tm_4 (List.mem_of_getElem? (i := 175) (by decide +kernel)))⟩)⟩
theorem vm_179 : qz_vm 179 := ⟨tm_4 (List.mem_of_getElem? (i := 188) (by decide +kernel)), tm_1 (List.mem_of_getElem? (i := 4) (by decide +kernel)), Or.inl (by decide +kernel), ⟨by decide +kernel, by decide +kernel, by decide +kernel⟩, by decide +kernel, Or.inr (Or.inl ⟨by decide +kernel, tm_4 (List.mem_of_getElem? (i := 186) (by decide +kernel)), List.mem_append_right _ (tm_4 (List.mem_of_getElem? (i := 187) (by decide +kernel)))⟩)⟩
theorem vm_180 : qz_vm 180 := ⟨tm_4 (List.mem_of_getElem? (i := 184) (by decide +kernel)), tm_1 (List.mem_of_getElem? (i := 3) (by decide +kernel)), Or.inl (by decide +kernel), ⟨by decide +kernel, by decide +kernel, by decide +kernel⟩, by decide +kernel, Or.inr (Or.inl ⟨by decide +kernel, tm_4 (List.mem_of_getElem? (i := 182) (by decide +kernel)), List.mem_append_right _ (tm_4 (List.mem_of_getElem? (i := 183) (by decide +kernel)))⟩)⟩
theorem vm_181 : qz_vm 181 := ⟨tm_4 (List.mem_of_getElem? (i := 180) (by decide +kernel)), tm_1 (List.mem_of_getElem? (i := 3) (by decide +kernel)), Or.inl (by decide +kernel), ⟨by decide +kernel, by decide +kernel, by decide +kernel⟩, by decide +kernel, Or.inr (Or.inl ⟨by decide +kernel, tm_4 (List.mem_of_getElem? (i := 178) (by decide +kernel)), List.mem_append_right _ (tm_4 (List.mem_of_getElem? (i := 179) (by decide +kernel)))⟩)⟩
theorem vm_182 : qz_vm 182 := ⟨tm_4 (List.mem_of_getElem? (i := 167) (by decide +kernel)), tm_1 (List.mem_of_getElem? (i := 1) (by decide +kernel)), Or.inl (by decide +kernel), ⟨by decide +kernel, by decide +kernel, by decide +kernel⟩, by decide +kernel, Or.inr (Or.inl ⟨by decide +kernel, tm_4 (List.mem_of_getElem? (i := 165) (by decide +kernel)), List.mem_append_right _ (tm_4 (List.mem_of_getElem? (i := 166) (by decide +kernel)))⟩)⟩
theorem vm_183 : qz_vm 183 := ⟨tm_8 (List.mem_of_getElem? (i := 41) (by decide +kernel)), tm_1 (List.mem_of_getElem? (i := 13) (by decide +kernel)), Or.inl (by decide +kernel), ⟨by decide +kernel, by decide +kernel, by decide +kernel⟩, by decide +kernel, Or.inr (Or.inl ⟨by decide +kernel, tm_8 (List.mem_of_getElem? (i := 40) (by decide +kernel)), List.mem_append_left _ (List.mem_of_getElem? (i := 112) (by decide +kernel))⟩)⟩
theorem vm_184 : qz_vm 184 := ⟨tm_8 (List.mem_of_getElem? (i := 49) (by decide +kernel)), tm_1 (List.mem_of_getElem? (i := 13) (by decide +kernel)), Or.inl (by decide +kernel), ⟨by decide +kernel, by decide +kernel, by decide +kernel⟩, by decide +kernel, Or.inr (Or.inl ⟨by decide +kernel, tm_8 (List.mem_of_getElem? (i := 48) (by decide +kernel)), List.mem_append_left _ (List.mem_of_getElem? (i := 114) (by decide +kernel))⟩)⟩
theorem vm_185 : qz_vm 185 := ⟨tm_8 (List.mem_of_getElem? (i := 53) (by decide +kernel)), tm_1 (List.mem_of_getElem? (i := 13) (by decide +kernel)), Or.inl (by decide +kernel), ⟨by decide +kernel, by decide +kernel, by decide +kernel⟩, by decide +kernel, Or.inr (Or.inl ⟨by decide +kernel, tm_8 (List.mem_of_getElem? (i := 52) (by decide +kernel)), List.mem_append_left _ (List.mem_of_getElem? (i := 115) (by decide +kernel))⟩)⟩
theorem vm_186 : qz_vm 186 := ⟨tm_8 (List.mem_of_getElem? (i := 45) (by decide +kernel)), tm_1 (List.mem_of_getElem? (i := 13) (by decide +kernel)), Or.inl (by decide +kernel), ⟨by decide +kernel, by decide +kernel, by decide +kernel⟩, by decide +kernel, Or.inr (Or.inl ⟨by decide +kernel, tm_8 (List.mem_of_getElem? (i := 44) (by decide +kernel)), List.mem_append_left _ (List.mem_of_getElem? (i := 113) (by decide +kernel))⟩)⟩
theorem vm_187 : qz_vm 187 := ⟨tm_8 (List.mem_of_getElem? (i := 37) (by decide +kernel)), tm_1 (List.mem_of_getElem? (i := 13) (by decide +kernel)), Or.inl (by decide +kernel), ⟨by decide +kernel, by decide +kernel, by decide +kernel⟩, by decide +kernel, Or.inr (Or.inl ⟨by decide +kernel, tm_8 (List.mem_of_getElem? (i := 35) (by decide +kernel)), List.mem_append_right _ (tm_8 (List.mem_of_getElem? (i := 36) (by decide +kernel)))⟩)⟩
theorem vm_188 : qz_vm 188 := ⟨tm_4 (List.mem_of_getElem? (i := 196) (by decide +kernel)), tm_1 (List.mem_of_getElem? (i := 1) (by decide +kernel)), Or.inl (by decide +kernel), ⟨by decide +kernel, by decide +kernel, by decide +kernel⟩, by decide +kernel, Or.inr (Or.inl ⟨by decide +kernel, tm_4 (List.mem_of_getElem? (i := 195) (by decide +kernel)), List.mem_append_left _ (List.mem_of_getElem? (i := 37) (by decide +kernel))⟩)⟩
theorem vm_189 : qz_vm 189 := ⟨tm_4 (List.mem_of_getElem? (i := 205) (by decide +kernel)), tm_1 (List.mem_of_getElem? (i := 9) (by decide +kernel)), Or.inl (by decide +kernel), ⟨by decide +kernel, by decide +kernel, by decide +kernel⟩, by decide +kernel, Or.inr (Or.inl ⟨by decide +kernel, tm_4 (List.mem_of_getElem? (i := 204) (by decide +kernel)), List.mem_append_left _ (List.mem_of_getElem? (i := 38) (by decide +kernel))⟩)⟩
theorem vm_190 : qz_vm 190 := ⟨tm_4 (List.mem_of_getElem? (i := 211) (by decide +kernel)), tm_1 (List.mem_of_getElem? (i := 9) (by decide +kernel)), Or.inl (by decide +kernel), ⟨by decide +kernel, by decide +kernel, by decide +kernel⟩, by decide +kernel, Or.inr (Or.inl ⟨by decide +kernel, tm_4 (List.mem_of_getElem? (i := 210) (by decide +kernel)), List.mem_append_left _ (List.mem_of_getElem? (i := 39) (by decide +kernel))⟩)⟩
theorem vm_191 : qz_vm 191 := ⟨tm_4 (List.mem_of_getElem? (i := 216) (by decide +kernel)), tm_1 (List.mem_of_getElem? (i := 9) (by decide +kernel)), Or.inl (by decide +kernel), ⟨by decide +kernel, by decide +kernel, by decide +kernel⟩, by decide +kernel, Or.inr (Or.inl ⟨by decide +kernel, tm_4 (List.mem_of_getElem? (i := 215) (by decide +kernel)), List.mem_append_left _ (List.mem_of_getElem? (i := 40) (by decide +kernel))⟩)⟩
theorem vm_192 : qz_vm 192 := ⟨tm_4 (List.mem_of_getElem? (i := 224) (by decide +kernel)), tm_1 (List.mem_of_getElem? (i := 9) (by decide +kernel)), Or.inl (by decide +kernel), ⟨by decide +kernel, by decide +kernel, by decide +kernel⟩, by decide +kernel, Or.inr (Or.inl ⟨by decide +kernel, tm_4 (List.mem_of_getElem? (i := 223) (by decide +kernel)), List.mem_append_left _ (List.mem_of_getElem? (i := 42) (by decide +kernel))⟩)⟩
theorem vm_193 : qz_vm 193 := ⟨tm_4 (List.mem_of_getElem? (i := 220) (by decide +kernel)), tm_1 (List.mem_of_getElem? (i := 9) (by decide +kernel)), Or.inl (by decide +kernel), ⟨by decide +kernel, by decide +kernel, by decide +kernel⟩, by decide +kernel, Or.inr (Or.inl ⟨by decide +kernel, tm_4 (List.mem_of_getElem? (i := 219) (by decide +kernel)), List.mem_append_left _ (List.mem_of_getElem? (i := 41) (by decide +kernel))⟩)⟩
theorem vm_194 : qz_vm 194 := ⟨tm_4 (List.mem_of_getElem? (i := 200) (by decide +kernel)), tm_1 (List.mem_of_getElem? (i := 9) (by decide +kernel)), Or.inl (by decide +kernel), ⟨by decide +kernel, by decide +kernel, by decide +kernel⟩, by decide +kernel, Or.inr (Or.inl ⟨by decide +kernel, tm_4 (List.mem_of_getElem? (i := 198) (by decide +kernel)), List.mem_append_right _ (tm_4 (List.mem_of_getElem? (i := 199) (by decide +kernel)))⟩)⟩
theorem vm_195 : qz_vm 195 := ⟨tm_4 (List.mem_of_getElem? (i := 234) (by decide +kernel)), tm_1 (List.mem_of_getElem? (i := 9) (by decide +kernel)), Or.inl (by decide +kernel), ⟨by decide +kernel, by decide +kernel, by decide +kernel⟩, by decide +kernel, Or.inr (Or.inl ⟨by decide +kernel, tm_4 (List.mem_of_getElem? (i := 233) (by decide +kernel)), List.mem_append_left _ (List.mem_of_getElem? (i := 43) (by decide +kernel))⟩)⟩
theorem vm_196 : qz_vm 196 := ⟨tm_4 (List.mem_of_getElem? (i := 230) (by decide +kernel)), tm_1 (List.mem_of_getElem? (i := 9) (by decide +kernel)), Or.inl (by decide +kernel), ⟨by decide +kernel, by decide +kernel, by decide +kernel⟩, by decide +kernel, Or.inr (Or.inl ⟨by decide +kernel, tm_4 (List.mem_of_getElem? (i := 228) (by decide +kernel)), List.mem_append_right _ (tm_4 (List.mem_of_getElem? (i := 229) (by decide +kernel)))⟩)⟩
theorem vm_197 : qz_vm 197 := ⟨tm_4 (List.mem_of_getElem? (i := 192) (by decide +kernel)), tm_1 (List.mem_of_getElem? (i := 1) (by decide +kernel)), Or.inl (by decide +kernel), ⟨by decide +kernel, by decide +kernel, by decide +kernel⟩, by decide +kernel, Or.inr (Or.inl ⟨by decide +kernel, tm_4 (List.mem_of_getElem? (i := 190) (by decide +kernel)), List.mem_append_right _ (tm_4 (List.mem_of_getElem? (i := 191) (by decide +kernel)))⟩)⟩
theorem vm_198 : qz_vm 198 := ⟨tm_8 (List.mem_of_getElem? (i := 105) (by decide +kernel)), tm_1 (List.mem_of_getElem? (i := 13) (by decide +kernel)), Or.inl (by decide +kernel), ⟨by decide +kernel, by decide +kernel, by decide +kernel⟩, by decide +kernel, Or.inr (Or.inl ⟨by decide +kernel, tm_8 (List.mem_of_getElem? (i := 104) (by decide +kernel)), List.mem_append_left _ (List.mem_of_getElem? (i := 121) (by decide +kernel))⟩)⟩
theorem vm_199 : qz_vm 199 := ⟨tm_8 (List.mem_of_getElem? (i := 68) (by decide +kernel)), tm_1 (List.mem_of_getElem? (i := 13) (by decide +kernel)), Or.inl (by decide +kernel), ⟨by decide +kernel, by decide +kernel, by decide +kernel⟩, by decide +kernel, Or.inl ⟨by decide +kernel, tm_8 (List.mem_of_getElem? (i := 67) (by decide +kernel))⟩⟩
theorem vm_200 : qz_vm 200 := ⟨tm_8 (List.mem_of_getElem? (i := 111) (by decide +kernel)), tm_1 (List.mem_of_getElem? (i := 13) (by decide +kernel)), Or.inl (by decide +kernel), ⟨by decide +kernel, by decide +kernel, by decide +kernel⟩, by decide +kernel, Or.inr (Or.inl ⟨by decide +kernel, tm_8 (List.mem_of_getElem? (i := 110) (by decide +kernel)), List.mem_append_left _ (List.mem_of_getElem? (i := 122) (by decide +kernel))⟩)⟩
theorem vm_201 : qz_vm 201 := ⟨tm_8 (List.mem_of_getElem? (i := 101) (by decide +kernel)), tm_1 (List.mem_of_getElem? (i := 13) (by decide +kernel)), Or.inl (by decide +kernel), ⟨by decide +kernel, by decide +kernel, by decide +kernel⟩, by decide +kernel, Or.inr (Or.inl ⟨by decide +kernel, tm_8 (List.mem_of_getElem? (i := 100) (by decide +kernel)), List.mem_append_left _ (List.mem_of_getElem? (i := 120) (by decide +kernel))⟩)⟩
theorem vm_202 : qz_vm 202 := ⟨tm_8 (List.mem_of_getElem? (i := 97) (by decide +kernel)), tm_1 (List.mem_of_getElem? (i := 13) (by decide +kernel)), Or.inl (by decide +kernel), ⟨by decide +kernel, by decide +kernel, by decide +kernel⟩, by decide +kernel, Or.inr (Or.inl ⟨by decide +kernel, tm_8 (List.mem_of_getElem? (i := 95) (by decide +kernel)), List.mem_append_right _ (tm_8 (List.mem_of_getElem? (i := 96) (by decide +kernel)))⟩)⟩
theorem vm_203 : qz_vm 203 := ⟨tm_5 (List.mem_of_getElem? (i := 2) (by decide +kernel)), tm_1 (List.mem_of_getElem? (i := 9) (by decide +kernel)), Or.inl (by decide +kernel), ⟨by decide +kernel, by decide +kernel, by decide +kernel⟩, by decide +kernel, Or.inr (Or.inl ⟨by decide +kernel, tm_5 (List.mem_of_getElem? (i := 0) (by decide +kernel)), List.mem_append_right _ (tm_5 (List.mem_of_getElem? (i := 1) (by decide +kernel)))⟩)⟩
theorem vm_204 : qz_vm 204 := ⟨tm_4 (List.mem_of_getElem? (i := 238) (by decide +kernel)), tm_1 (List.mem_of_getElem? (i := 1) (by decide +kernel)), Or.inl (by decide +kernel), ⟨by decide +kernel, by decide +kernel, by decide +kernel⟩, by decide +kernel, Or.inr (Or.inl ⟨by decide +kernel, tm_4 (List.mem_of_getElem? (i := 236) (by decide +kernel)), List.mem_append_right _ (tm_4 (List.mem_of_getElem? (i := 237) (by decide +kernel)))⟩)⟩
theorem vm_205 : qz_vm 205 := ⟨tm_8 (List.mem_of_getElem? (i := 115) (by decide +kernel)), tm_1 (List.mem_of_getElem? (i := 13) (by decide +kernel)), Or.inl (by decide +kernel), ⟨by decide +kernel, by decide +kernel, by decide +kernel⟩, by decide +kernel, Or.inr (Or.inl ⟨by decide +kernel, tm_8 (List.mem_of_getElem? (i := 113) (by decide +kernel)), List.mem_append_right _ (tm_8 (List.mem_of_getElem? (i := 114) (by decide +kernel)))⟩)⟩
theorem vm_206 : qz_vm 206 := ⟨tm_5 (List.mem_of_getElem? (i := 14) (by decide +kernel)), tm_1 (List.mem_of_getElem? (i := 10) (by decide +kernel)), Or.inl (by decide +kernel), ⟨by decide +kernel, by decide +kernel, by decide +kernel⟩, by decide +kernel, Or.inr (Or.inl ⟨by decide +kernel, tm_5 (List.mem_of_getElem? (i := 13) (by decide +kernel)), List.mem_append_left _ (List.mem_of_getElem? (i := 44) (by decide +kernel))⟩)⟩
theorem vm_207 : qz_vm 207 := ⟨tm_5 (List.mem_of_getElem? (i := 24) (by decide +kernel)), tm_1 (List.mem_of_getElem? (i := 10) (by decide +kernel)), Or.inl (by decide +kernel), ⟨by decide +kernel, by decide +kernel, by decide +kernel⟩, by decide +kernel, Or.inr (Or.inl ⟨by decide +kernel, tm_5 (List.mem_of_getElem? (i := 22) (by decide +kernel)), List.mem_append_right _ (tm_5 (List.mem_of_getElem? (i := 23) (by decide +kernel)))⟩)⟩
theorem vm_208 : qz_vm 208 := ⟨tm_5 (List.mem_of_getElem? (i := 20) (by decide +kernel)), tm_1 (List.mem_of_getElem? (i := 10) (by decide +kernel)), Or.inl (by decide +kernel), ⟨by decide +kernel, by decide +kernel, by decide +kernel⟩, by decide +kernel, Or.inr (Or.inl ⟨by decide +kernel, tm_5 (List.mem_of_getElem? (i := 19) (by decide +kernel)), List.mem_append_left _ (List.mem_of_getElem? (i := 45) (by decide +kernel))⟩)⟩
theorem vm_209 : qz_vm 209 := ⟨tm_5 (List.mem_of_getElem? (i := 33) (by decide +kernel)), tm_1 (List.mem_of_getElem? (i := 10) (by decide +kernel)), Or.inl (by decide +kernel), ⟨by decide +kernel, by decide +kernel, by decide +kernel⟩, by decide +kernel, Or.inr (Or.inl ⟨by decide +kernel, tm_5 (List.mem_of_getElem? (i := 32) (by decide +kernel)), List.mem_append_left _ (List.mem_of_getElem? (i := 47) (by decide +kernel))⟩)⟩
theorem vm_210 : qz_vm 210 := ⟨tm_5 (List.mem_of_getElem? (i := 29) (by decide +kernel)), tm_1 (List.mem_of_getElem? (i := 10) (by decide +kernel)), Or.inl (by decide +kernel), ⟨by decide +kernel, by decide +kernel, by decide +kernel⟩, by decide +kernel, Or.inr (Or.inl ⟨by decide +kernel, tm_5 (List.mem_of_getElem? (i := 28) (by decide +kernel)), List.mem_append_left _ (List.mem_of_getElem? (i := 46) (by decide +kernel))⟩)⟩
theorem vm_211 : qz_vm 211 := ⟨tm_5 (List.mem_of_getElem? (i := 10) (by decide +kernel)), tm_1 (List.mem_of_getElem? (i := 10) (by decide +kernel)), Or.inl (by decide +kernel), ⟨by decide +kernel, by decide +kernel, by decide +kernel⟩, by decide +kernel, Or.inr (Or.inl ⟨by decide +kernel, tm_5 (List.mem_of_getElem? (i := 8) (by decide +kernel)), List.mem_append_right _ (tm_5 (List.mem_of_getElem? (i := 9) (by decide +kernel)))⟩)⟩
theorem vm_212 : qz_vm 212 := ⟨tm_5 (List.mem_of_getElem? (i := 6) (by decide +kernel)), tm_1 (List.mem_of_getElem? (i := 1) (by decide +kernel)), Or.inl (by decide +kernel), ⟨by decide +kernel, by decide +kernel, by decide +kernel⟩, by decide +kernel, Or.inr (Or.inl ⟨by decide +kernel, tm_5 (List.mem_of_getElem? (i := 4) (by decide +kernel)), List.mem_append_right _ (tm_5 (List.mem_of_getElem? (i := 5) (by decide +kernel)))⟩)⟩
theorem vm_213 : qz_vm 213 := ⟨tm_8 (List.mem_of_getElem? (i := 61) (by decide +kernel)), tm_1 (List.mem_of_getElem? (i := 13) (by decide +kernel)), Or.inl (by decide +kernel), ⟨by decide +kernel, by decide +kernel, by decide +kernel⟩, by decide +kernel, Or.inr (Or.inl ⟨by decide +kernel, tm_8 (List.mem_of_getElem? (i := 60) (by decide +kernel)), List.mem_append_left _ (List.mem_of_getElem? (i := 116) (by decide +kernel))⟩)⟩
theorem vm_214 : qz_vm 214 := ⟨tm_8 (List.mem_of_getElem? (i := 65) (by decide +kernel)), tm_1 (List.mem_of_getElem? (i := 13) (by decide +kernel)), Or.inl (by decide +kernel), ⟨by decide +kernel, by decide +kernel, by decide +kernel⟩, by decide +kernel, Or.inr (Or.inl ⟨by decide +kernel, tm_8 (List.mem_of_getElem? (i := 64) (by decide +kernel)), List.mem_append_left _ (List.mem_of_getElem? (i := 117) (by decide +kernel))⟩)⟩
theorem vm_215 : qz_vm 215 := ⟨tm_8 (List.mem_of_getElem? (i := 57) (by decide +kernel)), tm_1 (List.mem_of_getElem? (i := 13) (by decide +kernel)), Or.inl (by decide +kernel), ⟨by decide +kernel, by decide +kernel, by decide +kernel⟩, by decide +kernel, Or.inr (Or.inl ⟨by decide +kernel, tm_8 (List.mem_of_getElem? (i := 55) (by decide +kernel)), List.mem_append_right _ (tm_8 (List.mem_of_getElem? (i := 56) (by decide +kernel)))⟩)⟩
theorem vm_216 : qz_vm 216 := ⟨tm_5 (List.mem_of_getElem? (i := 45) (by decide +kernel)), tm_1 (List.mem_of_getElem? (i := 3) (by decide +kernel)), Or.inl (by decide +kernel), ⟨by decide +kernel, by decide +kernel, by decide +kernel⟩, by decide +kernel, Or.inr (Or.inl ⟨by decide +kernel, tm_5 (List.mem_of_getElem? (i := 43) (by decide +kernel)), List.mem_append_right _ (tm_5 (List.mem_of_getElem? (i := 44) (by decide +kernel)))⟩)⟩
theorem vm_217 : qz_vm 217 := ⟨tm_5 (List.mem_of_getElem? (i := 53) (by decide +kernel)), tm_1 (List.mem_of_getElem? (i := 1) (by decide +kernel)), Or.inl (by decide +kernel), ⟨by decide +kernel, by decide +kernel, by decide +kernel⟩, by decide +kernel, Or.inr (Or.inl ⟨by decide +kernel, tm_5 (List.mem_of_getElem? (i := 52) (by decide +kernel)), List.mem_append_left _ (List.mem_of_getElem? (i := 49) (by decide +kernel))⟩)⟩
theorem vm_218 : qz_vm 218 := ⟨tm_5 (List.mem_of_getElem? (i := 49) (by decide +kernel)), tm_1 (List.mem_of_getElem? (i := 1) (by decide +kernel)), Or.inl (by decide +kernel), ⟨by decide +kernel, by decide +kernel, by decide +kernel⟩, by decide +kernel, Or.inr (Or.inl ⟨by decide +kernel, tm_5 (List.mem_of_getElem? (i := 48) (by decide +kernel)), List.mem_append_left _ (List.mem_of_getElem? (i := 48) (by decide +kernel))⟩)⟩
theorem vm_219 : qz_vm 219 := ⟨tm_5 (List.mem_of_getElem? (i := 58) (by decide +kernel)), tm_1 (List.mem_of_getElem? (i := 1) (by decide +kernel)), Or.inl (by decide +kernel), ⟨by decide +kernel, by decide +kernel, by decide +kernel⟩, by decide +kernel, Or.inr (Or.inl ⟨by decide +kernel, tm_5 (List.mem_of_getElem? (i := 57) (by decide +kernel)), List.mem_append_left _ (List.mem_of_getElem? (i := 50) (by decide +kernel))⟩)⟩
theorem vm_220 : qz_vm 220 := ⟨tm_5 (List.mem_of_getElem? (i := 41) (by decide +kernel)), tm_1 (List.mem_of_getElem? (i := 1) (by decide +kernel)), Or.inl (by decide +kernel), ⟨by decide +kernel, by decide +kernel, by decide +kernel⟩, by decide +kernel, Or.inr (Or.inl ⟨by decide +kernel, tm_5 (List.mem_of_getElem? (i := 39) (by decide +kernel)), List.mem_append_right _ (tm_5 (List.mem_of_getElem? (i := 40) (by decide +kernel)))⟩)⟩
theorem vm_221 : qz_vm 221 := ⟨tm_8 (List.mem_of_getElem? (i := 88) (by decide +kernel)), tm_1 (List.mem_of_getElem? (i := 13) (by decide +kernel)), Or.inl (by decide +kernel), ⟨by decide +kernel, by decide +kernel, by decide +kernel⟩, by decide +kernel, Or.inr (Or.inl ⟨by decide +kernel, tm_8 (List.mem_of_getElem? (i := 87) (by decide +kernel)), List.mem_append_left _ (List.mem_of_getElem? (i := 119) (by decide +kernel))⟩)⟩
theorem vm_222 : qz_vm 222 := ⟨tm_8 (List.mem_of_getElem? (i := 84) (by decide +kernel)), tm_1 (List.mem_of_getElem? (i := 13) (by decide +kernel)), Or.inl (by decide +kernel), ⟨by decide +kernel, by decide +kernel, by decide +kernel⟩, by decide +kernel, Or.inr (Or.inl ⟨by decide +kernel, tm_8 (List.mem_of_getElem? (i := 82) (by decide +kernel)), List.mem_append_right _ (tm_8 (List.mem_of_getElem? (i := 83) (by decide +kernel)))⟩)⟩
theorem vm_223 : qz_vm 223 := ⟨tm_5 (List.mem_of_getElem? (i := 63) (by decide +kernel)), tm_1 (List.mem_of_getElem? (i := 1) (by decide +kernel)), Or.inl (by decide +kernel), ⟨by decide +kernel, by decide +kernel, by decide +kernel⟩, by decide +kernel, Or.inr (Or.inl ⟨by decide +kernel, tm_5 (List.mem_of_getElem? (i := 61) (by decide +kernel)), List.mem_append_right _ (tm_5 (List.mem_of_getElem? (i := 62) (by decide +kernel)))⟩)⟩
theorem vm_224 : qz_vm 224 := ⟨tm_8 (List.mem_of_getElem? (i := 92) (by decide +kernel)), tm_1 (List.mem_of_getElem? (i := 13) (by decide +kernel)), Or.inl (by decide +kernel), ⟨by decide +kernel, by decide +kernel, by decide +kernel⟩, by decide +kernel, Or.inr (Or.inl ⟨by decide +kernel, tm_8 (List.mem_of_getElem? (i := 90) (by decide +kernel)), List.mem_append_right _ (tm_8 (List.mem_of_getElem? (i := 91) (by decide +kernel)))⟩)⟩
theorem vm_225 : qz_vm 225 := ⟨tm_5 (List.mem_of_getElem? (i := 71) (by decide +kernel)), tm_1 (List.mem_of_getElem? (i := 4) (by decide +kernel)), Or.inl (by decide +kernel), ⟨by decide +kernel, by decide +kernel, by decide +kernel⟩, by decide +kernel, Or.inr (Or.inl ⟨by decide +kernel, tm_5 (List.mem_of_getElem? (i := 69) (by decide +kernel)), List.mem_append_right _ (tm_5 (List.mem_of_getElem? (i := 70) (by decide +kernel)))⟩)⟩
theorem vm_226 : qz_vm 226 := ⟨tm_5 (List.mem_of_getElem? (i := 67) (by decide +kernel)), tm_1 (List.mem_of_getElem? (i := 1) (by decide +kernel)), Or.inl (by decide +kernel), ⟨by decide +kernel, by decide +kernel, by decide +kernel⟩, by decide +kernel, Or.inr (Or.inl ⟨by decide +kernel, tm_5 (List.mem_of_getElem? (i := 65) (by decide +kernel)), List.mem_append_right _ (tm_5 (List.mem_of_getElem? (i := 66) (by decide +kernel)))⟩)⟩
theorem vm_227 : qz_vm 227 := ⟨tm_8 (List.mem_of_getElem? (i := 72) (by decide +kernel)), tm_1 (List.mem_of_getElem? (i := 13) (by decide +kernel)), Or.inl (by decide +kernel), ⟨by decide +kernel, by decide +kernel, by decide +kernel⟩, by decide +kernel, Or.inr (Or.inl ⟨by decide +kernel, tm_8 (List.mem_of_getElem? (i := 70) (by decide +kernel)), List.mem_append_right _ (tm_8 (List.mem_of_getElem? (i := 71) (by decide +kernel)))⟩)⟩
theorem vm_228 : qz_vm 228 := ⟨tm_5 (List.mem_of_getElem? (i := 75) (by decide +kernel)), tm_1 (List.mem_of_getElem? (i := 1) (by decide +kernel)), Or.inl (by decide +kernel), ⟨by decide +kernel, by decide +kernel, by decide +kernel⟩, by decide +kernel, Or.inr (Or.inl ⟨by decide +kernel, tm_5 (List.mem_of_getElem? (i := 73) (by decide +kernel)), List.mem_append_right _ (tm_5 (List.mem_of_getElem? (i := 74) (by decide +kernel)))⟩)⟩
theorem vm_229 : qz_vm 229 := ⟨tm_8 (List.mem_of_getElem? (i := 80) (by decide +kernel)), tm_1 (List.mem_of_getElem? (i := 13) (by decide +kernel)), Or.inl (by decide +kernel), ⟨by decide +kernel, by decide +kernel, by decide +kernel⟩, by decide +kernel, Or.inr (Or.inl ⟨by decide +kernel, tm_8 (List.mem_of_getElem? (i := 79) (by decide +kernel)), List.mem_append_left _ (List.mem_of_getElem? (i := 118) (by decide +kernel))⟩)⟩
theorem vm_230 : qz_vm 230 := ⟨tm_8 (List.mem_of_getElem? (i := 76) (by decide +kernel)), tm_1 (List.mem_of_getElem? (i := 13) (by decide +kernel)), Or.inl (by decide +kernel), ⟨by decide +kernel, by decide +kernel, by decide +kernel⟩, by decide +kernel, Or.inr (Or.inl ⟨by decide +kernel, tm_8 (List.mem_of_getElem? (i := 74) (by decide +kernel)), List.mem_append_right _ (tm_8 (List.mem_of_getElem? (i := 75) (by decide +kernel)))⟩)⟩
theorem vm_231 : qz_vm 231 := ⟨tm_5 (List.mem_of_getElem? (i := 86) (by decide +kernel)), tm_1 (List.mem_of_getElem? (i := 2) (by decide +kernel)), Or.inl (by decide +kernel), ⟨by decide +kernel, by decide +kernel, by decide +kernel⟩, by decide +kernel, Or.inl ⟨by decide +kernel, tm_5 (List.mem_of_getElem? (i := 85) (by decide +kernel))⟩⟩
theorem vm_232 : qz_vm 232 := ⟨tm_5 (List.mem_of_getElem? (i := 83) (by decide +kernel)), tm_1 (List.mem_of_getElem? (i := 2) (by decide +kernel)), Or.inl (by decide +kernel), ⟨by decide +kernel, by decide +kernel, by decide +kernel⟩, by decide +kernel, Or.inr (Or.inl ⟨by decide +kernel, tm_5 (List.mem_of_getElem? (i := 81) (by decide +kernel)), List.mem_append_right _ (tm_5 (List.mem_of_getElem? (i := 82) (by decide +kernel)))⟩)⟩
theorem vm_233 : qz_vm 233 := ⟨tm_5 (List.mem_of_getElem? (i := 79) (by decide +kernel)), tm_1 (List.mem_of_getElem? (i := 1) (by decide +kernel)), Or.inl (by decide +kernel), ⟨by decide +kernel, by decide +kernel, by decide +kernel⟩, by decide +kernel, Or.inr (Or.inl ⟨by decide +kernel, tm_5 (List.mem_of_getElem? (i := 77) (by decide +kernel)), List.mem_append_right _ (tm_5 (List.mem_of_getElem? (i := 78) (by decide +kernel)))⟩)⟩
theorem vm_234 : qz_vm 234 := ⟨tm_8 (List.mem_of_getElem? (i := 119) (by decide +kernel)), tm_1 (List.mem_of_getElem? (i := 13) (by decide +kernel)), Or.inl (by decide +kernel), ⟨by decide +kernel, by decide +kernel, by decide +kernel⟩, by decide +kernel, Or.inr (Or.inl ⟨by decide +kernel, tm_8 (List.mem_of_getElem? (i := 117) (by decide +kernel)), List.mem_append_right _ (tm_8 (List.mem_of_getElem? (i := 118) (by decide +kernel)))⟩)⟩
theorem vm_235 : qz_vm 235 := ⟨tm_5 (List.mem_of_getElem? (i := 95) (by decide +kernel)), tm_1 (List.mem_of_getElem? (i := 2) (by decide +kernel)), Or.inl (by decide +kernel), ⟨by decide +kernel, by decide +kernel, by decide +kernel⟩, by decide +kernel, Or.inr (Or.inl ⟨by decide +kernel, tm_5 (List.mem_of_getElem? (i := 93) (by decide +kernel)), List.mem_append_right _ (tm_5 (List.mem_of_getElem? (i := 94) (by decide +kernel)))⟩)⟩
theorem vm_236 : qz_vm 236 := ⟨tm_5 (List.mem_of_getElem? (i := 91) (by decide +kernel)), tm_1 (List.mem_of_getElem? (i := 1) (by decide +kernel)), Or.inl (by decide +kernel), ⟨by decide +kernel, by decide +kernel, by decide +kernel⟩, by decide +kernel, Or.inr (Or.inl ⟨by decide +kernel, tm_5 (List.mem_of_getElem? (i := 89) (by decide +kernel)), List.mem_append_right _ (tm_5 (List.mem_of_getElem? (i := 90) (by decide +kernel)))⟩)⟩
theorem vm_237 : qz_vm 237 := ⟨tm_8 (List.mem_of_getElem? (i := 127) (by decide +kernel)), tm_1 (List.mem_of_getElem? (i := 13) (by decide +kernel)), Or.inl (by decide +kernel), ⟨by decide +kernel, by decide +kernel, by decide +kernel⟩, by decide +kernel, Or.inr (Or.inl ⟨by decide +kernel, tm_8 (List.mem_of_getElem? (i := 126) (by decide +kernel)), List.mem_append_left _ (List.mem_of_getElem? (i := 123) (by decide +kernel))⟩)⟩
theorem vm_238 : qz_vm 238 := ⟨tm_8 (List.mem_of_getElem? (i := 131) (by decide +kernel)), tm_1 (List.mem_of_getElem? (i := 13) (by decide +kernel)), Or.inl (by decide +kernel), ⟨by decide +kernel, by decide +kernel, by decide +kernel⟩, by decide +kernel, Or.inr (Or.inl ⟨by decide +kernel, tm_8 (List.mem_of_getElem? (i := 130) (by decide +kernel)), List.mem_append_left _ (List.mem_of_getElem? (i := 124) (by decide +kernel))⟩)⟩
theorem vm_239 : qz_vm 239 := ⟨tm_8 (List.mem_of_getElem? (i := 123) (by decide +kernel)), tm_1 (List.mem_of_getElem? (i := 13) (by decide +kernel)), Or.inl (by decide +kernel), ⟨by decide +kernel, by decide +kernel, by decide +kernel⟩, by decide +kernel, Or.inr (Or.inl ⟨by decide +kernel, tm_8 (List.mem_of_getElem? (i := 121) (by decide +kernel)), List.mem_append_right _ (tm_8 (List.mem_of_getElem? (i := 122) (by decide +kernel)))⟩)⟩
theorem vm_240 : qz_vm 240 := ⟨tm_5 (List.mem_of_getElem? (i := 105) (by decide +kernel)), tm_1 (List.mem_of_getElem? (i := 2) (by decide +kernel)), Or.inl (by decide +kernel), ⟨by decide +kernel, by decide +kernel, by decide +kernel⟩, by decide +kernel, Or.inr (Or.inl ⟨by decide +kernel, tm_5 (List.mem_of_getElem? (i := 103) (by decide +kernel)), List.mem_append_right _ (tm_5 (List.mem_of_getElem? (i := 104) (by decide +kernel)))⟩)⟩
theorem vm_241 : qz_vm 241 := ⟨tm_5 (List.mem_of_getElem? (i := 118) (by decide +kernel)), tm_1 (List.mem_of_getElem? (i := 3) (by decide +kernel)), Or.inl (by decide +kernel), ⟨by decide +kernel, by decide +kernel, by decide +kernel⟩, by decide +kernel, Or.inr (Or.inl ⟨by decide +kernel, tm_5 (List.mem_of_getElem? (i := 116) (by decide +kernel)), List.mem_append_right _ (tm_5 (List.mem_of_getElem? (i := 117) (by decide +kernel)))⟩)⟩
theorem vm_242 : qz_vm 242 := ⟨tm_5 (List.mem_of_getElem? (i := 113) (by decide +kernel)), tm_1 (List.mem_of_getElem? (i := 2) (by decide +kernel)), Or.inl (by decide +kernel), ⟨by decide +kernel, by decide +kernel, by decide +kernel⟩, by decide +kernel, Or.inr (Or.inl ⟨by decide +kernel, tm_5 (List.mem_of_getElem? (i := 112) (by decide +kernel)), List.mem_append_left _ (List.mem_of_getElem? (i := 51) (by decide +kernel))⟩)⟩
theorem vm_243 : qz_vm 243 := ⟨tm_5 (List.mem_of_getElem? (i := 109) (by decide +kernel)), tm_1 (List.mem_of_getElem? (i := 2) (by decide +kernel)), Or.inl (by decide +kernel), ⟨by decide +kernel, by decide +kernel, by decide +kernel⟩, by decide +kernel, Or.inr (Or.inl ⟨by decide +kernel, tm_5 (List.mem_of_getElem? (i := 107) (by decide +kernel)), List.mem_append_right _ (tm_5 (List.mem_of_getElem? (i := 108) (by decide +kernel)))⟩)⟩
theorem vm_244 : qz_vm 244 := ⟨tm_5 (List.mem_of_getElem? (i := 127) (by decide +kernel)), tm_1 (List.mem_of_getElem? (i := 2) (by decide +kernel)), Or.inl (by decide +kernel), ⟨by decide +kernel, by decide +kernel, by decide +kernel⟩, by decide +kernel, Or.inr (Or.inl ⟨by decide +kernel, tm_5 (List.mem_of_getElem? (i := 126) (by decide +kernel)), List.mem_append_left _ (List.mem_of_getElem? (i := 52) (by decide +kernel))⟩)⟩
theorem vm_245 : qz_vm 245 := ⟨tm_5 (List.mem_of_getElem? (i := 122) (by decide +kernel)), tm_1 (List.mem_of_getElem? (i := 2) (by decide +kernel)), Or.inl (by decide +kernel), ⟨by decide +kernel, by decide +kernel, by decide +kernel⟩, by decide +kernel, Or.inr (Or.inl ⟨by decide +kernel, tm_5 (List.mem_of_getElem? (i := 120) (by decide +kernel)), List.mem_append_right _ (tm_5 (List.mem_of_getElem? (i := 121) (by decide +kernel)))⟩)⟩
theorem vm_246 : qz_vm 246 := ⟨tm_5 (List.mem_of_getElem? (i := 131) (by decide +kernel)), tm_1 (List.mem_of_getElem? (i := 2) (by decide +kernel)), Or.inl (by decide +kernel), ⟨by decide +kernel, by decide +kernel, by decide +kernel⟩, by decide +kernel, Or.inr (Or.inl ⟨by decide +kernel, tm_5 (List.mem_of_getElem? (i := 129) (by decide +kernel)), List.mem_append_right _ (tm_5 (List.mem_of_getElem? (i := 130) (by decide +kernel)))⟩)⟩
theorem vm_247 : qz_vm 247 := ⟨tm_5 (List.mem_of_getElem? (i := 101) (by decide +kernel)), tm_1 (List.mem_of_getElem? (i := 1) (by decide +kernel)), Or.inl (by decide +kernel), ⟨by decide +kernel, by decide +kernel, by decide +kernel⟩, by decide +kernel, Or.inr (Or.inl ⟨by decide +kernel, tm_5 (List.mem_of_getElem? (i := 99) (by decide +kernel)), List.mem_append_right _ (tm_5 (List.mem_of_getElem? (i := 100) (by decide +kernel)))⟩)⟩
theorem vm_248 : qz_vm 248 := ⟨tm_8 (List.mem_of_getElem? (i := 140) (by decide +kernel)), tm_1 (List.mem_of_getElem? (i := 13) (by decide +kernel)), Or.inl (by decide +kernel), ⟨by decide +kernel, by decide +kernel, by decide +kernel⟩, by decide +kernel, Or.inr (Or.inl ⟨by decide +kernel, tm_8 (List.mem_of_getElem? (i := 139) (by decide +kernel)), List.mem_append_left _ (List.mem_of_getElem? (i := 125) (by decide +kernel))⟩)⟩
theorem vm_249 : qz_vm 249 := ⟨tm_8 (List.mem_of_getElem? (i := 148) (by decide +kernel)), tm_1 (List.mem_of_getElem? (i := 13) (by decide +kernel)), Or.inl (by decide +kernel), ⟨by decide +kernel, by decide +kernel, by decide +kernel⟩, by decide +kernel, Or.inr (Or.inl ⟨by decide +kernel, tm_8 (List.mem_of_getElem? (i := 147) (by decide +kernel)), List.mem_append_left _ (List.mem_of_getElem? (i := 127) (by decide +kernel))⟩)⟩
theorem vm_250 : qz_vm 250 := ⟨tm_8 (List.mem_of_getElem? (i := 152) (by decide +kernel)), tm_1 (List.mem_of_getElem? (i := 13) (by decide +kernel)), Or.inl (by decide +kernel), ⟨by decide +kernel, by decide +kernel, by decide +kernel⟩, by decide +kernel, Or.inr (Or.inl ⟨by decide +kernel, tm_8 (List.mem_of_getElem? (i := 151) (by decide +kernel)), List.mem_append_left _ (List.mem_of_getElem? (i := 128) (by decide +kernel))⟩)⟩
theorem vm_251 : qz_vm 251 := ⟨tm_8 (List.mem_of_getElem? (i := 144) (by decide +kernel)), tm_1 (List.mem_of_getElem? (i := 13) (by decide +kernel)), Or.inl (by decide +kernel), ⟨by decide +kernel, by decide +kernel, by decide +kernel⟩, by decide +kernel, Or.inr (Or.inl ⟨by decide +kernel, tm_8 (List.mem_of_getElem? (i := 143) (by decide +kernel)), List.mem_append_left _ (List.mem_of_getElem? (i := 126) (by decide +kernel))⟩)⟩
theorem vm_252 : qz_vm 252 := ⟨tm_8 (List.mem_of_getElem? (i := 136) (by decide +kernel)), tm_1 (List.mem_of_getElem? (i := 13) (by decide +kernel)), Or.inl (by decide +kernel), ⟨by decide +kernel, by decide +kernel, by decide +kernel⟩, by decide +kernel, Or.inr (Or.inl ⟨by decide +kernel, tm_8 (List.mem_of_getElem? (i := 134) (by decide +kernel)), List.mem_append_right _ (tm_8 (List.mem_of_getElem? (i := 135) (by decide +kernel)))⟩)⟩
theorem vm_253 : qz_vm 253 := ⟨tm_5 (List.mem_of_getElem? (i := 138) (by decide +kernel)), tm_1 (List.mem_of_getElem? (i := 1) (by decide +kernel)), Or.inl (by decide +kernel), ⟨by decide +kernel, by decide +kernel, by decide +kernel⟩, by decide +kernel, Or.inl ⟨by decide +kernel, tm_5 (List.mem_of_getElem? (i := 137) (by decide +kernel))⟩⟩
theorem vm_254 : qz_vm 254 := ⟨tm_5 (List.mem_of_getElem? (i := 135) (by decide +kernel)), tm_1 (List.mem_of_getElem? (i := 1) (by decide +kernel)), Or.inl (by decide +kernel), ⟨by decide +kernel, by decide +kernel, by decide +kernel⟩, by decide +kernel, Or.inr (Or.inl ⟨by decide +kernel, tm_5 (List.mem_of_getElem? (i := 133) (by decide +kernel)), List.mem_append_right _ (tm_5 (List.mem_of_getElem? (i := 134) (by decide +kernel)))⟩)⟩
theorem vm_255 : qz_vm 255 := ⟨tm_8 (List.mem_of_getElem? (i := 156) (by decide +kernel)), tm_1 (List.mem_of_getElem? (i := 13) (by decide +kernel)), Or.inl (by decide +kernel), ⟨by decide +kernel, by decide +kernel, by decide +kernel⟩, by decide +kernel, Or.inr (Or.inl ⟨by decide +kernel, tm_8 (List.mem_of_getElem? (i := 154) (by decide +kernel)), List.mem_append_right _ (tm_8 (List.mem_of_getElem? (i := 155) (by decide +kernel)))⟩)⟩
theorem vm_256 : qz_vm 256 := ⟨tm_5 (List.mem_of_getElem? (i := 144) (by decide +kernel)), tm_1 (List.mem_of_getElem? (i := 1) (by decide +kernel)), Or.inl (by decide +kernel), ⟨by decide +kernel, by decide +kernel, by decide +kernel⟩, by decide +kernel, Or.inr (Or.inl ⟨by decide +kernel, tm_5 (List.mem_of_getElem? (i := 142) (by decide +kernel)), List.mem_append_right _ (tm_5 (List.mem_of_getElem? (i := 143) (by decide +kernel)))⟩)⟩
theorem vm_257 : qz_vm 257 := ⟨tm_8 (List.mem_of_getElem? (i := 160) (by decide +kernel)), tm_1 (List.mem_of_getElem? (i := 13) (by decide +kernel)), Or.inl (by decide +kernel), ⟨by decide +kernel, by decide +kernel, by decide +kernel⟩, by decide +kernel, Or.inr (Or.inl ⟨by decide +kernel, tm_8 (List.mem_of_getElem? (i := 158) (by decide +kernel)), List.mem_append_right _ (tm_8 (List.mem_of_getElem? (i := 159) (by decide +kernel)))⟩)⟩
theorem vm_258 : qz_vm 258 := ⟨tm_5 (List.mem_of_getElem? (i := 158) (by decide +kernel)), tm_1 (List.mem_of_getElem? (i := 11) (by decide +kernel)), Or.inl (by decide +kernel), ⟨by decide +kernel, by decide +kernel, by decide +kernel⟩, by decide +kernel, Or.inr (Or.inl ⟨by decide +kernel, tm_5 (List.mem_of_getElem? (i := 157) (by decide +kernel)), List.mem_append_left _ (List.mem_of_getElem? (i := 53) (by decide +kernel))⟩)⟩
theorem vm_259 : qz_vm 259 := ⟨tm_5 (List.mem_of_getElem? (i := 162) (by decide +kernel)), tm_1 (List.mem_of_getElem? (i := 11) (by decide +kernel)), Or.inl (by decide +kernel), ⟨by decide +kernel, by decide +kernel, by decide +kernel⟩, by decide +kernel, Or.inr (Or.inl ⟨by decide +kernel, tm_5 (List.mem_of_getElem? (i := 161) (by decide +kernel)), List.mem_append_left _ (List.mem_of_getElem? (i := 54) (by decide +kernel))⟩)⟩
theorem vm_260 : qz_vm 260 := ⟨tm_5 (List.mem_of_getElem? (i := 172) (by decide +kernel)), tm_1 (List.mem_of_getElem? (i := 21) (by decide +kernel)), Or.inr (by decide +kernel), ⟨by decide +kernel, by decide +kernel, by decide +kernel⟩, by decide +kernel, Or.inl ⟨by decide +kernel, tm_5 (List.mem_of_getElem? (i := 171) (by decide +kernel))⟩⟩
theorem vm_261 : qz_vm 261 := ⟨tm_5 (List.mem_of_getElem? (i := 167) (by decide +kernel)), tm_1 (List.mem_of_getElem? (i := 11) (by decide +kernel)), Or.inl (by decide +kernel), ⟨by decide +kernel, by decide +kernel, by decide +kernel⟩, by decide +kernel, Or.inr (Or.inl ⟨by decide +kernel, tm_5 (List.mem_of_getElem? (i := 166) (by decide +kernel)), List.mem_append_left _ (List.mem_of_getElem? (i := 55) (by decide +kernel))⟩)⟩
theorem vm_262 : qz_vm 262 := ⟨tm_5 (List.mem_of_getElem? (i := 180) (by decide +kernel)), tm_1 (List.mem_of_getElem? (i := 11) (by decide +kernel)), Or.inl (by decide +kernel), ⟨by decide +kernel, by decide +kernel, by decide +kernel⟩, by decide +kernel, Or.inr (Or.inl ⟨by decide +kernel, tm_5 (List.mem_of_getElem? (i := 179) (by decide +kernel)), List.mem_append_left _ (List.mem_of_getElem? (i := 57) (by decide +kernel))⟩)⟩
theorem vm_263 : qz_vm 263 := ⟨tm_5 (List.mem_of_getElem? (i := 176) (by decide +kernel)), tm_1 (List.mem_of_getElem? (i := 11) (by decide +kernel)), Or.inl (by decide +kernel), ⟨by decide +kernel, by decide +kernel, by decide +kernel⟩, by decide +kernel, Or.inr (Or.inl ⟨by decide +kernel, tm_5 (List.mem_of_getElem? (i := 175) (by decide +kernel)), List.mem_append_left _ (List.mem_of_getElem? (i := 56) (by decide +kernel))⟩)⟩
theorem vm_264 : qz_vm 264 := ⟨tm_5 (List.mem_of_getElem? (i := 153) (by decide +kernel)), tm_1 (List.mem_of_getElem? (i := 11) (by decide +kernel)), Or.inl (by decide +kernel), ⟨by decide +kernel, by decide +kernel, by decide +kernel⟩, by decide +kernel, Or.inr (Or.inl ⟨by decide +kernel, tm_5 (List.mem_of_getElem? (i := 151) (by decide +kernel)), List.mem_append_right _ (tm_5 (List.mem_of_getElem? (i := 152) (by decide +kernel)))⟩)⟩
theorem vm_265 : qz_vm 265 := ⟨tm_5 (List.mem_of_getElem? (i := 184) (by decide +kernel)), tm_1 (List.mem_of_getElem? (i := 11) (by decide +kernel)), Or.inl (by decide +kernel), ⟨by decide +kernel, by decide +kernel, by decide +kernel⟩, by decide +kernel, Or.inr (Or.inl ⟨by decide +kernel, tm_5 (List.mem_of_getElem? (i := 182) (by decide +kernel)), List.mem_append_right _ (tm_5 (List.mem_of_getElem? (i := 183) (by decide +kernel)))⟩)⟩
theorem vm_266 : qz_vm 266 := ⟨tm_5 (List.mem_of_getElem? (i := 148) (by decide +kernel)), tm_1 (List.mem_of_getElem? (i := 1) (by decide +kernel)), Or.inl (by decide +kernel), ⟨by decide +kernel, by decide +kernel, by decide +kernel⟩, by decide +kernel, Or.inr (Or.inl ⟨by decide +kernel, tm_5 (List.mem_of_getElem? (i := 146) (by decide +kernel)), List.mem_append_right _ (tm_5 (List.mem_of_getElem? (i := 147) (by decide +kernel)))⟩)⟩
theorem vm_267 : qz_vm 267 := ⟨tm_8 (List.mem_of_getElem? (i := 174) (by decide +kernel)), tm_1 (List.mem_of_getElem? (i := 13) (by decide +kernel)), Or.inl (by decide +kernel), ⟨by decide +kernel, by decide +kernel, by decide +kernel⟩, by decide +kernel, Or.inr (Or.inl ⟨by decide +kernel, tm_8 (List.mem_of_getElem? (i := 173) (by decide +kernel)), List.mem_append_left _ (List.mem_of_getElem? (i := 130) (by decide +kernel))⟩)⟩
theorem vm_268 : qz_vm 268 := ⟨tm_8 (List.mem_of_getElem? (i := 178) (by decide +kernel)), tm_1 (List.mem_of_getElem? (i := 13) (by decide +kernel)), Or.inl (by decide +kernel), ⟨by decide +kernel, by decide +kernel, by decide +kernel⟩, by decide +kernel, Or.inr (Or.inl ⟨by decide +kernel, tm_8 (List.mem_of_getElem? (i := 177) (by decide +kernel)), List.mem_append_left _ (List.mem_of_getElem? (i := 131) (by decide +kernel))⟩)⟩
theorem vm_269 : qz_vm 269 := ⟨tm_8 (List.mem_of_getElem? (i := 184) (by decide +kernel)), tm_1 (List.mem_of_getElem? (i := 13) (by decide +kernel)), Or.inl (by decide +kernel), ⟨by decide +kernel, by decide +kernel, by decide +kernel⟩, by decide +kernel, Or.inr (Or.inl ⟨by decide +kernel, tm_8 (List.mem_of_getElem? (i := 183) (by decide +kernel)), List.mem_append_left _ (List.mem_of_getElem? (i := 132) (by decide +kernel))⟩)⟩
theorem vm_270 : qz_vm 270 := ⟨tm_8 (List.mem_of_getElem? (i := 170) (by decide +kernel)), tm_1 (List.mem_of_getElem? (i := 13) (by decide +kernel)), Or.inl (by decide +kernel), ⟨by decide +kernel, by decide +kernel, by decide +kernel⟩, by decide +kernel, Or.inr (Or.inl ⟨by decide +kernel, tm_8 (List.mem_of_getElem? (i := 169) (by decide +kernel)), List.mem_append_left _ (List.mem_of_getElem? (i := 129) (by decide +kernel))⟩)⟩
theorem vm_271 : qz_vm 271 := ⟨tm_8 (List.mem_of_getElem? (i := 165) (by decide +kernel)), tm_1 (List.mem_of_getElem? (i := 13) (by decide +kernel)), Or.inl (by decide +kernel), ⟨by decide +kernel, by decide +kernel, by decide +kernel⟩, by decide +kernel, Or.inr (Or.inl ⟨by decide +kernel, tm_8 (List.mem_of_getElem? (i := 163) (by decide +kernel)), List.mem_append_right _ (tm_8 (List.mem_of_getElem? (i := 164) (by decide +kernel)))⟩)⟩
theorem vm_272 : qz_vm 272 := ⟨tm_5 (List.mem_of_getElem? (i := 193) (by decide +kernel)), tm_1 (List.mem_of_getElem? (i := 1) (by decide +kernel)), Or.inl (by decide +kernel), ⟨by decide +kernel, by decide +kernel, by decide +kernel⟩, by decide +kernel, Or.inr (Or.inl ⟨by decide +kernel, tm_5 (List.mem_of_getElem? (i := 192) (by decide +kernel)), List.mem_append_left _ (List.mem_of_getElem? (i := 58) (by decide +kernel))⟩)⟩
theorem vm_273 : qz_vm 273 := ⟨tm_5 (List.mem_of_getElem? (i := 189) (by decide +kernel)), tm_1 (List.mem_of_getElem? (i := 1) (by decide +kernel)), Or.inl (by decide +kernel), ⟨by decide +kernel, by decide +kernel, by decide +kernel⟩, by decide +kernel, Or.inr (Or.inl ⟨by decide +kernel, tm_5 (List.mem_of_getElem? (i := 187) (by decide +kernel)), List.mem_append_right _ (tm_5 (List.mem_of_getElem? (i := 188) (by decide +kernel)))⟩)⟩
theorem vm_274 : qz_vm 274 := ⟨tm_8 (List.mem_of_getElem? (i := 188) (by decide +kernel)), tm_1 (List.mem_of_getElem? (i := 13) (by decide +kernel)), Or.inl (by decide +kernel), ⟨by decide +kernel, by decide +kernel, by decide +kernel⟩, by decide +kernel, Or.inr (Or.inl ⟨by decide +kernel, tm_8 (List.mem_of_getElem? (i := 186) (by decide +kernel)), List.mem_append_right _ (tm_8 (List.mem_of_getElem? (i := 187) (by decide +kernel)))⟩)⟩
theorem vm_275 : qz_vm 275 := ⟨tm_5 (List.mem_of_getElem? (i := 207) (by decide +kernel)), tm_1 (List.mem_of_getElem? (i := 12) (by decide +kernel)), Or.inl (by decide +kernel), ⟨by decide +kernel, by decide +kernel, by decide +kernel⟩, by decide +kernel, Or.inr (Or.inl ⟨by decide +kernel, tm_5 (List.mem_of_getElem? (i := 206) (by decide +kernel)), List.mem_append_left _ (List.mem_of_getElem? (i := 59) (by decide +kernel))⟩)⟩
theorem vm_276 : qz_vm 276 := ⟨tm_5 (List.mem_of_getElem? (i := 213) (by decide +kernel)), tm_1 (List.mem_of_getElem? (i := 12) (by decide +kernel)), Or.inl (by decide +kernel), ⟨by decide +kernel, by decide +kernel, by decide +kernel⟩, by decide +kernel, Or.inr (Or.inl ⟨by decide +kernel, tm_5 (List.mem_of_getElem? (i := 212) (by decide +kernel)), List.mem_append_left _ (List.mem_of_getElem? (i := 60) (by decide +kernel))⟩)⟩
theorem vm_277 : qz_vm 277 := ⟨tm_5 (List.mem_of_getElem? (i := 221) (by decide +kernel)), tm_1 (List.mem_of_getElem? (i := 12) (by decide +kernel)), Or.inl (by decide +kernel), ⟨by decide +kernel, by decide +kernel, by decide +kernel⟩, by decide +kernel, Or.inr (Or.inl ⟨by decide +kernel, tm_5 (List.mem_of_getElem? (i := 220) (by decide +kernel)), List.mem_append_left _ (List.mem_of_getElem? (i := 61) (by decide +kernel))⟩)⟩
theorem vm_278 : qz_vm 278 := ⟨tm_5 (List.mem_of_getElem? (i := 226) (by decide +kernel)), tm_1 (List.mem_of_getElem? (i := 12) (by decide +kernel)), Or.inl (by decide +kernel), ⟨by decide +kernel, by decide +kernel, by decide +kernel⟩, by decide +kernel, Or.inr (Or.inl ⟨by decide +kernel, tm_5 (List.mem_of_getElem? (i := 225) (by decide +kernel)), List.mem_append_left _ (List.mem_of_getElem? (i := 62) (by decide +kernel))⟩)⟩
theorem vm_279 : qz_vm 279 := ⟨tm_5 (List.mem_of_getElem? (i := 202) (by decide +kernel)), tm_1 (List.mem_of_getElem? (i := 12) (by decide +kernel)), Or.inl (by decide +kernel), ⟨by decide +kernel, by decide +kernel, by decide +kernel⟩, by decide +kernel, Or.inr (Or.inl ⟨by decide +kernel, tm_5 (List.mem_of_getElem? (i := 200) (by decide +kernel)), List.mem_append_right _ (tm_5 (List.mem_of_getElem? (i := 201) (by decide +kernel)))⟩)⟩
theorem vm_280 : qz_vm 280 := ⟨tm_5 (List.mem_of_getElem? (i := 230) (by decide +kernel)), tm_1 (List.mem_of_getElem? (i := 12) (by decide +kernel)), Or.inl (by decide +kernel), ⟨by decide +kernel, by decide +kernel, by decide +kernel⟩, by decide +kernel, Or.inr (Or.inl ⟨by decide +kernel, tm_5 (List.mem_of_getElem? (i := 228) (by decide +kernel)), List.mem_append_right _ (tm_5 (List.mem_of_getElem? (i := 229) (by decide +kernel)))⟩)⟩
theorem vm_281 : qz_vm 281 := ⟨tm_5 (List.mem_of_getElem? (i := 198) (by decide +kernel)), tm_1 (List.mem_of_getElem? (i := 1) (by decide +kernel)), Or.inl (by decide +kernel), ⟨by decide +kernel, by decide +kernel, by decide +kernel⟩, by decide +kernel, Or.inr (Or.inl ⟨by decide +kernel, tm_5 (List.mem_of_getElem? (i := 196) (by decide +kernel)), List.mem_append_right _ (tm_5 (List.mem_of_getElem? (i := 197) (by decide +kernel)))⟩)⟩
theorem vm_282 : qz_vm 282 := ⟨tm_8 (List.mem_of_getElem? (i := 196) (by decide +kernel)), tm_1 (List.mem_of_getElem? (i := 13) (by decide +kernel)), Or.inl (by decide +kernel), ⟨by decide +kernel, by decide +kernel, by decide +kernel⟩, by decide +kernel, Or.inr (Or.inl ⟨by decide +kernel, tm_8 (List.mem_of_getElem? (i := 195) (by decide +kernel)), List.mem_append_left _ (List.mem_of_getElem? (i := 133) (by decide +kernel))⟩)⟩
theorem vm_283 : qz_vm 283 := ⟨tm_8 (List.mem_of_getElem? (i := 192) (by decide +kernel)), tm_1 (List.mem_of_getElem? (i := 13) (by decide +kernel)), Or.inl (by decide +kernel), ⟨by decide +kernel, by decide +kernel, by decide +kernel⟩, by decide +kernel, Or.inr (Or.inl ⟨by decide +kernel, tm_8 (List.mem_of_getElem? (i := 190) (by decide +kernel)), List.mem_append_right _ (tm_8 (List.mem_of_getElem? (i := 191) (by decide +kernel)))⟩)⟩
theorem vm_284 : qz_vm 284 := ⟨tm_6 (List.mem_of_getElem? (i := 7) (by decide +kernel)), tm_1 (List.mem_of_getElem? (i := 4) (by decide +kernel)), Or.inl (by decide +kernel), ⟨by decide +kernel, by decide +kernel, by decide +kernel⟩, by decide +kernel, Or.inr (Or.inl ⟨by decide +kernel, tm_6 (List.mem_of_getElem? (i := 5) (by decide +kernel)), List.mem_append_right _ (tm_6 (List.mem_of_getElem? (i := 6) (by decide +kernel)))⟩)⟩
theorem vm_285 : qz_vm 285 := ⟨tm_6 (List.mem_of_getElem? (i := 2) (by decide +kernel)), tm_1 (List.mem_of_getElem? (i := 3) (by decide +kernel)), Or.inl (by decide +kernel), ⟨by decide +kernel, by decide +kernel, by decide +kernel⟩, by decide +kernel, Or.inr (Or.inl ⟨by decide +kernel, tm_6 (List.mem_of_getElem? (i := 0) (by decide +kernel)), List.mem_append_right _ (tm_6 (List.mem_of_getElem? (i := 1) (by decide +kernel)))⟩)⟩
theorem vm_286 : qz_vm 286 := ⟨tm_5 (List.mem_of_getElem? (i := 238) (by decide +kernel)), tm_1 (List.mem_of_getElem? (i := 2) (by decide +kernel)), Or.inl (by decide +kernel), ⟨by decide +kernel, by decide +kernel, by decide +kernel⟩, by decide +kernel, Or.inr (Or.inl ⟨by decide +kernel, tm_5 (List.mem_of_getElem? (i := 236) (by decide +kernel)), List.mem_append_right _ (tm_5 (List.mem_of_getElem? (i := 237) (by decide +kernel)))⟩)⟩
theorem vm_287 : qz_vm 287 := ⟨tm_5 (List.mem_of_getElem? (i := 234) (by decide +kernel)), tm_1 (List.mem_of_getElem? (i := 1) (by decide +kernel)), Or.inl (by decide +kernel), ⟨by decide +kernel, by decide +kernel, by decide +kernel⟩, by decide +kernel, Or.inr (Or.inl ⟨by decide +kernel, tm_5 (List.mem_of_getElem? (i := 232) (by decide +kernel)), List.mem_append_right _ (tm_5 (List.mem_of_getElem? (i := 233) (by decide +kernel)))⟩)⟩
theorem vm_288 : qz_vm 288 := ⟨tm_8 (List.mem_of_getElem? (i := 204) (by decide +kernel)), tm_1 (List.mem_of_getElem? (i := 13) (by decide +kernel)), Or.inl (by decide +kernel), ⟨by decide +kernel, by decide +kernel, by decide +kernel⟩, by decide +kernel, Or.inr (Or.inl ⟨by decide +kernel, tm_8 (List.mem_of_getElem? (i := 203) (by decide +kernel)), List.mem_append_left _ (List.mem_of_getElem? (i := 134) (by decide +kernel))⟩)⟩
theorem vm_289 : qz_vm 289 := ⟨tm_8 (List.mem_of_getElem? (i := 200) (by decide +kernel)), tm_1 (List.mem_of_getElem? (i := 13) (by decide +kernel)), Or.inl (by decide +kernel), ⟨by decide +kernel, by decide +kernel, by decide +kernel⟩, by decide +kernel, Or.inr (Or.inl ⟨by decide +kernel, tm_8 (List.mem_of_getElem? (i := 198) (by decide +kernel)), List.mem_append_right _ (tm_8 (List.mem_of_getElem? (i := 199) (by decide +kernel)))⟩)⟩
theorem vm_290 : qz_vm 290 := ⟨tm_6 (List.mem_of_getElem? (i := 12) (by decide +kernel)), tm_1 (List.mem_of_getElem? (i := 1) (by decide +kernel)), Or.inl (by decide +kernel), ⟨by decide +kernel, by decide +kernel, by decide +kernel⟩, by decide +kernel, Or.inr (Or.inl ⟨by decide +kernel, tm_6 (List.mem_of_getElem? (i := 10) (by decide +kernel)), List.mem_append_right _ (tm_6 (List.mem_of_getElem? (i := 11) (by decide +kernel)))⟩)⟩
theorem vm_291 : qz_vm 291 := ⟨tm_8 (List.mem_of_getElem? (i := 212) (by decide +kernel)), tm_1 (List.mem_of_getElem? (i := 13) (by decide +kernel)), Or.inl (by decide +kernel), ⟨by decide +kernel, by decide +kernel, by decide +kernel⟩, by decide +kernel, Or.inr (Or.inl ⟨by decide +kernel, tm_8 (List.mem_of_getElem? (i := 211) (by decide +kernel)), List.mem_append_left _ (List.mem_of_getElem? (i := 135) (by decide +kernel))⟩)⟩
theorem vm_292 : qz_vm 292 := ⟨tm_8 (List.mem_of_getElem? (i := 208) (by decide +kernel)), tm_1 (List.mem_of_getElem? (i := 13) (by decide +kernel)), Or.inl (by decide +kernel), ⟨by decide +kernel, by decide +kernel, by decide +kernel⟩, by decide +kernel, Or.inr (Or.inl ⟨by decide +kernel, tm_8 (List.mem_of_getElem? (i := 206) (by decide +kernel)), List.mem_append_right _ (tm_8 (List.mem_of_getElem? (i := 207) (by decide +kernel)))⟩)⟩
theorem vm_293 : qz_vm 293 := ⟨tm_6 (List.mem_of_getElem? (i := 20) (by decide +kernel)), tm_1 (List.mem_of_getElem? (i := 2) (by decide +kernel)), Or.inl (by decide +kernel), ⟨by decide +kernel, by decide +kernel, by decide +kernel⟩, by decide +kernel, Or.inr (Or.inl ⟨by decide +kernel, tm_6 (List.mem_of_getElem? (i := 18) (by decide +kernel)), List.mem_append_right _ (tm_6 (List.mem_of_getElem? (i := 19) (by decide +kernel)))⟩)⟩
theorem vm_294 : qz_vm 294 := ⟨tm_6 (List.mem_of_getElem? (i := 16) (by decide +kernel)), tm_1 (List.mem_of_getElem? (i := 1) (by decide +kernel)), Or.inl (by decide +kernel), ⟨by decide +kernel, by decide +kernel, by decide +kernel⟩, by decide +kernel, Or.inr (Or.inl ⟨by decide +kernel, tm_6 (List.mem_of_getElem? (i := 14) (by decide +kernel)), List.mem_append_right _ (tm_6 (List.mem_of_getElem? (i := 15) (by decide +kernel)))⟩)⟩
theorem vm_295 : qz_vm 295 := ⟨tm_8 (List.mem_of_getElem? (i := 216) (by decide +kernel)), tm_1 (List.mem_of_getElem? (i := 13) (by decide +kernel)), Or.inl (by decide +kernel), ⟨by decide +kernel, by decide +kernel, by decide +kernel⟩, by decide +kernel, Or.inr (Or.inl ⟨by decide +kernel, tm_8 (List.mem_of_getElem? (i := 214) (by decide +kernel)), List.mem_append_right _ (tm_8 (List.mem_of_getElem? (i := 215) (by decide +kernel)))⟩)⟩
theorem vb_0 : ∀ a, a < 16 → qz_vm a := lt_s (lt_s (lt_s (lt_s (lt_s (lt_s (lt_s (lt_s (lt_s (lt_s (lt_s (lt_s (lt_s (lt_s (lt_s (lt_s ((fun a h => absurd h (Nat.not_lt_zero a))) vm_0) vm_1) vm_2) vm_3) vm_4) vm_5) vm_6) vm_7) vm_8) vm_9) vm_10) vm_11) vm_12) vm_13) vm_14) vm_15
theorem vb_1 : ∀ a, a < 32 → qz_vm a := lt_s (lt_s (lt_s (lt_s (lt_s (lt_s (lt_s (lt_s (lt_s (lt_s (lt_s (lt_s (lt_s (lt_s (lt_s (lt_s (vb_0) vm_16) vm_17) vm_18) vm_19) vm_20) vm_21) vm_22) vm_23) vm_24) vm_25) vm_26) vm_27) vm_28) vm_29) vm_30) vm_31
theorem vb_2 : ∀ a, a < 48 → qz_vm a := lt_s (lt_s (lt_s (lt_s (lt_s (lt_s (lt_s (lt_s (lt_s (lt_s (lt_s (lt_s (lt_s (lt_s (lt_s (lt_s (vb_1) vm_32) vm_33) vm_34) vm_35) vm_36) vm_37) vm_38) vm_39) vm_40) vm_41) vm_42) vm_43) vm_44) vm_45) vm_46) vm_47
theorem vb_3 : ∀ a, a < 64 → qz_vm a := lt_s (lt_s (lt_s (lt_s (lt_s (lt_s (lt_s (lt_s (lt_s (lt_s (lt_s (lt_s (lt_s (lt_s (lt_s (lt_s (vb_2) vm_48) vm_49) vm_50) vm_51) vm_52) vm_53) vm_54) vm_55) vm_56) vm_57) vm_58) vm_59) vm_60) vm_61) vm_62) vm_63
theorem vb_4 : ∀ a, a < 80 → qz_vm a := lt_s (lt_s (lt_s (lt_s (lt_s (lt_s (lt_s (lt_s (lt_s (lt_s (lt_s (lt_s (lt_s (lt_s (lt_s (lt_s (vb_3) vm_64) vm_65) vm_66) vm_67) vm_68) vm_69) vm_70) vm_71) vm_72) vm_73) vm_74) vm_75) vm_76) vm_77) vm_78) vm_79
theorem vb_5 : ∀ a, a < 96 → qz_vm a := lt_s (lt_s (lt_s (lt_s (lt_s (lt_s (lt_s (lt_s (lt_s (lt_s (lt_s (lt_s (lt_s (lt_s (lt_s (lt_s (vb_4) vm_80) vm_81) vm_82) vm_83) vm_84) vm_85) vm_86) vm_87) vm_88) vm_89) vm_90) vm_91) vm_92) vm_93) vm_94) vm_95
theorem vb_6 : ∀ a, a < 112 → qz_vm a := lt_s (lt_s (lt_s (lt_s (lt_s (lt_s (lt_s (lt_s (lt_s (lt_s (lt_s (lt_s (lt_s (lt_s (lt_s (lt_s (vb_5) vm_96) vm_97) vm_98) vm_99) vm_100) vm_101) vm_102) vm_103) vm_104) vm_105) vm_106) vm_107) vm_108) vm_109) vm_110) vm_111
theorem vb_7 : ∀ a, a < 128 → qz_vm a := lt_s (lt_s (lt_s (lt_s (lt_s (lt_s (lt_s (lt_s (lt_s (lt_s (lt_s (lt_s (lt_s (lt_s (lt_s (lt_s (vb_6) vm_112) vm_113) vm_114) vm_115) vm_116) vm_117) vm_118) vm_119) vm_120) vm_121) vm_122) vm_123) vm_124) vm_125) vm_126) vm_127
theorem vb_8 : ∀ a, a < 144 → qz_vm a := lt_s (lt_s (lt_s (lt_s (lt_s (lt_s (lt_s (lt_s (lt_s (lt_s (lt_s (lt_s (lt_s (lt_s (lt_s (lt_s (vb_7) vm_128) vm_129) vm_130) vm_131) vm_132) vm_133) vm_134) vm_135) vm_136) vm_137) vm_138) vm_139) vm_140) vm_141) vm_142) vm_143
theorem vb_9 : ∀ a, a < 160 → qz_vm a := lt_s (lt_s (lt_s (lt_s (lt_s (lt_s (lt_s (lt_s (lt_s (lt_s (lt_s (lt_s (lt_s (lt_s (lt_s (lt_s (vb_8) vm_144) vm_145) vm_146) vm_147) vm_148) vm_149) vm_150) vm_151) vm_152) vm_153) vm_154) vm_155) vm_156) vm_157) vm_158) vm_159
theorem vb_10 : ∀ a, a < 176 → qz_vm a := lt_s (lt_s (lt_s (lt_s (lt_s (lt_s (lt_s (lt_s (lt_s (lt_s (lt_s (lt_s (lt_s (lt_s (lt_s (lt_s (vb_9) vm_160) vm_161) vm_162) vm_163) vm_164) vm_165) vm_166) vm_167) vm_168) vm_169) vm_170) vm_171) vm_172) vm_173) vm_174) vm_175
theorem vb_11 : ∀ a, a < 192 → qz_vm a := lt_s (lt_s (lt_s (lt_s (lt_s (lt_s (lt_s (lt_s (lt_s (lt_s (lt_s (lt_s (lt_s (lt_s (lt_s (lt_s (vb_10) vm_176) vm_177) vm_178) vm_179) vm_180) vm_181) vm_182) vm_183) vm_184) vm_185) vm_186) vm_187) vm_188) vm_189) vm_190) vm_191
theorem vb_12 : ∀ a, a < 208 → qz_vm a := lt_s (lt_s (lt_s (lt_s (lt_s (lt_s (lt_s (lt_s (lt_s (lt_s (lt_s (lt_s (lt_s (lt_s (lt_s (lt_s (vb_11) vm_192) vm_193) vm_194) vm_195) vm_196) vm_197) vm_198) vm_199) vm_200) vm_201) vm_202) vm_203) vm_204) vm_205) vm_206) vm_207
theorem vb_13 : ∀ a, a < 224 → qz_vm a := lt_s (lt_s (lt_s (lt_s (lt_s (lt_s (lt_s (lt_s (lt_s (lt_s (lt_s (lt_s (lt_s (lt_s (lt_s (lt_s (vb_12) vm_208) vm_209) vm_210) vm_211) vm_212) vm_213) vm_214) vm_215) vm_216) vm_217) vm_218) vm_219) vm_220) vm_221) vm_222) vm_223
theorem vb_14 : ∀ a, a < 240 → qz_vm a := lt_s (lt_s (lt_s (lt_s (lt_s (lt_s (lt_s (lt_s (lt_s (lt_s (lt_s (lt_s (lt_s (lt_s (lt_s (lt_s (vb_13) vm_224) vm_225) vm_226) vm_227) vm_228) vm_229) vm_230) vm_231) vm_232) vm_233) vm_234) vm_235) vm_236) vm_237) vm_238) vm_239
theorem vb_15 : ∀ a, a < 256 → qz_vm a := lt_s (lt_s (lt_s (lt_s (lt_s (lt_s (lt_s (lt_s (lt_s (lt_s (lt_s (lt_s (lt_s (lt_s (lt_s (lt_s (vb_14) vm_240) vm_241) vm_242) vm_243) vm_244) vm_245) vm_246) vm_247) vm_248) vm_249) vm_250) vm_251) vm_252) vm_253) vm_254) vm_255
theorem vb_16 : ∀ a, a < 272 → qz_vm a := lt_s (lt_s (lt_s (lt_s (lt_s (lt_s (lt_s (lt_s (lt_s (lt_s (lt_s (lt_s (lt_s (lt_s (lt_s (lt_s (vb_15) vm_256) vm_257) vm_258) vm_259) vm_260) vm_261) vm_262) vm_263) vm_264) vm_265) vm_266) vm_267) vm_268) vm_269) vm_270) vm_271
theorem vb_17 : ∀ a, a < 288 → qz_vm a := lt_s (lt_s (lt_s (lt_s (lt_s (lt_s (lt_s (lt_s (lt_s (lt_s (lt_s (lt_s (lt_s (lt_s (lt_s (lt_s (vb_16) vm_272) vm_273) vm_274) vm_275) vm_276) vm_277) vm_278) vm_279) vm_280) vm_281) vm_282) vm_283) vm_284) vm_285) vm_286) vm_287
theorem vb_18 : ∀ a, a < 296 → qz_vm a := lt_s (lt_s (lt_s (lt_s (lt_s (lt_s (lt_s (lt_s (vb_17) vm_288) vm_289) vm_290) vm_291) vm_292) vm_293) vm_294) vm_295
theorem qz_vms : ∀ a, a < 296 → qz_vm a := vb_18
def qz_flw (q : Nat × Nat × Nat × Nat) : Prop := Cond.fieldLink (qz_gd "" qz_on q.1) q.2.1 (qz_gd "" qz_cn q.2.2.1) ((qz_gd (cT_0, cY_0, 0) qz_ct q.2.2.1).1 q.2.2.2).2.1 ((qz_gd (cT_0, cY_0, 0) qz_ct q.2.2.1).1 q.2.2.2).2.2.1 ∈ tables_1 ∧ q.2.2.2 < (qz_gd (cT_0, cY_0, 0) qz_ct q.2.2.1).2.2 ∧ q.2.2.1 < 13
def qz_fl_0 : List (Nat × Nat × Nat × Nat) := [(0, 9, 0, 0), (0, 15, 0, 1), (0, 18, 0, 2), (0, 21, 0, 3), (0, 25, 0, 4), (0, 28, 0, 5), (1, 9, 1, 0), (1, 15, 1, 1), (1, 18, 1, 2), (1, 22, 8, 9), (1, 28, 0, 0), (1, 60, 8, 2), (1, 63, 8, 1), (1, 70, 8, 8), (2, 9, 2, 0), (2, 15, 2, 1)]
theorem qz_fl_ok0 : ∀ q ∈ qz_fl_0, qz_flw q := List.forall_mem_cons.mpr ⟨⟨tm_1 (List.mem_of_getElem? (i := 49) (by decide +kernel)), by decide +kernel, by decide +kernel⟩, List.forall_mem_cons.mpr ⟨⟨tm_1 (List.mem_of_getElem? (i := 54) (by decide +kernel)), by decide +kernel, by decide +kernel⟩, List.forall_mem_cons.mpr ⟨⟨tm_1 (List.mem_of_getElem? (i := 58) (by decide +kernel)), by decide +kernel, by decide +kernel⟩, List.forall_mem_cons.mpr ⟨⟨tm_1 (List.mem_of_getElem? (i := 61) (by decide +kernel)), by decide +kernel, by decide +kernel⟩, List.forall_mem_cons.mpr ⟨⟨tm_1 (List.mem_of_getElem? (i := 63) (by decide +kernel)), by decide +kernel, by decide +kernel⟩, List.forall_mem_cons.mpr ⟨⟨tm_1 (List.mem_of_getElem? (i := 65) (by decide +kernel)), by decide +kernel, by decide +kernel⟩, List.forall_mem_cons.mpr ⟨⟨tm_2 (List.mem_of_getElem? (i := 101) (by decide +kernel)), by decide +kernel, by decide +kernel⟩, List.forall_mem_cons.mpr ⟨⟨tm_2 (List.mem_of_getElem? (i := 102) (by decide +kernel)), by decide +kernel, by decide +kernel⟩, List.forall_mem_cons.mpr ⟨⟨tm_2 (List.mem_of_getElem? (i := 103) (by decide +kernel)), by decide +kernel, by decide +kernel⟩, List.forall_mem_cons.mpr ⟨⟨tm_1 (List.mem_of_getElem? (i := 120) (by decide +kernel)), by decide +kernel, by decide +kernel⟩, List.forall_mem_cons.mpr ⟨⟨tm_1 (List.mem_of_getElem? (i := 50) (by decide +kernel)), by decide +kernel, by decide +kernel⟩, List.forall_mem_cons.mpr ⟨⟨tm_1 (List.mem_of_getElem? (i := 93) (by decide +kernel)), by decide +kernel, by decide +kernel⟩, List.forall_mem_cons.mpr ⟨⟨tm_1 (List.mem_of_getElem? (i := 87) (by decide +kernel)), by decide +kernel, by decide +kernel⟩, List.forall_mem_cons.mpr ⟨⟨tm_1 (List.mem_of_getElem? (i := 116) (by decide +kernel)), by decide +kernel, by decide +kernel⟩, List.forall_mem_cons.mpr ⟨⟨tm_2 (List.mem_of_getElem? (i := 145) (by decide +kernel)), by decide +kernel, by decide +kernel⟩, List.forall_mem_cons.mpr ⟨⟨tm_2 (List.mem_of_getElem? (i := 147) (by decide +kernel)), by decide +kernel, by decide +kernel⟩, (fun _ h => absurd h List.not_mem_nil)⟩⟩⟩⟩⟩⟩⟩⟩⟩⟩⟩⟩⟩⟩⟩⟩
def qz_fl_1 : List (Nat × Nat × Nat × Nat) := [(2, 18, 2, 2), (2, 21, 2, 3), (2, 24, 2, 4), (2, 27, 2, 5), (2, 30, 5, 0), (2, 83, 3, 4), (3, 9, 3, 0), (3, 15, 3, 1), (3, 18, 3, 2), (3, 21, 3, 3), (3, 24, 3, 4), (3, 28, 3, 5), (3, 31, 3, 6), (3, 34, 3, 7), (3, 37, 3, 8), (3, 40, 3, 9)]
theorem qz_fl_ok1 : ∀ q ∈ qz_fl_1, qz_flw q := List.forall_mem_cons.mpr ⟨⟨tm_2 (List.mem_of_getElem? (i := 148) (by decide +kernel)), by decide +kernel, by decide +kernel⟩, List.forall_mem_cons.mpr ⟨⟨tm_2 (List.mem_of_getElem? (i := 149) (by decide +kernel)), by decide +kernel, by decide +kernel⟩, List.forall_mem_cons.mpr ⟨⟨tm_2 (List.mem_of_getElem? (i := 150) (by decide +kernel)), by decide +kernel, by decide +kernel⟩, List.forall_mem_cons.mpr ⟨⟨tm_2 (List.mem_of_getElem? (i := 151) (by decide +kernel)), by decide +kernel, by decide +kernel⟩, List.forall_mem_cons.mpr ⟨⟨tm_2 (List.mem_of_getElem? (i := 48) (by decide +kernel)), by decide +kernel, by decide +kernel⟩, List.forall_mem_cons.mpr ⟨⟨tm_2 (List.mem_of_getElem? (i := 14) (by decide +kernel)), by decide +kernel, by decide +kernel⟩, List.forall_mem_cons.mpr ⟨⟨tm_2 (List.mem_of_getElem? (i := 5) (by decide +kernel)), by decide +kernel, by decide +kernel⟩, List.forall_mem_cons.mpr ⟨⟨tm_2 (List.mem_of_getElem? (i := 7) (by decide +kernel)), by decide +kernel, by decide +kernel⟩, List.forall_mem_cons.mpr ⟨⟨tm_2 (List.mem_of_getElem? (i := 9) (by decide +kernel)), by decide +kernel, by decide +kernel⟩, List.forall_mem_cons.mpr ⟨⟨tm_2 (List.mem_of_getElem? (i := 11) (by decide +kernel)), by decide +kernel, by decide +kernel⟩, List.forall_mem_cons.mpr ⟨⟨tm_2 (List.mem_of_getElem? (i := 13) (by decide +kernel)), by decide +kernel, by decide +kernel⟩, List.forall_mem_cons.mpr ⟨⟨tm_2 (List.mem_of_getElem? (i := 15) (by decide +kernel)), by decide +kernel, by decide +kernel⟩, List.forall_mem_cons.mpr ⟨⟨tm_2 (List.mem_of_getElem? (i := 16) (by decide +kernel)), by decide +kernel, by decide +kernel⟩, List.forall_mem_cons.mpr ⟨⟨tm_2 (List.mem_of_getElem? (i := 17) (by decide +kernel)), by decide +kernel, by decide +kernel⟩, List.forall_mem_cons.mpr ⟨⟨tm_2 (List.mem_of_getElem? (i := 18) (by decide +kernel)), by decide +kernel, by decide +kernel⟩, List.forall_mem_cons.mpr ⟨⟨tm_2 (List.mem_of_getElem? (i := 19) (by decide +kernel)), by decide +kernel, by decide +kernel⟩, (fun _ h => absurd h List.not_mem_nil)⟩⟩⟩⟩⟩⟩⟩⟩⟩⟩⟩⟩⟩⟩⟩⟩
def qz_fl_2 : List (Nat × Nat × Nat × Nat) := [(4, 12, 4, 0), (4, 16, 4, 1), (4, 19, 4, 2), (4, 22, 4, 3), (4, 26, 5, 0), (4, 59, 8, 2), (4, 64, 8, 1), (4, 67, 8, 8), (4, 70, 8, 7), (4, 77, 5, 1), (4, 95, 5, 2), (5, 9, 5, 0), (5, 15, 5, 1), (5, 19, 5, 2), (5, 22, 5, 3), (5, 25, 5, 4)]
theorem qz_fl_ok2 : ∀ q ∈ qz_fl_2, qz_flw q := List.forall_mem_cons.mpr ⟨⟨tm_2 (List.mem_of_getElem? (i := 82) (by decide +kernel)), by decide +kernel, by decide +kernel⟩, List.forall_mem_cons.mpr ⟨⟨tm_2 (List.mem_of_getElem? (i := 83) (by decide +kernel)), by decide +kernel, by decide +kernel⟩, List.forall_mem_cons.mpr ⟨⟨tm_2 (List.mem_of_getElem? (i := 84) (by decide +kernel)), by decide +kernel, by decide +kernel⟩, List.forall_mem_cons.mpr ⟨⟨tm_2 (List.mem_of_getElem? (i := 85) (by decide +kernel)), by decide +kernel, by decide +kernel⟩, List.forall_mem_cons.mpr ⟨⟨tm_2 (List.mem_of_getElem? (i := 49) (by decide +kernel)), by decide +kernel, by decide +kernel⟩, List.forall_mem_cons.mpr ⟨⟨tm_1 (List.mem_of_getElem? (i := 92) (by decide +kernel)), by decide +kernel, by decide +kernel⟩, List.forall_mem_cons.mpr ⟨⟨tm_1 (List.mem_of_getElem? (i := 86) (by decide +kernel)), by decide +kernel, by decide +kernel⟩, List.forall_mem_cons.mpr ⟨⟨tm_1 (List.mem_of_getElem? (i := 115) (by decide +kernel)), by decide +kernel, by decide +kernel⟩, List.forall_mem_cons.mpr ⟨⟨tm_1 (List.mem_of_getElem? (i := 110) (by decide +kernel)), by decide +kernel, by decide +kernel⟩, List.forall_mem_cons.mpr ⟨⟨tm_2 (List.mem_of_getElem? (i := 52) (by decide +kernel)), by decide +kernel, by decide +kernel⟩, List.forall_mem_cons.mpr ⟨⟨tm_2 (List.mem_of_getElem? (i := 55) (by decide +kernel)), by decide +kernel, by decide +kernel⟩, List.forall_mem_cons.mpr ⟨⟨tm_2 (List.mem_of_getElem? (i := 47) (by decide +kernel)), by decide +kernel, by decide +kernel⟩, List.forall_mem_cons.mpr ⟨⟨tm_2 (List.mem_of_getElem? (i := 51) (by decide +kernel)), by decide +kernel, by decide +kernel⟩, List.forall_mem_cons.mpr ⟨⟨tm_2 (List.mem_of_getElem? (i := 54) (by decide +kernel)), by decide +kernel, by decide +kernel⟩, List.forall_mem_cons.mpr ⟨⟨tm_2 (List.mem_of_getElem? (i := 56) (by decide +kernel)), by decide +kernel, by decide +kernel⟩, List.forall_mem_cons.mpr ⟨⟨tm_2 (List.mem_of_getElem? (i := 57) (by decide +kernel)), by decide +kernel, by decide +kernel⟩, (fun _ h => absurd h List.not_mem_nil)⟩⟩⟩⟩⟩⟩⟩⟩⟩⟩⟩⟩⟩⟩⟩⟩
def qz_fl_3 : List (Nat × Nat × Nat × Nat) := [(5, 28, 5, 5), (5, 31, 5, 6), (6, 11, 6, 0), (6, 17, 6, 1), (6, 21, 6, 2), (6, 29, 8, 0), (6, 49, 8, 2), (6, 53, 8, 7), (6, 56, 8, 9), (6, 60, 0, 1), (6, 72, 8, 8), (7, 11, 7, 0), (7, 15, 7, 1), (7, 18, 7, 2), (7, 21, 7, 3), (7, 25, 7, 4)]
theorem qz_fl_ok3 : ∀ q ∈ qz_fl_3, qz_flw q := List.forall_mem_cons.mpr ⟨⟨tm_2 (List.mem_of_getElem? (i := 58) (by decide +kernel)), by decide +kernel, by decide +kernel⟩, List.forall_mem_cons.mpr ⟨⟨tm_2 (List.mem_of_getElem? (i := 59) (by decide +kernel)), by decide +kernel, by decide +kernel⟩, List.forall_mem_cons.mpr ⟨⟨tm_1 (List.mem_of_getElem? (i := 163) (by decide +kernel)), by decide +kernel, by decide +kernel⟩, List.forall_mem_cons.mpr ⟨⟨tm_1 (List.mem_of_getElem? (i := 165) (by decide +kernel)), by decide +kernel, by decide +kernel⟩, List.forall_mem_cons.mpr ⟨⟨tm_1 (List.mem_of_getElem? (i := 166) (by decide +kernel)), by decide +kernel, by decide +kernel⟩, List.forall_mem_cons.mpr ⟨⟨tm_1 (List.mem_of_getElem? (i := 82) (by decide +kernel)), by decide +kernel, by decide +kernel⟩, List.forall_mem_cons.mpr ⟨⟨tm_1 (List.mem_of_getElem? (i := 96) (by decide +kernel)), by decide +kernel, by decide +kernel⟩, List.forall_mem_cons.mpr ⟨⟨tm_1 (List.mem_of_getElem? (i := 113) (by decide +kernel)), by decide +kernel, by decide +kernel⟩, List.forall_mem_cons.mpr ⟨⟨tm_1 (List.mem_of_getElem? (i := 123) (by decide +kernel)), by decide +kernel, by decide +kernel⟩, List.forall_mem_cons.mpr ⟨⟨tm_1 (List.mem_of_getElem? (i := 57) (by decide +kernel)), by decide +kernel, by decide +kernel⟩, List.forall_mem_cons.mpr ⟨⟨tm_1 (List.mem_of_getElem? (i := 118) (by decide +kernel)), by decide +kernel, by decide +kernel⟩, List.forall_mem_cons.mpr ⟨⟨tm_2 (List.mem_of_getElem? (i := 117) (by decide +kernel)), by decide +kernel, by decide +kernel⟩, List.forall_mem_cons.mpr ⟨⟨tm_2 (List.mem_of_getElem? (i := 118) (by decide +kernel)), by decide +kernel, by decide +kernel⟩, List.forall_mem_cons.mpr ⟨⟨tm_2 (List.mem_of_getElem? (i := 119) (by decide +kernel)), by decide +kernel, by decide +kernel⟩, List.forall_mem_cons.mpr ⟨⟨tm_2 (List.mem_of_getElem? (i := 120) (by decide +kernel)), by decide +kernel, by decide +kernel⟩, List.forall_mem_cons.mpr ⟨⟨tm_2 (List.mem_of_getElem? (i := 121) (by decide +kernel)), by decide +kernel, by decide +kernel⟩, (fun _ h => absurd h List.not_mem_nil)⟩⟩⟩⟩⟩⟩⟩⟩⟩⟩⟩⟩⟩⟩⟩⟩
def qz_fl_4 : List (Nat × Nat × Nat × Nat) := [(7, 28, 7, 5), (7, 31, 7, 6), (7, 35, 8, 2), (7, 44, 8, 1), (7, 50, 8, 10), (7, 53, 8, 11), (7, 79, 8, 12), (7, 82, 8, 13), (8, 9, 8, 0), (8, 15, 8, 1), (8, 19, 8, 2), (8, 22, 8, 3), (8, 25, 8, 4), (8, 28, 8, 5), (8, 31, 8, 6), (8, 34, 8, 7)]
theorem qz_fl_ok4 : ∀ q ∈ qz_fl_4, qz_flw q := List.forall_mem_cons.mpr ⟨⟨tm_2 (List.mem_of_getElem? (i := 122) (by decide +kernel)), by decide +kernel, by decide +kernel⟩, List.forall_mem_cons.mpr ⟨⟨tm_2 (List.mem_of_getElem? (i := 123) (by decide +kernel)), by decide +kernel, by decide +kernel⟩, List.forall_mem_cons.mpr ⟨⟨tm_1 (List.mem_of_getElem? (i := 91) (by decide +kernel)), by decide +kernel, by decide +kernel⟩, List.forall_mem_cons.mpr ⟨⟨tm_1 (List.mem_of_getElem? (i := 85) (by decide +kernel)), by decide +kernel, by decide +kernel⟩, List.forall_mem_cons.mpr ⟨⟨tm_1 (List.mem_of_getElem? (i := 125) (by decide +kernel)), by decide +kernel, by decide +kernel⟩, List.forall_mem_cons.mpr ⟨⟨tm_1 (List.mem_of_getElem? (i := 129) (by decide +kernel)), by decide +kernel, by decide +kernel⟩, List.forall_mem_cons.mpr ⟨⟨tm_1 (List.mem_of_getElem? (i := 131) (by decide +kernel)), by decide +kernel, by decide +kernel⟩, List.forall_mem_cons.mpr ⟨⟨tm_1 (List.mem_of_getElem? (i := 133) (by decide +kernel)), by decide +kernel, by decide +kernel⟩, List.forall_mem_cons.mpr ⟨⟨tm_1 (List.mem_of_getElem? (i := 81) (by decide +kernel)), by decide +kernel, by decide +kernel⟩, List.forall_mem_cons.mpr ⟨⟨tm_1 (List.mem_of_getElem? (i := 84) (by decide +kernel)), by decide +kernel, by decide +kernel⟩, List.forall_mem_cons.mpr ⟨⟨tm_1 (List.mem_of_getElem? (i := 90) (by decide +kernel)), by decide +kernel, by decide +kernel⟩, List.forall_mem_cons.mpr ⟨⟨tm_1 (List.mem_of_getElem? (i := 97) (by decide +kernel)), by decide +kernel, by decide +kernel⟩, List.forall_mem_cons.mpr ⟨⟨tm_1 (List.mem_of_getElem? (i := 100) (by decide +kernel)), by decide +kernel, by decide +kernel⟩, List.forall_mem_cons.mpr ⟨⟨tm_1 (List.mem_of_getElem? (i := 103) (by decide +kernel)), by decide +kernel, by decide +kernel⟩, List.forall_mem_cons.mpr ⟨⟨tm_1 (List.mem_of_getElem? (i := 106) (by decide +kernel)), by decide +kernel, by decide +kernel⟩, List.forall_mem_cons.mpr ⟨⟨tm_1 (List.mem_of_getElem? (i := 109) (by decide +kernel)), by decide +kernel, by decide +kernel⟩, (fun _ h => absurd h List.not_mem_nil)⟩⟩⟩⟩⟩⟩⟩⟩⟩⟩⟩⟩⟩⟩⟩⟩
def qz_fl_5 : List (Nat × Nat × Nat × Nat) := [(8, 38, 8, 8), (8, 44, 8, 9), (8, 48, 8, 10), (8, 51, 8, 11), (8, 54, 8, 12), (8, 57, 8, 13), (8, 87, 0, 0), (8, 90, 0, 5), (8, 93, 0, 1), (8, 108, 0, 2), (9, 12, 9, 0), (9, 18, 9, 1), (9, 22, 9, 2), (9, 26, 9, 3), (9, 29, 9, 4), (9, 32, 9, 5)]
theorem qz_fl_ok5 : ∀ q ∈ qz_fl_5, qz_flw q := List.forall_mem_cons.mpr ⟨⟨tm_1 (List.mem_of_getElem? (i := 114) (by decide +kernel)), by decide +kernel, by decide +kernel⟩, List.forall_mem_cons.mpr ⟨⟨tm_1 (List.mem_of_getElem? (i := 119) (by decide +kernel)), by decide +kernel, by decide +kernel⟩, List.forall_mem_cons.mpr ⟨⟨tm_1 (List.mem_of_getElem? (i := 124) (by decide +kernel)), by decide +kernel, by decide +kernel⟩, List.forall_mem_cons.mpr ⟨⟨tm_1 (List.mem_of_getElem? (i := 128) (by decide +kernel)), by decide +kernel, by decide +kernel⟩, List.forall_mem_cons.mpr ⟨⟨tm_1 (List.mem_of_getElem? (i := 130) (by decide +kernel)), by decide +kernel, by decide +kernel⟩, List.forall_mem_cons.mpr ⟨⟨tm_1 (List.mem_of_getElem? (i := 132) (by decide +kernel)), by decide +kernel, by decide +kernel⟩, List.forall_mem_cons.mpr ⟨⟨tm_1 (List.mem_of_getElem? (i := 53) (by decide +kernel)), by decide +kernel, by decide +kernel⟩, List.forall_mem_cons.mpr ⟨⟨tm_1 (List.mem_of_getElem? (i := 66) (by decide +kernel)), by decide +kernel, by decide +kernel⟩, List.forall_mem_cons.mpr ⟨⟨tm_1 (List.mem_of_getElem? (i := 56) (by decide +kernel)), by decide +kernel, by decide +kernel⟩, List.forall_mem_cons.mpr ⟨⟨tm_1 (List.mem_of_getElem? (i := 60) (by decide +kernel)), by decide +kernel, by decide +kernel⟩, List.forall_mem_cons.mpr ⟨⟨tm_1 (List.mem_of_getElem? (i := 213) (by decide +kernel)), by decide +kernel, by decide +kernel⟩, List.forall_mem_cons.mpr ⟨⟨tm_1 (List.mem_of_getElem? (i := 214) (by decide +kernel)), by decide +kernel, by decide +kernel⟩, List.forall_mem_cons.mpr ⟨⟨tm_1 (List.mem_of_getElem? (i := 215) (by decide +kernel)), by decide +kernel, by decide +kernel⟩, List.forall_mem_cons.mpr ⟨⟨tm_1 (List.mem_of_getElem? (i := 216) (by decide +kernel)), by decide +kernel, by decide +kernel⟩, List.forall_mem_cons.mpr ⟨⟨tm_1 (List.mem_of_getElem? (i := 217) (by decide +kernel)), by decide +kernel, by decide +kernel⟩, List.forall_mem_cons.mpr ⟨⟨tm_1 (List.mem_of_getElem? (i := 218) (by decide +kernel)), by decide +kernel, by decide +kernel⟩, (fun _ h => absurd h List.not_mem_nil)⟩⟩⟩⟩⟩⟩⟩⟩⟩⟩⟩⟩⟩⟩⟩⟩
def qz_fl_6 : List (Nat × Nat × Nat × Nat) := [(9, 35, 9, 6), (9, 38, 9, 7), (9, 49, 10, 1), (9, 60, 8, 3), (9, 65, 10, 2), (9, 100, 8, 9), (9, 104, 0, 0), (9, 110, 8, 2), (9, 113, 8, 1), (9, 119, 8, 7), (9, 126, 8, 10), (9, 151, 8, 4), (9, 158, 8, 5), (9, 161, 8, 6), (9, 197, 10, 4), (9, 200, 10, 3)]
theorem qz_fl_ok6 : ∀ q ∈ qz_fl_6, qz_flw q := List.forall_mem_cons.mpr ⟨⟨tm_1 (List.mem_of_getElem? (i := 219) (by decide +kernel)), by decide +kernel, by decide +kernel⟩, List.forall_mem_cons.mpr ⟨⟨tm_1 (List.mem_of_getElem? (i := 220) (by decide +kernel)), by decide +kernel, by decide +kernel⟩, List.forall_mem_cons.mpr ⟨⟨tm_1 (List.mem_of_getElem? (i := 192) (by decide +kernel)), by decide +kernel, by decide +kernel⟩, List.forall_mem_cons.mpr ⟨⟨tm_1 (List.mem_of_getElem? (i := 98) (by decide +kernel)), by decide +kernel, by decide +kernel⟩, List.forall_mem_cons.mpr ⟨⟨tm_1 (List.mem_of_getElem? (i := 194) (by decide +kernel)), by decide +kernel, by decide +kernel⟩, List.forall_mem_cons.mpr ⟨⟨tm_1 (List.mem_of_getElem? (i := 121) (by decide +kernel)), by decide +kernel, by decide +kernel⟩, List.forall_mem_cons.mpr ⟨⟨tm_1 (List.mem_of_getElem? (i := 51) (by decide +kernel)), by decide +kernel, by decide +kernel⟩, List.forall_mem_cons.mpr ⟨⟨tm_1 (List.mem_of_getElem? (i := 94) (by decide +kernel)), by decide +kernel, by decide +kernel⟩, List.forall_mem_cons.mpr ⟨⟨tm_1 (List.mem_of_getElem? (i := 88) (by decide +kernel)), by decide +kernel, by decide +kernel⟩, List.forall_mem_cons.mpr ⟨⟨tm_1 (List.mem_of_getElem? (i := 111) (by decide +kernel)), by decide +kernel, by decide +kernel⟩, List.forall_mem_cons.mpr ⟨⟨tm_1 (List.mem_of_getElem? (i := 127) (by decide +kernel)), by decide +kernel, by decide +kernel⟩, List.forall_mem_cons.mpr ⟨⟨tm_1 (List.mem_of_getElem? (i := 102) (by decide +kernel)), by decide +kernel, by decide +kernel⟩, List.forall_mem_cons.mpr ⟨⟨tm_1 (List.mem_of_getElem? (i := 105) (by decide +kernel)), by decide +kernel, by decide +kernel⟩, List.forall_mem_cons.mpr ⟨⟨tm_1 (List.mem_of_getElem? (i := 108) (by decide +kernel)), by decide +kernel, by decide +kernel⟩, List.forall_mem_cons.mpr ⟨⟨tm_1 (List.mem_of_getElem? (i := 198) (by decide +kernel)), by decide +kernel, by decide +kernel⟩, List.forall_mem_cons.mpr ⟨⟨tm_1 (List.mem_of_getElem? (i := 196) (by decide +kernel)), by decide +kernel, by decide +kernel⟩, (fun _ h => absurd h List.not_mem_nil)⟩⟩⟩⟩⟩⟩⟩⟩⟩⟩⟩⟩⟩⟩⟩⟩
def qz_fl_7 : List (Nat × Nat × Nat × Nat) := [(9, 203, 10, 0), (10, 9, 10, 0), (10, 15, 10, 1), (10, 18, 10, 2), (10, 21, 10, 3), (10, 24, 10, 4), (10, 27, 10, 5), (11, 9, 11, 0), (11, 13, 11, 1), (11, 17, 11, 2), (11, 20, 11, 3), (11, 26, 11, 4), (11, 30, 11, 5), (11, 34, 11, 6), (11, 40, 11, 7), (11, 47, 11, 8)]
theorem qz_fl_ok7 : ∀ q ∈ qz_fl_7, qz_flw q := List.forall_mem_cons.mpr ⟨⟨tm_1 (List.mem_of_getElem? (i := 190) (by decide +kernel)), by decide +kernel, by decide +kernel⟩, List.forall_mem_cons.mpr ⟨⟨tm_1 (List.mem_of_getElem? (i := 189) (by decide +kernel)), by decide +kernel, by decide +kernel⟩, List.forall_mem_cons.mpr ⟨⟨tm_1 (List.mem_of_getElem? (i := 191) (by decide +kernel)), by decide +kernel, by decide +kernel⟩, List.forall_mem_cons.mpr ⟨⟨tm_1 (List.mem_of_getElem? (i := 193) (by decide +kernel)), by decide +kernel, by decide +kernel⟩, List.forall_mem_cons.mpr ⟨⟨tm_1 (List.mem_of_getElem? (i := 195) (by decide +kernel)), by decide +kernel, by decide +kernel⟩, List.forall_mem_cons.mpr ⟨⟨tm_1 (List.mem_of_getElem? (i := 197) (by decide +kernel)), by decide +kernel, by decide +kernel⟩, List.forall_mem_cons.mpr ⟨⟨tm_1 (List.mem_of_getElem? (i := 199) (by decide +kernel)), by decide +kernel, by decide +kernel⟩, List.forall_mem_cons.mpr ⟨⟨tm_2 (List.mem_of_getElem? (i := 165) (by decide +kernel)), by decide +kernel, by decide +kernel⟩, List.forall_mem_cons.mpr ⟨⟨tm_2 (List.mem_of_getElem? (i := 166) (by decide +kernel)), by decide +kernel, by decide +kernel⟩, List.forall_mem_cons.mpr ⟨⟨tm_2 (List.mem_of_getElem? (i := 167) (by decide +kernel)), by decide +kernel, by decide +kernel⟩, List.forall_mem_cons.mpr ⟨⟨tm_2 (List.mem_of_getElem? (i := 168) (by decide +kernel)), by decide +kernel, by decide +kernel⟩, List.forall_mem_cons.mpr ⟨⟨tm_2 (List.mem_of_getElem? (i := 169) (by decide +kernel)), by decide +kernel, by decide +kernel⟩, List.forall_mem_cons.mpr ⟨⟨tm_2 (List.mem_of_getElem? (i := 170) (by decide +kernel)), by decide +kernel, by decide +kernel⟩, List.forall_mem_cons.mpr ⟨⟨tm_2 (List.mem_of_getElem? (i := 171) (by decide +kernel)), by decide +kernel, by decide +kernel⟩, List.forall_mem_cons.mpr ⟨⟨tm_2 (List.mem_of_getElem? (i := 172) (by decide +kernel)), by decide +kernel, by decide +kernel⟩, List.forall_mem_cons.mpr ⟨⟨tm_2 (List.mem_of_getElem? (i := 173) (by decide +kernel)), by decide +kernel, by decide +kernel⟩, (fun _ h => absurd h List.not_mem_nil)⟩⟩⟩⟩⟩⟩⟩⟩⟩⟩⟩⟩⟩⟩⟩⟩
def qz_fl_8 : List (Nat × Nat × Nat × Nat) := [(11, 54, 11, 9), (11, 61, 11, 10), (11, 68, 11, 11), (11, 75, 11, 12), (11, 82, 11, 13), (11, 89, 11, 14), (11, 93, 11, 15), (11, 96, 11, 16), (11, 111, 6, 0), (11, 115, 8, 3), (11, 122, 8, 1), (11, 125, 8, 2), (11, 128, 8, 10), (11, 131, 8, 9), (11, 135, 0, 0), (11, 140, 0, 1)]
theorem qz_fl_ok8 : ∀ q ∈ qz_fl_8, qz_flw q := List.forall_mem_cons.mpr ⟨⟨tm_2 (List.mem_of_getElem? (i := 174) (by decide +kernel)), by decide +kernel, by decide +kernel⟩, List.forall_mem_cons.mpr ⟨⟨tm_2 (List.mem_of_getElem? (i := 175) (by decide +kernel)), by decide +kernel, by decide +kernel⟩, List.forall_mem_cons.mpr ⟨⟨tm_2 (List.mem_of_getElem? (i := 176) (by decide +kernel)), by decide +kernel, by decide +kernel⟩, List.forall_mem_cons.mpr ⟨⟨tm_2 (List.mem_of_getElem? (i := 177) (by decide +kernel)), by decide +kernel, by decide +kernel⟩, List.forall_mem_cons.mpr ⟨⟨tm_2 (List.mem_of_getElem? (i := 178) (by decide +kernel)), by decide +kernel, by decide +kernel⟩, List.forall_mem_cons.mpr ⟨⟨tm_2 (List.mem_of_getElem? (i := 179) (by decide +kernel)), by decide +kernel, by decide +kernel⟩, List.forall_mem_cons.mpr ⟨⟨tm_2 (List.mem_of_getElem? (i := 180) (by decide +kernel)), by decide +kernel, by decide +kernel⟩, List.forall_mem_cons.mpr ⟨⟨tm_2 (List.mem_of_getElem? (i := 181) (by decide +kernel)), by decide +kernel, by decide +kernel⟩, List.forall_mem_cons.mpr ⟨⟨tm_1 (List.mem_of_getElem? (i := 164) (by decide +kernel)), by decide +kernel, by decide +kernel⟩, List.forall_mem_cons.mpr ⟨⟨tm_1 (List.mem_of_getElem? (i := 99) (by decide +kernel)), by decide +kernel, by decide +kernel⟩, List.forall_mem_cons.mpr ⟨⟨tm_1 (List.mem_of_getElem? (i := 89) (by decide +kernel)), by decide +kernel, by decide +kernel⟩, List.forall_mem_cons.mpr ⟨⟨tm_1 (List.mem_of_getElem? (i := 95) (by decide +kernel)), by decide +kernel, by decide +kernel⟩, List.forall_mem_cons.mpr ⟨⟨tm_1 (List.mem_of_getElem? (i := 126) (by decide +kernel)), by decide +kernel, by decide +kernel⟩, List.forall_mem_cons.mpr ⟨⟨tm_1 (List.mem_of_getElem? (i := 122) (by decide +kernel)), by decide +kernel, by decide +kernel⟩, List.forall_mem_cons.mpr ⟨⟨tm_1 (List.mem_of_getElem? (i := 52) (by decide +kernel)), by decide +kernel, by decide +kernel⟩, List.forall_mem_cons.mpr ⟨⟨tm_1 (List.mem_of_getElem? (i := 55) (by decide +kernel)), by decide +kernel, by decide +kernel⟩, (fun _ h => absurd h List.not_mem_nil)⟩⟩⟩⟩⟩⟩⟩⟩⟩⟩⟩⟩⟩⟩⟩⟩
def qz_fl_9 : List (Nat × Nat × Nat × Nat) := [(11, 143, 8, 4), (11, 146, 8, 5), (11, 149, 8, 6), (11, 160, 8, 7), (11, 167, 8, 8), (11, 174, 3, 1), (11, 180, 5, 1), (11, 187, 3, 3), (11, 193, 3, 0), (11, 214, 0, 3), (11, 223, 0, 2), (11, 226, 0, 4), (11, 313, 5, 0), (11, 321, 2, 0), (11, 331, 8, 0), (11, 334, 3, 2)]
theorem qz_fl_ok9 : ∀ q ∈ qz_fl_9, qz_flw q := List.forall_mem_cons.mpr ⟨⟨tm_1 (List.mem_of_getElem? (i := 101) (by decide +kernel)), by decide +kernel, by decide +kernel⟩, List.forall_mem_cons.mpr ⟨⟨tm_1 (List.mem_of_getElem? (i := 104) (by decide +kernel)), by decide +kernel, by decide +kernel⟩, List.forall_mem_cons.mpr ⟨⟨tm_1 (List.mem_of_getElem? (i := 107) (by decide +kernel)), by decide +kernel, by decide +kernel⟩, List.forall_mem_cons.mpr ⟨⟨tm_1 (List.mem_of_getElem? (i := 112) (by decide +kernel)), by decide +kernel, by decide +kernel⟩, List.forall_mem_cons.mpr ⟨⟨tm_1 (List.mem_of_getElem? (i := 117) (by decide +kernel)), by decide +kernel, by decide +kernel⟩, List.forall_mem_cons.mpr ⟨⟨tm_2 (List.mem_of_getElem? (i := 8) (by decide +kernel)), by decide +kernel, by decide +kernel⟩, List.forall_mem_cons.mpr ⟨⟨tm_2 (List.mem_of_getElem? (i := 53) (by decide +kernel)), by decide +kernel, by decide +kernel⟩, List.forall_mem_cons.mpr ⟨⟨tm_2 (List.mem_of_getElem? (i := 12) (by decide +kernel)), by decide +kernel, by decide +kernel⟩, List.forall_mem_cons.mpr ⟨⟨tm_2 (List.mem_of_getElem? (i := 6) (by decide +kernel)), by decide +kernel, by decide +kernel⟩, List.forall_mem_cons.mpr ⟨⟨tm_1 (List.mem_of_getElem? (i := 62) (by decide +kernel)), by decide +kernel, by decide +kernel⟩, List.forall_mem_cons.mpr ⟨⟨tm_1 (List.mem_of_getElem? (i := 59) (by decide +kernel)), by decide +kernel, by decide +kernel⟩, List.forall_mem_cons.mpr ⟨⟨tm_1 (List.mem_of_getElem? (i := 64) (by decide +kernel)), by decide +kernel, by decide +kernel⟩, List.forall_mem_cons.mpr ⟨⟨tm_2 (List.mem_of_getElem? (i := 50) (by decide +kernel)), by decide +kernel, by decide +kernel⟩, List.forall_mem_cons.mpr ⟨⟨tm_2 (List.mem_of_getElem? (i := 146) (by decide +kernel)), by decide +kernel, by decide +kernel⟩, List.forall_mem_cons.mpr ⟨⟨tm_1 (List.mem_of_getElem? (i := 83) (by decide +kernel)), by decide +kernel, by decide +kernel⟩, List.forall_mem_cons.mpr ⟨⟨tm_2 (List.mem_of_getElem? (i := 10) (by decide +kernel)), by decide +kernel, by decide +kernel⟩, (fun _ h => absurd h List.not_mem_nil)⟩⟩⟩⟩⟩⟩⟩⟩⟩⟩⟩⟩⟩⟩⟩⟩
def qz_fl_10 : List (Nat × Nat × Nat × Nat) := [(12, 7, 12, 0), (12, 13, 12, 1), (12, 17, 12, 2), (12, 20, 12, 3), (12, 23, 12, 4), (12, 26, 12, 5), (12, 29, 12, 6), (12, 32, 12, 7), (12, 35, 12, 8), (12, 38, 12, 9), (12, 41, 12, 10), (12, 44, 12, 11), (12, 47, 12, 12), (12, 50, 12, 13), (12, 54, 12, 17), (12, 57, 12, 18)]
theorem qz_fl_ok10 : ∀ q ∈ qz_fl_10, qz_flw q := List.forall_mem_cons.mpr ⟨⟨tm_6 (List.mem_of_getElem? (i := 28) (by decide +kernel)), by decide +kernel, by decide +kernel⟩, List.forall_mem_cons.mpr ⟨⟨tm_6 (List.mem_of_getElem? (i := 29) (by decide +kernel)), by decide +kernel, by decide +kernel⟩, List.forall_mem_cons.mpr ⟨⟨tm_6 (List.mem_of_getElem? (i := 30) (by decide +kernel)), by decide +kernel, by decide +kernel⟩, List.forall_mem_cons.mpr ⟨⟨tm_6 (List.mem_of_getElem? (i := 31) (by decide +kernel)), by decide +kernel, by decide +kernel⟩, List.forall_mem_cons.mpr ⟨⟨tm_6 (List.mem_of_getElem? (i := 32) (by decide +kernel)), by decide +kernel, by decide +kernel⟩, List.forall_mem_cons.mpr ⟨⟨tm_6 (List.mem_of_getElem? (i := 33) (by decide +kernel)), by decide +kernel, by decide +kernel⟩, List.forall_mem_cons.mpr ⟨⟨tm_6 (List.mem_of_getElem? (i := 34) (by decide +kernel)), by decide +kernel, by decide +kernel⟩, List.forall_mem_cons.mpr ⟨⟨tm_6 (List.mem_of_getElem? (i := 35) (by decide +kernel)), by decide +kernel, by decide +kernel⟩, List.forall_mem_cons.mpr ⟨⟨tm_6 (List.mem_of_getElem? (i := 36) (by decide +kernel)), by decide +kernel, by decide +kernel⟩, List.forall_mem_cons.mpr ⟨⟨tm_6 (List.mem_of_getElem? (i := 37) (by decide +kernel)), by decide +kernel, by decide +kernel⟩, List.forall_mem_cons.mpr ⟨⟨tm_6 (List.mem_of_getElem? (i := 38) (by decide +kernel)), by decide +kernel, by decide +kernel⟩, List.forall_mem_cons.mpr ⟨⟨tm_6 (List.mem_of_getElem? (i := 39) (by decide +kernel)), by decide +kernel, by decide +kernel⟩, List.forall_mem_cons.mpr ⟨⟨tm_6 (List.mem_of_getElem? (i := 40) (by decide +kernel)), by decide +kernel, by decide +kernel⟩, List.forall_mem_cons.mpr ⟨⟨tm_6 (List.mem_of_getElem? (i := 41) (by decide +kernel)), by decide +kernel, by decide +kernel⟩, List.forall_mem_cons.mpr ⟨⟨tm_6 (List.mem_of_getElem? (i := 45) (by decide +kernel)), by decide +kernel, by decide +kernel⟩, List.forall_mem_cons.mpr ⟨⟨tm_6 (List.mem_of_getElem? (i := 46) (by decide +kernel)), by decide +kernel, by decide +kernel⟩, (fun _ h => absurd h List.not_mem_nil)⟩⟩⟩⟩⟩⟩⟩⟩⟩⟩⟩⟩⟩⟩⟩⟩
def qz_fl_11 : List (Nat × Nat × Nat × Nat) := [(12, 61, 12, 19), (12, 64, 12, 29), (12, 67, 12, 30), (12, 70, 12, 31), (12, 73, 12, 32), (12, 76, 12, 33), (12, 79, 12, 34), (12, 82, 12, 35), (12, 85, 12, 37), (12, 88, 12, 38), (12, 91, 12, 42), (12, 95, 12, 43), (12, 98, 12, 44), (12, 101, 12, 45), (12, 104, 12, 46), (12, 107, 12, 47)]
theorem qz_fl_ok11 : ∀ q ∈ qz_fl_11, qz_flw q := List.forall_mem_cons.mpr ⟨⟨tm_6 (List.mem_of_getElem? (i := 47) (by decide +kernel)), by decide +kernel, by decide +kernel⟩, List.forall_mem_cons.mpr ⟨⟨tm_6 (List.mem_of_getElem? (i := 57) (by decide +kernel)), by decide +kernel, by decide +kernel⟩, List.forall_mem_cons.mpr ⟨⟨tm_6 (List.mem_of_getElem? (i := 58) (by decide +kernel)), by decide +kernel, by decide +kernel⟩, List.forall_mem_cons.mpr ⟨⟨tm_6 (List.mem_of_getElem? (i := 59) (by decide +kernel)), by decide +kernel, by decide +kernel⟩, List.forall_mem_cons.mpr ⟨⟨tm_6 (List.mem_of_getElem? (i := 60) (by decide +kernel)), by decide +kernel, by decide +kernel⟩, List.forall_mem_cons.mpr ⟨⟨tm_6 (List.mem_of_getElem? (i := 61) (by decide +kernel)), by decide +kernel, by decide +kernel⟩, List.forall_mem_cons.mpr ⟨⟨tm_6 (List.mem_of_getElem? (i := 62) (by decide +kernel)), by decide +kernel, by decide +kernel⟩, List.forall_mem_cons.mpr ⟨⟨tm_6 (List.mem_of_getElem? (i := 63) (by decide +kernel)), by decide +kernel, by decide +kernel⟩, List.forall_mem_cons.mpr ⟨⟨tm_6 (List.mem_of_getElem? (i := 65) (by decide +kernel)), by decide +kernel, by decide +kernel⟩, List.forall_mem_cons.mpr ⟨⟨tm_6 (List.mem_of_getElem? (i := 66) (by decide +kernel)), by decide +kernel, by decide +kernel⟩, List.forall_mem_cons.mpr ⟨⟨tm_6 (List.mem_of_getElem? (i := 70) (by decide +kernel)), by decide +kernel, by decide +kernel⟩, List.forall_mem_cons.mpr ⟨⟨tm_6 (List.mem_of_getElem? (i := 71) (by decide +kernel)), by decide +kernel, by decide +kernel⟩, List.forall_mem_cons.mpr ⟨⟨tm_6 (List.mem_of_getElem? (i := 72) (by decide +kernel)), by decide +kernel, by decide +kernel⟩, List.forall_mem_cons.mpr ⟨⟨tm_6 (List.mem_of_getElem? (i := 73) (by decide +kernel)), by decide +kernel, by decide +kernel⟩, List.forall_mem_cons.mpr ⟨⟨tm_6 (List.mem_of_getElem? (i := 74) (by decide +kernel)), by decide +kernel, by decide +kernel⟩, List.forall_mem_cons.mpr ⟨⟨tm_6 (List.mem_of_getElem? (i := 75) (by decide +kernel)), by decide +kernel, by decide +kernel⟩, (fun _ h => absurd h List.not_mem_nil)⟩⟩⟩⟩⟩⟩⟩⟩⟩⟩⟩⟩⟩⟩⟩⟩
def qz_fl_12 : List (Nat × Nat × Nat × Nat) := [(12, 110, 12, 48), (12, 113, 12, 49), (12, 116, 12, 50), (12, 119, 12, 51), (12, 122, 12, 53), (12, 125, 12, 54), (12, 128, 12, 55), (12, 131, 12, 56), (12, 134, 12, 57), (12, 137, 12, 58), (12, 140, 12, 59), (12, 143, 12, 60), (12, 146, 12, 63), (12, 149, 12, 64), (12, 163, 12, 14), (12, 170, 12, 16)]
theorem qz_fl_ok12 : ∀ q ∈ qz_fl_12, qz_flw q := List.forall_mem_cons.mpr ⟨⟨tm_6 (List.mem_of_getElem? (i := 76) (by decide +kernel)), by decide +kernel, by decide +kernel⟩, List.forall_mem_cons.mpr ⟨⟨tm_6 (List.mem_of_getElem? (i := 77) (by decide +kernel)), by decide +kernel, by decide +kernel⟩, List.forall_mem_cons.mpr ⟨⟨tm_6 (List.mem_of_getElem? (i := 78) (by decide +kernel)), by decide +kernel, by decide +kernel⟩, List.forall_mem_cons.mpr ⟨⟨tm_6 (List.mem_of_getElem? (i := 79) (by decide +kernel)), by decide +kernel, by decide +kernel⟩, List.forall_mem_cons.mpr ⟨⟨tm_6 (List.mem_of_getElem? (i := 81) (by decide +kernel)), by decide +kernel, by decide +kernel⟩, List.forall_mem_cons.mpr ⟨⟨tm_6 (List.mem_of_getElem? (i := 82) (by decide +kernel)), by decide +kernel, by decide +kernel⟩, List.forall_mem_cons.mpr ⟨⟨tm_6 (List.mem_of_getElem? (i := 83) (by decide +kernel)), by decide +kernel, by decide +kernel⟩, List.forall_mem_cons.mpr ⟨⟨tm_6 (List.mem_of_getElem? (i := 84) (by decide +kernel)), by decide +kernel, by decide +kernel⟩, List.forall_mem_cons.mpr ⟨⟨tm_6 (List.mem_of_getElem? (i := 85) (by decide +kernel)), by decide +kernel, by decide +kernel⟩, List.forall_mem_cons.mpr ⟨⟨tm_6 (List.mem_of_getElem? (i := 86) (by decide +kernel)), by decide +kernel, by decide +kernel⟩, List.forall_mem_cons.mpr ⟨⟨tm_6 (List.mem_of_getElem? (i := 87) (by decide +kernel)), by decide +kernel, by decide +kernel⟩, List.forall_mem_cons.mpr ⟨⟨tm_6 (List.mem_of_getElem? (i := 88) (by decide +kernel)), by decide +kernel, by decide +kernel⟩, List.forall_mem_cons.mpr ⟨⟨tm_6 (List.mem_of_getElem? (i := 91) (by decide +kernel)), by decide +kernel, by decide +kernel⟩, List.forall_mem_cons.mpr ⟨⟨tm_6 (List.mem_of_getElem? (i := 92) (by decide +kernel)), by decide +kernel, by decide +kernel⟩, List.forall_mem_cons.mpr ⟨⟨tm_6 (List.mem_of_getElem? (i := 42) (by decide +kernel)), by decide +kernel, by decide +kernel⟩, List.forall_mem_cons.mpr ⟨⟨tm_6 (List.mem_of_getElem? (i := 44) (by decide +kernel)), by decide +kernel, by decide +kernel⟩, (fun _ h => absurd h List.not_mem_nil)⟩⟩⟩⟩⟩⟩⟩⟩⟩⟩⟩⟩⟩⟩⟩⟩
def qz_fl_13 : List (Nat × Nat × Nat × Nat) := [(12, 173, 12, 15), (12, 179, 12, 20), (12, 186, 12, 21), (12, 189, 12, 23), (12, 192, 12, 22), (12, 243, 12, 24), (12, 250, 12, 25), (12, 253, 12, 26), (12, 298, 12, 27), (12, 304, 12, 28), (12, 393, 12, 36), (12, 421, 12, 39), (12, 424, 12, 40), (12, 427, 12, 41), (12, 489, 12, 52), (12, 537, 12, 62)]
theorem qz_fl_ok13 : ∀ q ∈ qz_fl_13, qz_flw q := List.forall_mem_cons.mpr ⟨⟨tm_6 (List.mem_of_getElem? (i := 43) (by decide +kernel)), by decide +kernel, by decide +kernel⟩, List.forall_mem_cons.mpr ⟨⟨tm_6 (List.mem_of_getElem? (i := 48) (by decide +kernel)), by decide +kernel, by decide +kernel⟩, List.forall_mem_cons.mpr ⟨⟨tm_6 (List.mem_of_getElem? (i := 49) (by decide +kernel)), by decide +kernel, by decide +kernel⟩, List.forall_mem_cons.mpr ⟨⟨tm_6 (List.mem_of_getElem? (i := 51) (by decide +kernel)), by decide +kernel, by decide +kernel⟩, List.forall_mem_cons.mpr ⟨⟨tm_6 (List.mem_of_getElem? (i := 50) (by decide +kernel)), by decide +kernel, by decide +kernel⟩, List.forall_mem_cons.mpr ⟨⟨tm_6 (List.mem_of_getElem? (i := 52) (by decide +kernel)), by decide +kernel, by decide +kernel⟩, List.forall_mem_cons.mpr ⟨⟨tm_6 (List.mem_of_getElem? (i := 53) (by decide +kernel)), by decide +kernel, by decide +kernel⟩, List.forall_mem_cons.mpr ⟨⟨tm_6 (List.mem_of_getElem? (i := 54) (by decide +kernel)), by decide +kernel, by decide +kernel⟩, List.forall_mem_cons.mpr ⟨⟨tm_6 (List.mem_of_getElem? (i := 55) (by decide +kernel)), by decide +kernel, by decide +kernel⟩, List.forall_mem_cons.mpr ⟨⟨tm_6 (List.mem_of_getElem? (i := 56) (by decide +kernel)), by decide +kernel, by decide +kernel⟩, List.forall_mem_cons.mpr ⟨⟨tm_6 (List.mem_of_getElem? (i := 64) (by decide +kernel)), by decide +kernel, by decide +kernel⟩, List.forall_mem_cons.mpr ⟨⟨tm_6 (List.mem_of_getElem? (i := 67) (by decide +kernel)), by decide +kernel, by decide +kernel⟩, List.forall_mem_cons.mpr ⟨⟨tm_6 (List.mem_of_getElem? (i := 68) (by decide +kernel)), by decide +kernel, by decide +kernel⟩, List.forall_mem_cons.mpr ⟨⟨tm_6 (List.mem_of_getElem? (i := 69) (by decide +kernel)), by decide +kernel, by decide +kernel⟩, List.forall_mem_cons.mpr ⟨⟨tm_6 (List.mem_of_getElem? (i := 80) (by decide +kernel)), by decide +kernel, by decide +kernel⟩, List.forall_mem_cons.mpr ⟨⟨tm_6 (List.mem_of_getElem? (i := 90) (by decide +kernel)), by decide +kernel, by decide +kernel⟩, (fun _ h => absurd h List.not_mem_nil)⟩⟩⟩⟩⟩⟩⟩⟩⟩⟩⟩⟩⟩⟩⟩⟩
def qz_fl_14 : List (Nat × Nat × Nat × Nat) := [(12, 540, 12, 61)]
theorem qz_fl_ok14 : ∀ q ∈ qz_fl_14, qz_flw q := List.forall_mem_cons.mpr ⟨⟨tm_6 (List.mem_of_getElem? (i := 89) (by decide +kernel)), by decide +kernel, by decide +kernel⟩, (fun _ h => absurd h List.not_mem_nil)⟩
def qz_fl : List (Nat × Nat × Nat × Nat) := qz_fl_0 ++ (qz_fl_1 ++ (qz_fl_2 ++ (qz_fl_3 ++ (qz_fl_4 ++ (qz_fl_5 ++ (qz_fl_6 ++ (qz_fl_7 ++ (qz_fl_8 ++ (qz_fl_9 ++ (qz_fl_10 ++ (qz_fl_11 ++ (qz_fl_12 ++ (qz_fl_13 ++ (qz_fl_14))))))))))))))
theorem qz_fl_ok : ∀ q ∈ qz_fl, qz_flw q := List.forall_mem_append.mpr ⟨qz_fl_ok0, List.forall_mem_append.mpr ⟨qz_fl_ok1, List.forall_mem_append.mpr ⟨qz_fl_ok2, List.forall_mem_append.mpr ⟨qz_fl_ok3, List.forall_mem_append.mpr ⟨qz_fl_ok4, List.forall_mem_append.mpr ⟨qz_fl_ok5, List.forall_mem_append.mpr ⟨qz_fl_ok6, List.forall_mem_append.mpr ⟨qz_fl_ok7, List.forall_mem_append.mpr ⟨qz_fl_ok8, List.forall_mem_append.mpr ⟨qz_fl_ok9, List.forall_mem_append.mpr ⟨qz_fl_ok10, List.forall_mem_append.mpr ⟨qz_fl_ok11, List.forall_mem_append.mpr ⟨qz_fl_ok12, List.forall_mem_append.mpr ⟨qz_fl_ok13, qz_fl_ok14⟩⟩⟩⟩⟩⟩⟩⟩⟩⟩⟩⟩⟩⟩
def qz_mlw (q : Nat × Nat × Nat) : Prop := Cond.methodLink (qz_gd "" qz_on q.1) q.2.1 (qz_in q.2.2).1.1 ∈ tables_1
def qz_ml_0 : List (Nat × Nat × Nat) := [(0, 31, 31), (0, 43, 63), (0, 47, 62), (1, 33, 206), (1, 37, 31), (1, 43, 208), (1, 47, 210), (1, 51, 207), (1, 55, 62), (1, 66, 180), (1, 73, 209), (1, 77, 129), (1, 83, 177), (2, 36, 136), (2, 42, 275), (2, 46, 276)]
theorem qz_ml_ok0 : ∀ q ∈ qz_ml_0, qz_mlw q := List.forall_mem_cons.mpr ⟨tm_3 (List.mem_of_getElem? (i := 95) (by decide +kernel)), List.forall_mem_cons.mpr ⟨tm_3 (List.mem_of_getElem? (i := 227) (by decide +kernel)), List.forall_mem_cons.mpr ⟨tm_3 (List.mem_of_getElem? (i := 231) (by decide +kernel)), List.forall_mem_cons.mpr ⟨tm_5 (List.mem_of_getElem? (i := 11) (by decide +kernel)), List.forall_mem_cons.mpr ⟨tm_5 (List.mem_of_getElem? (i := 15) (by decide +kernel)), List.forall_mem_cons.mpr ⟨tm_5 (List.mem_of_getElem? (i := 17) (by decide +kernel)), List.forall_mem_cons.mpr ⟨tm_5 (List.mem_of_getElem? (i := 26) (by decide +kernel)), List.forall_mem_cons.mpr ⟨tm_5 (List.mem_of_getElem? (i := 21) (by decide +kernel)), List.forall_mem_cons.mpr ⟨tm_5 (List.mem_of_getElem? (i := 25) (by decide +kernel)), List.forall_mem_cons.mpr ⟨tm_5 (List.mem_of_getElem? (i := 16) (by decide +kernel)), List.forall_mem_cons.mpr ⟨tm_5 (List.mem_of_getElem? (i := 30) (by decide +kernel)), List.forall_mem_cons.mpr ⟨tm_5 (List.mem_of_getElem? (i := 34) (by decide +kernel)), List.forall_mem_cons.mpr ⟨tm_5 (List.mem_of_getElem? (i := 35) (by decide +kernel)), List.forall_mem_cons.mpr ⟨tm_5 (List.mem_of_getElem? (i := 203) (by decide +kernel)), List.forall_mem_cons.mpr ⟨tm_5 (List.mem_of_getElem? (i := 204) (by decide +kernel)), List.forall_mem_cons.mpr ⟨tm_5 (List.mem_of_getElem? (i := 210) (by decide +kernel)), (fun _ h => absurd h List.not_mem_nil)⟩⟩⟩⟩⟩⟩⟩⟩⟩⟩⟩⟩⟩⟩⟩⟩
def qz_ml_1 : List (Nat × Nat × Nat) := [(2, 50, 277), (2, 54, 278), (2, 58, 162), (2, 61, 126), (2, 66, 154), (2, 69, 116), (2, 72, 62), (2, 77, 139), (2, 86, 163), (3, 43, 117), (3, 49, 126), (3, 53, 127), (3, 56, 128), (3, 60, 62), (3, 65, 31), (3, 75, 138)]
theorem qz_ml_ok1 : ∀ q ∈ qz_ml_1, qz_mlw q := List.forall_mem_cons.mpr ⟨tm_5 (List.mem_of_getElem? (i := 218) (by decide +kernel)), List.forall_mem_cons.mpr ⟨tm_5 (List.mem_of_getElem? (i := 223) (by decide +kernel)), List.forall_mem_cons.mpr ⟨tm_5 (List.mem_of_getElem? (i := 222) (by decide +kernel)), List.forall_mem_cons.mpr ⟨tm_5 (List.mem_of_getElem? (i := 208) (by decide +kernel)), List.forall_mem_cons.mpr ⟨tm_5 (List.mem_of_getElem? (i := 209) (by decide +kernel)), List.forall_mem_cons.mpr ⟨tm_5 (List.mem_of_getElem? (i := 214) (by decide +kernel)), List.forall_mem_cons.mpr ⟨tm_5 (List.mem_of_getElem? (i := 215) (by decide +kernel)), List.forall_mem_cons.mpr ⟨tm_5 (List.mem_of_getElem? (i := 216) (by decide +kernel)), List.forall_mem_cons.mpr ⟨tm_5 (List.mem_of_getElem? (i := 217) (by decide +kernel)), List.forall_mem_cons.mpr ⟨tm_4 (List.mem_of_getElem? (i := 41) (by decide +kernel)), List.forall_mem_cons.mpr ⟨tm_4 (List.mem_of_getElem? (i := 42) (by decide +kernel)), List.forall_mem_cons.mpr ⟨tm_4 (List.mem_of_getElem? (i := 46) (by decide +kernel)), List.forall_mem_cons.mpr ⟨tm_4 (List.mem_of_getElem? (i := 49) (by decide +kernel)), List.forall_mem_cons.mpr ⟨tm_4 (List.mem_of_getElem? (i := 172) (by decide +kernel)), List.forall_mem_cons.mpr ⟨tm_4 (List.mem_of_getElem? (i := 83) (by decide +kernel)), List.forall_mem_cons.mpr ⟨tm_4 (List.mem_of_getElem? (i := 85) (by decide +kernel)), (fun _ h => absurd h List.not_mem_nil)⟩⟩⟩⟩⟩⟩⟩⟩⟩⟩⟩⟩⟩⟩⟩⟩
def qz_ml_2 : List (Nat × Nat × Nat) := [(3, 79, 135), (3, 83, 137), (3, 89, 136), (3, 94, 162), (4, 31, 136), (4, 37, 189), (4, 41, 190), (4, 45, 191), (4, 49, 193), (4, 53, 31), (4, 73, 126), (4, 81, 192), (4, 92, 195), (5, 34, 31), (5, 44, 132), (5, 52, 153)]
theorem qz_ml_ok2 : ∀ q ∈ qz_ml_2, qz_mlw q := List.forall_mem_cons.mpr ⟨tm_4 (List.mem_of_getElem? (i := 89) (by decide +kernel)), List.forall_mem_cons.mpr ⟨tm_4 (List.mem_of_getElem? (i := 93) (by decide +kernel)), List.forall_mem_cons.mpr ⟨tm_4 (List.mem_of_getElem? (i := 97) (by decide +kernel)), List.forall_mem_cons.mpr ⟨tm_4 (List.mem_of_getElem? (i := 139) (by decide +kernel)), List.forall_mem_cons.mpr ⟨tm_4 (List.mem_of_getElem? (i := 201) (by decide +kernel)), List.forall_mem_cons.mpr ⟨tm_4 (List.mem_of_getElem? (i := 202) (by decide +kernel)), List.forall_mem_cons.mpr ⟨tm_4 (List.mem_of_getElem? (i := 208) (by decide +kernel)), List.forall_mem_cons.mpr ⟨tm_4 (List.mem_of_getElem? (i := 213) (by decide +kernel)), List.forall_mem_cons.mpr ⟨tm_4 (List.mem_of_getElem? (i := 217) (by decide +kernel)), List.forall_mem_cons.mpr ⟨tm_4 (List.mem_of_getElem? (i := 206) (by decide +kernel)), List.forall_mem_cons.mpr ⟨tm_4 (List.mem_of_getElem? (i := 207) (by decide +kernel)), List.forall_mem_cons.mpr ⟨tm_4 (List.mem_of_getElem? (i := 221) (by decide +kernel)), List.forall_mem_cons.mpr ⟨tm_4 (List.mem_of_getElem? (i := 231) (by decide +kernel)), List.forall_mem_cons.mpr ⟨tm_4 (List.mem_of_getElem? (i := 61) (by decide +kernel)), List.forall_mem_cons.mpr ⟨tm_4 (List.mem_of_getElem? (i := 65) (by decide +kernel)), List.forall_mem_cons.mpr ⟨tm_4 (List.mem_of_getElem? (i := 126) (by decide +kernel)), (fun _ h => absurd h List.not_mem_nil)⟩⟩⟩⟩⟩⟩⟩⟩⟩⟩⟩⟩⟩⟩⟩⟩
def qz_ml_3 : List (Nat × Nat × Nat) := [(5, 56, 154), (5, 59, 155), (5, 63, 116), (6, 25, 285), (6, 33, 231), (6, 38, 46), (6, 42, 216), (6, 45, 242), (6, 65, 117), (6, 68, 241), (6, 75, 240), (6, 79, 244), (7, 40, 241), (7, 47, 258), (7, 56, 259), (7, 60, 261)]
theorem qz_ml_ok3 : ∀ q ∈ qz_ml_3, qz_mlw q := List.forall_mem_cons.mpr ⟨tm_4 (List.mem_of_getElem? (i := 113) (by decide +kernel)), List.forall_mem_cons.mpr ⟨tm_4 (List.mem_of_getElem? (i := 117) (by decide +kernel)), List.forall_mem_cons.mpr ⟨tm_4 (List.mem_of_getElem? (i := 121) (by decide +kernel)), List.forall_mem_cons.mpr ⟨tm_5 (List.mem_of_getElem? (i := 239) (by decide +kernel)), List.forall_mem_cons.mpr ⟨tm_5 (List.mem_of_getElem? (i := 84) (by decide +kernel)), List.forall_mem_cons.mpr ⟨tm_5 (List.mem_of_getElem? (i := 96) (by decide +kernel)), List.forall_mem_cons.mpr ⟨tm_5 (List.mem_of_getElem? (i := 97) (by decide +kernel)), List.forall_mem_cons.mpr ⟨tm_5 (List.mem_of_getElem? (i := 110) (by decide +kernel)), List.forall_mem_cons.mpr ⟨tm_5 (List.mem_of_getElem? (i := 114) (by decide +kernel)), List.forall_mem_cons.mpr ⟨tm_5 (List.mem_of_getElem? (i := 115) (by decide +kernel)), List.forall_mem_cons.mpr ⟨tm_5 (List.mem_of_getElem? (i := 123) (by decide +kernel)), List.forall_mem_cons.mpr ⟨tm_5 (List.mem_of_getElem? (i := 124) (by decide +kernel)), List.forall_mem_cons.mpr ⟨tm_5 (List.mem_of_getElem? (i := 154) (by decide +kernel)), List.forall_mem_cons.mpr ⟨tm_5 (List.mem_of_getElem? (i := 155) (by decide +kernel)), List.forall_mem_cons.mpr ⟨tm_5 (List.mem_of_getElem? (i := 159) (by decide +kernel)), List.forall_mem_cons.mpr ⟨tm_5 (List.mem_of_getElem? (i := 164) (by decide +kernel)), (fun _ h => absurd h List.not_mem_nil)⟩⟩⟩⟩⟩⟩⟩⟩⟩⟩⟩⟩⟩⟩⟩⟩
def qz_ml_4 : List (Nat × Nat × Nat) := [(7, 64, 263), (7, 68, 136), (7, 76, 260), (7, 85, 62), (7, 90, 262), (8, 60, 31), (8, 66, 32), (8, 75, 284), (8, 79, 46), (8, 83, 116), (8, 96, 117), (8, 100, 62), (8, 105, 179), (8, 111, 180), (8, 122, 47), (8, 132, 57)]
theorem qz_ml_ok4 : ∀ q ∈ qz_ml_4, qz_mlw q := List.forall_mem_cons.mpr ⟨tm_5 (List.mem_of_getElem? (i := 173) (by decide +kernel)), List.forall_mem_cons.mpr ⟨tm_5 (List.mem_of_getElem? (i := 168) (by decide +kernel)), List.forall_mem_cons.mpr ⟨tm_5 (List.mem_of_getElem? (i := 170) (by decide +kernel)), List.forall_mem_cons.mpr ⟨tm_5 (List.mem_of_getElem? (i := 163) (by decide +kernel)), List.forall_mem_cons.mpr ⟨tm_5 (List.mem_of_getElem? (i := 177) (by decide +kernel)), List.forall_mem_cons.mpr ⟨tm_3 (List.mem_of_getElem? (i := 88) (by decide +kernel)), List.forall_mem_cons.mpr ⟨tm_3 (List.mem_of_getElem? (i := 91) (by decide +kernel)), List.forall_mem_cons.mpr ⟨tm_6 (List.mem_of_getElem? (i := 4) (by decide +kernel)), List.forall_mem_cons.mpr ⟨tm_3 (List.mem_of_getElem? (i := 156) (by decide +kernel)), List.forall_mem_cons.mpr ⟨tm_4 (List.mem_of_getElem? (i := 26) (by decide +kernel)), List.forall_mem_cons.mpr ⟨tm_4 (List.mem_of_getElem? (i := 22) (by decide +kernel)), List.forall_mem_cons.mpr ⟨tm_4 (List.mem_of_getElem? (i := 30) (by decide +kernel)), List.forall_mem_cons.mpr ⟨tm_4 (List.mem_of_getElem? (i := 185) (by decide +kernel)), List.forall_mem_cons.mpr ⟨tm_4 (List.mem_of_getElem? (i := 181) (by decide +kernel)), List.forall_mem_cons.mpr ⟨tm_3 (List.mem_of_getElem? (i := 152) (by decide +kernel)), List.forall_mem_cons.mpr ⟨tm_3 (List.mem_of_getElem? (i := 204) (by decide +kernel)), (fun _ h => absurd h List.not_mem_nil)⟩⟩⟩⟩⟩⟩⟩⟩⟩⟩⟩⟩⟩⟩⟩⟩
def qz_ml_5 : List (Nat × Nat × Nat) := [(9, 41, 28), (9, 45, 35), (9, 53, 68), (9, 56, 34), (9, 68, 29), (9, 71, 30), (9, 75, 33), (9, 79, 37), (9, 82, 42), (9, 85, 49), (9, 88, 51), (9, 91, 53), (9, 94, 54), (9, 97, 55), (9, 107, 67), (9, 116, 36)]
theorem qz_ml_ok5 : ∀ q ∈ qz_ml_5, qz_mlw q := List.forall_mem_cons.mpr ⟨tm_2 (List.mem_of_getElem? (i := 233) (by decide +kernel)), List.forall_mem_cons.mpr ⟨tm_3 (List.mem_of_getElem? (i := 72) (by decide +kernel)), List.forall_mem_cons.mpr ⟨tm_3 (List.mem_of_getElem? (i := 100) (by decide +kernel)), List.forall_mem_cons.mpr ⟨tm_3 (List.mem_of_getElem? (i := 96) (by decide +kernel)), List.forall_mem_cons.mpr ⟨tm_3 (List.mem_of_getElem? (i := 76) (by decide +kernel)), List.forall_mem_cons.mpr ⟨tm_3 (List.mem_of_getElem? (i := 80) (by decide +kernel)), List.forall_mem_cons.mpr ⟨tm_3 (List.mem_of_getElem? (i := 84) (by decide +kernel)), List.forall_mem_cons.mpr ⟨tm_3 (List.mem_of_getElem? (i := 104) (by decide +kernel)), List.forall_mem_cons.mpr ⟨tm_3 (List.mem_of_getElem? (i := 112) (by decide +kernel)), List.forall_mem_cons.mpr ⟨tm_3 (List.mem_of_getElem? (i := 134) (by decide +kernel)), List.forall_mem_cons.mpr ⟨tm_3 (List.mem_of_getElem? (i := 160) (by decide +kernel)), List.forall_mem_cons.mpr ⟨tm_3 (List.mem_of_getElem? (i := 168) (by decide +kernel)), List.forall_mem_cons.mpr ⟨tm_3 (List.mem_of_getElem? (i := 176) (by decide +kernel)), List.forall_mem_cons.mpr ⟨tm_3 (List.mem_of_getElem? (i := 180) (by decide +kernel)), List.forall_mem_cons.mpr ⟨tm_3 (List.mem_of_getElem? (i := 184) (by decide +kernel)), List.forall_mem_cons.mpr ⟨tm_3 (List.mem_of_getElem? (i := 108) (by decide +kernel)), (fun _ h => absurd h List.not_mem_nil)⟩⟩⟩⟩⟩⟩⟩⟩⟩⟩⟩⟩⟩⟩⟩⟩
def qz_ml_6 : List (Nat × Nat × Nat) := [(9, 122, 38), (9, 129, 39), (9, 133, 40), (9, 137, 41), (9, 140, 43), (9, 143, 48), (9, 147, 50), (9, 154, 52), (9, 164, 59), (9, 167, 60), (9, 170, 61), (9, 173, 65), (9, 176, 66), (9, 179, 56), (9, 182, 58), (9, 191, 57)]
theorem qz_ml_ok6 : ∀ q ∈ qz_ml_6, qz_mlw q := List.forall_mem_cons.mpr ⟨tm_3 (List.mem_of_getElem? (i := 116) (by decide +kernel)), List.forall_mem_cons.mpr ⟨tm_3 (List.mem_of_getElem? (i := 122) (by decide +kernel)), List.forall_mem_cons.mpr ⟨tm_3 (List.mem_of_getElem? (i := 126) (by decide +kernel)), List.forall_mem_cons.mpr ⟨tm_3 (List.mem_of_getElem? (i := 130) (by decide +kernel)), List.forall_mem_cons.mpr ⟨tm_3 (List.mem_of_getElem? (i := 138) (by decide +kernel)), List.forall_mem_cons.mpr ⟨tm_3 (List.mem_of_getElem? (i := 142) (by decide +kernel)), List.forall_mem_cons.mpr ⟨tm_3 (List.mem_of_getElem? (i := 164) (by decide +kernel)), List.forall_mem_cons.mpr ⟨tm_3 (List.mem_of_getElem? (i := 172) (by decide +kernel)), List.forall_mem_cons.mpr ⟨tm_3 (List.mem_of_getElem? (i := 188) (by decide +kernel)), List.forall_mem_cons.mpr ⟨tm_3 (List.mem_of_getElem? (i := 208) (by decide +kernel)), List.forall_mem_cons.mpr ⟨tm_3 (List.mem_of_getElem? (i := 214) (by decide +kernel)), List.forall_mem_cons.mpr ⟨tm_3 (List.mem_of_getElem? (i := 218) (by decide +kernel)), List.forall_mem_cons.mpr ⟨tm_3 (List.mem_of_getElem? (i := 237) (by decide +kernel)), List.forall_mem_cons.mpr ⟨tm_3 (List.mem_of_getElem? (i := 192) (by decide +kernel)), List.forall_mem_cons.mpr ⟨tm_3 (List.mem_of_getElem? (i := 196) (by decide +kernel)), List.forall_mem_cons.mpr ⟨tm_3 (List.mem_of_getElem? (i := 222) (by decide +kernel)), (fun _ h => absurd h List.not_mem_nil)⟩⟩⟩⟩⟩⟩⟩⟩⟩⟩⟩⟩⟩⟩⟩⟩
def qz_ml_7 : List (Nat × Nat × Nat) := [(9, 194, 64), (10, 37, 18), (10, 41, 27), (10, 45, 17), (10, 49, 25), (10, 52, 26), (10, 57, 20), (10, 63, 23), (10, 67, 24), (11, 25, 2), (11, 99, 13), (11, 103, 69), (11, 107, 70), (11, 118, 115), (11, 152, 118), (11, 156, 46)]
theorem qz_ml_ok7 : ∀ q ∈ qz_ml_7, qz_mlw q := List.forall_mem_cons.mpr ⟨tm_3 (List.mem_of_getElem? (i := 223) (by decide +kernel)), List.forall_mem_cons.mpr ⟨tm_3 (List.mem_of_getElem? (i := 0) (by decide +kernel)), List.forall_mem_cons.mpr ⟨tm_3 (List.mem_of_getElem? (i := 7) (by decide +kernel)), List.forall_mem_cons.mpr ⟨tm_3 (List.mem_of_getElem? (i := 4) (by decide +kernel)), List.forall_mem_cons.mpr ⟨tm_3 (List.mem_of_getElem? (i := 11) (by decide +kernel)), List.forall_mem_cons.mpr ⟨tm_3 (List.mem_of_getElem? (i := 68) (by decide +kernel)), List.forall_mem_cons.mpr ⟨tm_3 (List.mem_of_getElem? (i := 16) (by decide +kernel)), List.forall_mem_cons.mpr ⟨tm_3 (List.mem_of_getElem? (i := 26) (by decide +kernel)), List.forall_mem_cons.mpr ⟨tm_3 (List.mem_of_getElem? (i := 64) (by decide +kernel)), List.forall_mem_cons.mpr ⟨tm_1 (List.mem_of_getElem? (i := 32) (by decide +kernel)), List.forall_mem_cons.mpr ⟨tm_2 (List.mem_of_getElem? (i := 221) (by decide +kernel)), List.forall_mem_cons.mpr ⟨tm_2 (List.mem_of_getElem? (i := 229) (by decide +kernel)), List.forall_mem_cons.mpr ⟨tm_4 (List.mem_of_getElem? (i := 1) (by decide +kernel)), List.forall_mem_cons.mpr ⟨tm_4 (List.mem_of_getElem? (i := 14) (by decide +kernel)), List.forall_mem_cons.mpr ⟨tm_4 (List.mem_of_getElem? (i := 18) (by decide +kernel)), List.forall_mem_cons.mpr ⟨tm_4 (List.mem_of_getElem? (i := 35) (by decide +kernel)), (fun _ h => absurd h List.not_mem_nil)⟩⟩⟩⟩⟩⟩⟩⟩⟩⟩⟩⟩⟩⟩⟩⟩
def qz_ml_8 : List (Nat × Nat × Nat) := [(11, 163, 117), (11, 170, 129), (11, 177, 134), (11, 183, 140), (11, 190, 153), (11, 196, 156), (11, 200, 157), (11, 203, 161), (11, 206, 163), (11, 209, 47), (11, 213, 170), (11, 217, 63), (11, 220, 171), (11, 229, 177), (11, 232, 178), (11, 235, 181)]
theorem qz_ml_ok8 : ∀ q ∈ qz_ml_8, qz_mlw q := List.forall_mem_cons.mpr ⟨tm_4 (List.mem_of_getElem? (i := 36) (by decide +kernel)), List.forall_mem_cons.mpr ⟨tm_4 (List.mem_of_getElem? (i := 37) (by decide +kernel)), List.forall_mem_cons.mpr ⟨tm_4 (List.mem_of_getElem? (i := 53) (by decide +kernel)), List.forall_mem_cons.mpr ⟨tm_4 (List.mem_of_getElem? (i := 74) (by decide +kernel)), List.forall_mem_cons.mpr ⟨tm_4 (List.mem_of_getElem? (i := 105) (by decide +kernel)), List.forall_mem_cons.mpr ⟨tm_4 (List.mem_of_getElem? (i := 109) (by decide +kernel)), List.forall_mem_cons.mpr ⟨tm_4 (List.mem_of_getElem? (i := 122) (by decide +kernel)), List.forall_mem_cons.mpr ⟨tm_4 (List.mem_of_getElem? (i := 131) (by decide +kernel)), List.forall_mem_cons.mpr ⟨tm_4 (List.mem_of_getElem? (i := 135) (by decide +kernel)), List.forall_mem_cons.mpr ⟨tm_4 (List.mem_of_getElem? (i := 146) (by decide +kernel)), List.forall_mem_cons.mpr ⟨tm_4 (List.mem_of_getElem? (i := 151) (by decide +kernel)), List.forall_mem_cons.mpr ⟨tm_4 (List.mem_of_getElem? (i := 155) (by decide +kernel)), List.forall_mem_cons.mpr ⟨tm_4 (List.mem_of_getElem? (i := 156) (by decide +kernel)), List.forall_mem_cons.mpr ⟨tm_4 (List.mem_of_getElem? (i := 168) (by decide +kernel)), List.forall_mem_cons.mpr ⟨tm_4 (List.mem_of_getElem? (i := 173) (by decide +kernel)), List.forall_mem_cons.mpr ⟨tm_4 (List.mem_of_getElem? (i := 177) (by decide +kernel)), (fun _ h => absurd h List.not_mem_nil)⟩⟩⟩⟩⟩⟩⟩⟩⟩⟩⟩⟩⟩⟩⟩⟩
def qz_ml_9 : List (Nat × Nat × Nat) := [(11, 239, 188), (11, 243, 194), (11, 247, 196), (11, 250, 203), (11, 254, 211), (11, 258, 207), (11, 261, 62), (11, 266, 216), (11, 269, 218), (11, 273, 219), (11, 277, 225), (11, 280, 232), (11, 283, 235), (11, 286, 240), (11, 289, 243), (11, 292, 245)]
theorem qz_ml_ok9 : ∀ q ∈ qz_ml_9, qz_mlw q := List.forall_mem_cons.mpr ⟨tm_4 (List.mem_of_getElem? (i := 193) (by decide +kernel)), List.forall_mem_cons.mpr ⟨tm_4 (List.mem_of_getElem? (i := 197) (by decide +kernel)), List.forall_mem_cons.mpr ⟨tm_4 (List.mem_of_getElem? (i := 227) (by decide +kernel)), List.forall_mem_cons.mpr ⟨tm_4 (List.mem_of_getElem? (i := 239) (by decide +kernel)), List.forall_mem_cons.mpr ⟨tm_5 (List.mem_of_getElem? (i := 7) (by decide +kernel)), List.forall_mem_cons.mpr ⟨tm_5 (List.mem_of_getElem? (i := 36) (by decide +kernel)), List.forall_mem_cons.mpr ⟨tm_5 (List.mem_of_getElem? (i := 37) (by decide +kernel)), List.forall_mem_cons.mpr ⟨tm_5 (List.mem_of_getElem? (i := 42) (by decide +kernel)), List.forall_mem_cons.mpr ⟨tm_5 (List.mem_of_getElem? (i := 46) (by decide +kernel)), List.forall_mem_cons.mpr ⟨tm_5 (List.mem_of_getElem? (i := 55) (by decide +kernel)), List.forall_mem_cons.mpr ⟨tm_5 (List.mem_of_getElem? (i := 68) (by decide +kernel)), List.forall_mem_cons.mpr ⟨tm_5 (List.mem_of_getElem? (i := 80) (by decide +kernel)), List.forall_mem_cons.mpr ⟨tm_5 (List.mem_of_getElem? (i := 92) (by decide +kernel)), List.forall_mem_cons.mpr ⟨tm_5 (List.mem_of_getElem? (i := 102) (by decide +kernel)), List.forall_mem_cons.mpr ⟨tm_5 (List.mem_of_getElem? (i := 106) (by decide +kernel)), List.forall_mem_cons.mpr ⟨tm_5 (List.mem_of_getElem? (i := 119) (by decide +kernel)), (fun _ h => absurd h List.not_mem_nil)⟩⟩⟩⟩⟩⟩⟩⟩⟩⟩⟩⟩⟩⟩⟩⟩
def qz_ml_10 : List (Nat × Nat × Nat) := [(11, 295, 246), (11, 298, 253), (11, 304, 264), (11, 307, 265), (11, 310, 272), (11, 314, 279), (11, 318, 280), (11, 324, 286), (11, 328, 293), (11, 337, 133), (11, 341, 241), (11, 344, 126), (11, 347, 139), (11, 351, 31), (11, 357, 217), (11, 361, 162)]
theorem qz_ml_ok10 : ∀ q ∈ qz_ml_10, qz_mlw q := List.forall_mem_cons.mpr ⟨tm_5 (List.mem_of_getElem? (i := 128) (by decide +kernel)), List.forall_mem_cons.mpr ⟨tm_5 (List.mem_of_getElem? (i := 136) (by decide +kernel)), List.forall_mem_cons.mpr ⟨tm_5 (List.mem_of_getElem? (i := 150) (by decide +kernel)), List.forall_mem_cons.mpr ⟨tm_5 (List.mem_of_getElem? (i := 181) (by decide +kernel)), List.forall_mem_cons.mpr ⟨tm_5 (List.mem_of_getElem? (i := 190) (by decide +kernel)), List.forall_mem_cons.mpr ⟨tm_5 (List.mem_of_getElem? (i := 199) (by decide +kernel)), List.forall_mem_cons.mpr ⟨tm_5 (List.mem_of_getElem? (i := 227) (by decide +kernel)), List.forall_mem_cons.mpr ⟨tm_5 (List.mem_of_getElem? (i := 235) (by decide +kernel)), List.forall_mem_cons.mpr ⟨tm_6 (List.mem_of_getElem? (i := 17) (by decide +kernel)), List.forall_mem_cons.mpr ⟨tm_4 (List.mem_of_getElem? (i := 57) (by decide +kernel)), List.forall_mem_cons.mpr ⟨tm_5 (List.mem_of_getElem? (i := 194) (by decide +kernel)), List.forall_mem_cons.mpr ⟨tm_4 (List.mem_of_getElem? (i := 78) (by decide +kernel)), List.forall_mem_cons.mpr ⟨tm_4 (List.mem_of_getElem? (i := 79) (by decide +kernel)), List.forall_mem_cons.mpr ⟨tm_5 (List.mem_of_getElem? (i := 54) (by decide +kernel)), List.forall_mem_cons.mpr ⟨tm_5 (List.mem_of_getElem? (i := 50) (by decide +kernel)), List.forall_mem_cons.mpr ⟨tm_5 (List.mem_of_getElem? (i := 59) (by decide +kernel)), (fun _ h => absurd h List.not_mem_nil)⟩⟩⟩⟩⟩⟩⟩⟩⟩⟩⟩⟩⟩⟩⟩⟩
def qz_ml_11 : List (Nat × Nat × Nat) := [(11, 366, 44), (11, 370, 45), (12, 152, 82), (12, 156, 72), (12, 160, 81), (12, 166, 15), (12, 176, 75), (12, 182, 76), (12, 217, 86), (12, 221, 87), (12, 246, 78), (12, 256, 80), (12, 259, 83), (12, 262, 84), (12, 265, 88), (12, 268, 89)]
theorem qz_ml_ok11 : ∀ q ∈ qz_ml_11, qz_mlw q := List.forall_mem_cons.mpr ⟨tm_5 (List.mem_of_getElem? (i := 139) (by decide +kernel)), List.forall_mem_cons.mpr ⟨tm_5 (List.mem_of_getElem? (i := 140) (by decide +kernel)), List.forall_mem_cons.mpr ⟨tm_7 (List.mem_of_getElem? (i := 49) (by decide +kernel)), List.forall_mem_cons.mpr ⟨tm_6 (List.mem_of_getElem? (i := 236) (by decide +kernel)), List.forall_mem_cons.mpr ⟨tm_7 (List.mem_of_getElem? (i := 45) (by decide +kernel)), List.forall_mem_cons.mpr ⟨tm_6 (List.mem_of_getElem? (i := 228) (by decide +kernel)), List.forall_mem_cons.mpr ⟨tm_7 (List.mem_of_getElem? (i := 20) (by decide +kernel)), List.forall_mem_cons.mpr ⟨tm_7 (List.mem_of_getElem? (i := 16) (by decide +kernel)), List.forall_mem_cons.mpr ⟨tm_7 (List.mem_of_getElem? (i := 76) (by decide +kernel)), List.forall_mem_cons.mpr ⟨tm_7 (List.mem_of_getElem? (i := 84) (by decide +kernel)), List.forall_mem_cons.mpr ⟨tm_7 (List.mem_of_getElem? (i := 24) (by decide +kernel)), List.forall_mem_cons.mpr ⟨tm_7 (List.mem_of_getElem? (i := 32) (by decide +kernel)), List.forall_mem_cons.mpr ⟨tm_7 (List.mem_of_getElem? (i := 53) (by decide +kernel)), List.forall_mem_cons.mpr ⟨tm_7 (List.mem_of_getElem? (i := 57) (by decide +kernel)), List.forall_mem_cons.mpr ⟨tm_7 (List.mem_of_getElem? (i := 65) (by decide +kernel)), List.forall_mem_cons.mpr ⟨tm_7 (List.mem_of_getElem? (i := 91) (by decide +kernel)), (fun _ h => absurd h List.not_mem_nil)⟩⟩⟩⟩⟩⟩⟩⟩⟩⟩⟩⟩⟩⟩⟩⟩
def qz_ml_12 : List (Nat × Nat × Nat) := [(12, 271, 74), (12, 275, 91), (12, 278, 77), (12, 281, 92), (12, 284, 93), (12, 288, 94), (12, 291, 96), (12, 295, 100), (12, 301, 101), (12, 307, 102), (12, 311, 79), (12, 315, 105), (12, 319, 104), (12, 323, 103), (12, 326, 106), (12, 329, 107)]
theorem qz_ml_ok12 : ∀ q ∈ qz_ml_12, qz_mlw q := List.forall_mem_cons.mpr ⟨tm_7 (List.mem_of_getElem? (i := 7) (by decide +kernel)), List.forall_mem_cons.mpr ⟨tm_7 (List.mem_of_getElem? (i := 99) (by decide +kernel)), List.forall_mem_cons.mpr ⟨tm_7 (List.mem_of_getElem? (i := 12) (by decide +kernel)), List.forall_mem_cons.mpr ⟨tm_7 (List.mem_of_getElem? (i := 103) (by decide +kernel)), List.forall_mem_cons.mpr ⟨tm_7 (List.mem_of_getElem? (i := 106) (by decide +kernel)), List.forall_mem_cons.mpr ⟨tm_7 (List.mem_of_getElem? (i := 109) (by decide +kernel)), List.forall_mem_cons.mpr ⟨tm_7 (List.mem_of_getElem? (i := 117) (by decide +kernel)), List.forall_mem_cons.mpr ⟨tm_7 (List.mem_of_getElem? (i := 141) (by decide +kernel)), List.forall_mem_cons.mpr ⟨tm_7 (List.mem_of_getElem? (i := 144) (by decide +kernel)), List.forall_mem_cons.mpr ⟨tm_7 (List.mem_of_getElem? (i := 137) (by decide +kernel)), List.forall_mem_cons.mpr ⟨tm_7 (List.mem_of_getElem? (i := 28) (by decide +kernel)), List.forall_mem_cons.mpr ⟨tm_7 (List.mem_of_getElem? (i := 151) (by decide +kernel)), List.forall_mem_cons.mpr ⟨tm_7 (List.mem_of_getElem? (i := 155) (by decide +kernel)), List.forall_mem_cons.mpr ⟨tm_7 (List.mem_of_getElem? (i := 133) (by decide +kernel)), List.forall_mem_cons.mpr ⟨tm_7 (List.mem_of_getElem? (i := 147) (by decide +kernel)), List.forall_mem_cons.mpr ⟨tm_7 (List.mem_of_getElem? (i := 158) (by decide +kernel)), (fun _ h => absurd h List.not_mem_nil)⟩⟩⟩⟩⟩⟩⟩⟩⟩⟩⟩⟩⟩⟩⟩⟩
def qz_ml_13 : List (Nat × Nat × Nat) := [(12, 333, 85), (12, 336, 90), (12, 339, 95), (12, 342, 97), (12, 345, 98), (12, 348, 99), (12, 351, 108), (12, 354, 109), (12, 357, 73), (12, 361, 110), (12, 364, 111), (12, 367, 122), (12, 371, 144), (12, 374, 142), (12, 377, 143), (12, 380, 145)]
theorem qz_ml_ok13 : ∀ q ∈ qz_ml_13, qz_mlw q := List.forall_mem_cons.mpr ⟨tm_7 (List.mem_of_getElem? (i := 41) (by decide +kernel)), List.forall_mem_cons.mpr ⟨tm_7 (List.mem_of_getElem? (i := 61) (by decide +kernel)), List.forall_mem_cons.mpr ⟨tm_7 (List.mem_of_getElem? (i := 95) (by decide +kernel)), List.forall_mem_cons.mpr ⟨tm_7 (List.mem_of_getElem? (i := 113) (by decide +kernel)), List.forall_mem_cons.mpr ⟨tm_7 (List.mem_of_getElem? (i := 121) (by decide +kernel)), List.forall_mem_cons.mpr ⟨tm_7 (List.mem_of_getElem? (i := 125) (by decide +kernel)), List.forall_mem_cons.mpr ⟨tm_7 (List.mem_of_getElem? (i := 129) (by decide +kernel)), List.forall_mem_cons.mpr ⟨tm_7 (List.mem_of_getElem? (i := 36) (by decide +kernel)), List.forall_mem_cons.mpr ⟨tm_6 (List.mem_of_getElem? (i := 239) (by decide +kernel)), List.forall_mem_cons.mpr ⟨tm_7 (List.mem_of_getElem? (i := 3) (by decide +kernel)), List.forall_mem_cons.mpr ⟨tm_7 (List.mem_of_getElem? (i := 162) (by decide +kernel)), List.forall_mem_cons.mpr ⟨tm_7 (List.mem_of_getElem? (i := 186) (by decide +kernel)), List.forall_mem_cons.mpr ⟨tm_7 (List.mem_of_getElem? (i := 218) (by decide +kernel)), List.forall_mem_cons.mpr ⟨tm_7 (List.mem_of_getElem? (i := 206) (by decide +kernel)), List.forall_mem_cons.mpr ⟨tm_7 (List.mem_of_getElem? (i := 210) (by decide +kernel)), List.forall_mem_cons.mpr ⟨tm_7 (List.mem_of_getElem? (i := 214) (by decide +kernel)), (fun _ h => absurd h List.not_mem_nil)⟩⟩⟩⟩⟩⟩⟩⟩⟩⟩⟩⟩⟩⟩⟩⟩
def qz_ml_14 : List (Nat × Nat × Nat) := [(12, 383, 123), (12, 386, 146), (12, 389, 124), (12, 396, 147), (12, 399, 148), (12, 402, 120), (12, 405, 121), (12, 408, 150), (12, 412, 149), (12, 415, 151), (12, 418, 159), (12, 430, 162), (12, 435, 165), (12, 439, 168), (12, 441, 173), (12, 444, 184)]
theorem qz_ml_ok14 : ∀ q ∈ qz_ml_14, qz_mlw q := List.forall_mem_cons.mpr ⟨tm_7 (List.mem_of_getElem? (i := 182) (by decide +kernel)), List.forall_mem_cons.mpr ⟨tm_7 (List.mem_of_getElem? (i := 202) (by decide +kernel)), List.forall_mem_cons.mpr ⟨tm_7 (List.mem_of_getElem? (i := 190) (by decide +kernel)), List.forall_mem_cons.mpr ⟨tm_7 (List.mem_of_getElem? (i := 225) (by decide +kernel)), List.forall_mem_cons.mpr ⟨tm_7 (List.mem_of_getElem? (i := 221) (by decide +kernel)), List.forall_mem_cons.mpr ⟨tm_7 (List.mem_of_getElem? (i := 174) (by decide +kernel)), List.forall_mem_cons.mpr ⟨tm_7 (List.mem_of_getElem? (i := 178) (by decide +kernel)), List.forall_mem_cons.mpr ⟨tm_7 (List.mem_of_getElem? (i := 233) (by decide +kernel)), List.forall_mem_cons.mpr ⟨tm_7 (List.mem_of_getElem? (i := 198) (by decide +kernel)), List.forall_mem_cons.mpr ⟨tm_7 (List.mem_of_getElem? (i := 229) (by decide +kernel)), List.forall_mem_cons.mpr ⟨tm_8 (List.mem_of_getElem? (i := 1) (by decide +kernel)), List.forall_mem_cons.mpr ⟨tm_8 (List.mem_of_getElem? (i := 13) (by decide +kernel)), List.forall_mem_cons.mpr ⟨tm_8 (List.mem_of_getElem? (i := 9) (by decide +kernel)), List.forall_mem_cons.mpr ⟨tm_8 (List.mem_of_getElem? (i := 18) (by decide +kernel)), List.forall_mem_cons.mpr ⟨tm_8 (List.mem_of_getElem? (i := 26) (by decide +kernel)), List.forall_mem_cons.mpr ⟨tm_8 (List.mem_of_getElem? (i := 46) (by decide +kernel)), (fun _ h => absurd h List.not_mem_nil)⟩⟩⟩⟩⟩⟩⟩⟩⟩⟩⟩⟩⟩⟩⟩⟩
def qz_ml_15 : List (Nat × Nat × Nat) := [(12, 447, 185), (12, 450, 183), (12, 453, 186), (12, 456, 213), (12, 459, 214), (12, 462, 199), (12, 465, 229), (12, 468, 221), (12, 471, 222), (12, 476, 136), (12, 479, 198), (12, 483, 200), (12, 486, 201), (12, 493, 237), (12, 496, 238), (12, 499, 249)]
theorem qz_ml_ok15 : ∀ q ∈ qz_ml_15, qz_mlw q := List.forall_mem_cons.mpr ⟨tm_8 (List.mem_of_getElem? (i := 50) (by decide +kernel)), List.forall_mem_cons.mpr ⟨tm_8 (List.mem_of_getElem? (i := 38) (by decide +kernel)), List.forall_mem_cons.mpr ⟨tm_8 (List.mem_of_getElem? (i := 42) (by decide +kernel)), List.forall_mem_cons.mpr ⟨tm_8 (List.mem_of_getElem? (i := 58) (by decide +kernel)), List.forall_mem_cons.mpr ⟨tm_8 (List.mem_of_getElem? (i := 62) (by decide +kernel)), List.forall_mem_cons.mpr ⟨tm_8 (List.mem_of_getElem? (i := 66) (by decide +kernel)), List.forall_mem_cons.mpr ⟨tm_8 (List.mem_of_getElem? (i := 77) (by decide +kernel)), List.forall_mem_cons.mpr ⟨tm_8 (List.mem_of_getElem? (i := 85) (by decide +kernel)), List.forall_mem_cons.mpr ⟨tm_8 (List.mem_of_getElem? (i := 93) (by decide +kernel)), List.forall_mem_cons.mpr ⟨tm_8 (List.mem_of_getElem? (i := 107) (by decide +kernel)), List.forall_mem_cons.mpr ⟨tm_8 (List.mem_of_getElem? (i := 102) (by decide +kernel)), List.forall_mem_cons.mpr ⟨tm_8 (List.mem_of_getElem? (i := 108) (by decide +kernel)), List.forall_mem_cons.mpr ⟨tm_8 (List.mem_of_getElem? (i := 98) (by decide +kernel)), List.forall_mem_cons.mpr ⟨tm_8 (List.mem_of_getElem? (i := 124) (by decide +kernel)), List.forall_mem_cons.mpr ⟨tm_8 (List.mem_of_getElem? (i := 128) (by decide +kernel)), List.forall_mem_cons.mpr ⟨tm_8 (List.mem_of_getElem? (i := 145) (by decide +kernel)), (fun _ h => absurd h List.not_mem_nil)⟩⟩⟩⟩⟩⟩⟩⟩⟩⟩⟩⟩⟩⟩⟩⟩
def qz_ml_16 : List (Nat × Nat × Nat) := [(12, 502, 250), (12, 505, 248), (12, 508, 251), (12, 511, 255), (12, 516, 260), (12, 519, 267), (12, 522, 268), (12, 526, 269), (12, 531, 270), (12, 534, 282), (12, 543, 288), (12, 547, 291), (13, 335, 19), (13, 492, 21), (13, 495, 22), (18, 9, 11)]
theorem qz_ml_ok16 : ∀ q ∈ qz_ml_16, qz_mlw q := List.forall_mem_cons.mpr ⟨tm_8 (List.mem_of_getElem? (i := 149) (by decide +kernel)), List.forall_mem_cons.mpr ⟨tm_8 (List.mem_of_getElem? (i := 137) (by decide +kernel)), List.forall_mem_cons.mpr ⟨tm_8 (List.mem_of_getElem? (i := 141) (by decide +kernel)), List.forall_mem_cons.mpr ⟨tm_8 (List.mem_of_getElem? (i := 161) (by decide +kernel)), List.forall_mem_cons.mpr ⟨tm_8 (List.mem_of_getElem? (i := 180) (by decide +kernel)), List.forall_mem_cons.mpr ⟨tm_8 (List.mem_of_getElem? (i := 171) (by decide +kernel)), List.forall_mem_cons.mpr ⟨tm_8 (List.mem_of_getElem? (i := 175) (by decide +kernel)), List.forall_mem_cons.mpr ⟨tm_8 (List.mem_of_getElem? (i := 181) (by decide +kernel)), List.forall_mem_cons.mpr ⟨tm_8 (List.mem_of_getElem? (i := 167) (by decide +kernel)), List.forall_mem_cons.mpr ⟨tm_8 (List.mem_of_getElem? (i := 193) (by decide +kernel)), List.forall_mem_cons.mpr ⟨tm_8 (List.mem_of_getElem? (i := 201) (by decide +kernel)), List.forall_mem_cons.mpr ⟨tm_8 (List.mem_of_getElem? (i := 209) (by decide +kernel)), List.forall_mem_cons.mpr ⟨tm_3 (List.mem_of_getElem? (i := 20) (by decide +kernel)), List.forall_mem_cons.mpr ⟨tm_3 (List.mem_of_getElem? (i := 30) (by decide +kernel)), List.forall_mem_cons.mpr ⟨tm_3 (List.mem_of_getElem? (i := 34) (by decide +kernel)), List.forall_mem_cons.mpr ⟨tm_1 (List.mem_of_getElem? (i := 24) (by decide +kernel)), (fun _ h => absurd h List.not_mem_nil)⟩⟩⟩⟩⟩⟩⟩⟩⟩⟩⟩⟩⟩⟩⟩⟩
def qz_ml_17 : List (Nat × Nat × Nat) := [(18, 12, 12), (18, 13, 14), (18, 17, 16), (18, 18, 71), (18, 22, 112), (18, 23, 113), (18, 27, 114), (18, 28, 119), (18, 31, 125), (18, 32, 141), (18, 36, 152), (18, 37, 158), (18, 41, 160), (18, 42, 164), (18, 45, 166), (18, 46, 167)]
theorem qz_ml_ok17 : ∀ q ∈ qz_ml_17, qz_mlw q := List.forall_mem_cons.mpr ⟨tm_6 (List.mem_of_getElem? (i := 23) (by decide +kernel)), List.forall_mem_cons.mpr ⟨tm_2 (List.mem_of_getElem? (i := 217) (by decide +kernel)), List.forall_mem_cons.mpr ⟨tm_6 (List.mem_of_getElem? (i := 224) (by decide +kernel)), List.forall_mem_cons.mpr ⟨tm_2 (List.mem_of_getElem? (i := 225) (by decide +kernel)), List.forall_mem_cons.mpr ⟨tm_6 (List.mem_of_getElem? (i := 232) (by decide +kernel)), List.forall_mem_cons.mpr ⟨tm_4 (List.mem_of_getElem? (i := 6) (by decide +kernel)), List.forall_mem_cons.mpr ⟨tm_7 (List.mem_of_getElem? (i := 166) (by decide +kernel)), List.forall_mem_cons.mpr ⟨tm_4 (List.mem_of_getElem? (i := 10) (by decide +kernel)), List.forall_mem_cons.mpr ⟨tm_7 (List.mem_of_getElem? (i := 170) (by decide +kernel)), List.forall_mem_cons.mpr ⟨tm_4 (List.mem_of_getElem? (i := 31) (by decide +kernel)), List.forall_mem_cons.mpr ⟨tm_7 (List.mem_of_getElem? (i := 194) (by decide +kernel)), List.forall_mem_cons.mpr ⟨tm_4 (List.mem_of_getElem? (i := 101) (by decide +kernel)), List.forall_mem_cons.mpr ⟨tm_7 (List.mem_of_getElem? (i := 237) (by decide +kernel)), List.forall_mem_cons.mpr ⟨tm_4 (List.mem_of_getElem? (i := 127) (by decide +kernel)), List.forall_mem_cons.mpr ⟨tm_8 (List.mem_of_getElem? (i := 5) (by decide +kernel)), List.forall_mem_cons.mpr ⟨tm_4 (List.mem_of_getElem? (i := 142) (by decide +kernel)), (fun _ h => absurd h List.not_mem_nil)⟩⟩⟩⟩⟩⟩⟩⟩⟩⟩⟩⟩⟩⟩⟩⟩
def qz_ml_18 : List (Nat × Nat × Nat) := [(18, 50, 169), (18, 51, 172), (18, 54, 174), (18, 55, 175), (18, 59, 176), (18, 60, 182), (18, 63, 187), (18, 64, 197), (18, 68, 202), (18, 69, 204), (18, 72, 205), (18, 73, 212), (18, 77, 215), (18, 78, 220), (18, 81, 222), (18, 82, 223)]
theorem qz_ml_ok18 : ∀ q ∈ qz_ml_18, qz_mlw q := List.forall_mem_cons.mpr ⟨tm_8 (List.mem_of_getElem? (i := 14) (by decide +kernel)), List.forall_mem_cons.mpr ⟨tm_4 (List.mem_of_getElem? (i := 147) (by decide +kernel)), List.forall_mem_cons.mpr ⟨tm_8 (List.mem_of_getElem? (i := 22) (by decide +kernel)), List.forall_mem_cons.mpr ⟨tm_4 (List.mem_of_getElem? (i := 160) (by decide +kernel)), List.forall_mem_cons.mpr ⟨tm_8 (List.mem_of_getElem? (i := 30) (by decide +kernel)), List.forall_mem_cons.mpr ⟨tm_4 (List.mem_of_getElem? (i := 164) (by decide +kernel)), List.forall_mem_cons.mpr ⟨tm_8 (List.mem_of_getElem? (i := 34) (by decide +kernel)), List.forall_mem_cons.mpr ⟨tm_4 (List.mem_of_getElem? (i := 189) (by decide +kernel)), List.forall_mem_cons.mpr ⟨tm_8 (List.mem_of_getElem? (i := 94) (by decide +kernel)), List.forall_mem_cons.mpr ⟨tm_4 (List.mem_of_getElem? (i := 235) (by decide +kernel)), List.forall_mem_cons.mpr ⟨tm_8 (List.mem_of_getElem? (i := 112) (by decide +kernel)), List.forall_mem_cons.mpr ⟨tm_5 (List.mem_of_getElem? (i := 3) (by decide +kernel)), List.forall_mem_cons.mpr ⟨tm_8 (List.mem_of_getElem? (i := 54) (by decide +kernel)), List.forall_mem_cons.mpr ⟨tm_5 (List.mem_of_getElem? (i := 38) (by decide +kernel)), List.forall_mem_cons.mpr ⟨tm_8 (List.mem_of_getElem? (i := 81) (by decide +kernel)), List.forall_mem_cons.mpr ⟨tm_5 (List.mem_of_getElem? (i := 60) (by decide +kernel)), (fun _ h => absurd h List.not_mem_nil)⟩⟩⟩⟩⟩⟩⟩⟩⟩⟩⟩⟩⟩⟩⟩⟩
def qz_ml_19 : List (Nat × Nat × Nat) := [(18, 85, 224), (18, 86, 226), (18, 89, 227), (18, 90, 228), (18, 93, 230), (18, 94, 233), (18, 98, 234), (18, 99, 236), (18, 102, 239), (18, 103, 247), (18, 106, 252), (18, 107, 254), (18, 110, 255), (18, 111, 256), (18, 114, 257), (18, 115, 266)]
theorem qz_ml_ok19 : ∀ q ∈ qz_ml_19, qz_mlw q := List.forall_mem_cons.mpr ⟨tm_8 (List.mem_of_getElem? (i := 89) (by decide +kernel)), List.forall_mem_cons.mpr ⟨tm_5 (List.mem_of_getElem? (i := 64) (by decide +kernel)), List.forall_mem_cons.mpr ⟨tm_8 (List.mem_of_getElem? (i := 69) (by decide +kernel)), List.forall_mem_cons.mpr ⟨tm_5 (List.mem_of_getElem? (i := 72) (by decide +kernel)), List.forall_mem_cons.mpr ⟨tm_8 (List.mem_of_getElem? (i := 73) (by decide +kernel)), List.forall_mem_cons.mpr ⟨tm_5 (List.mem_of_getElem? (i := 76) (by decide +kernel)), List.forall_mem_cons.mpr ⟨tm_8 (List.mem_of_getElem? (i := 116) (by decide +kernel)), List.forall_mem_cons.mpr ⟨tm_5 (List.mem_of_getElem? (i := 88) (by decide +kernel)), List.forall_mem_cons.mpr ⟨tm_8 (List.mem_of_getElem? (i := 120) (by decide +kernel)), List.forall_mem_cons.mpr ⟨tm_5 (List.mem_of_getElem? (i := 98) (by decide +kernel)), List.forall_mem_cons.mpr ⟨tm_8 (List.mem_of_getElem? (i := 133) (by decide +kernel)), List.forall_mem_cons.mpr ⟨tm_5 (List.mem_of_getElem? (i := 132) (by decide +kernel)), List.forall_mem_cons.mpr ⟨tm_8 (List.mem_of_getElem? (i := 153) (by decide +kernel)), List.forall_mem_cons.mpr ⟨tm_5 (List.mem_of_getElem? (i := 141) (by decide +kernel)), List.forall_mem_cons.mpr ⟨tm_8 (List.mem_of_getElem? (i := 157) (by decide +kernel)), List.forall_mem_cons.mpr ⟨tm_5 (List.mem_of_getElem? (i := 145) (by decide +kernel)), (fun _ h => absurd h List.not_mem_nil)⟩⟩⟩⟩⟩⟩⟩⟩⟩⟩⟩⟩⟩⟩⟩⟩
def qz_ml_20 : List (Nat × Nat × Nat) := [(18, 119, 271), (18, 120, 273), (18, 123, 274), (18, 124, 281), (18, 127, 283), (18, 128, 287), (18, 131, 289), (18, 132, 290), (18, 135, 292), (18, 136, 294), (18, 139, 295)]
theorem qz_ml_ok20 : ∀ q ∈ qz_ml_20, qz_mlw q := List.forall_mem_cons.mpr ⟨tm_8 (List.mem_of_getElem? (i := 162) (by decide +kernel)), List.forall_mem_cons.mpr ⟨tm_5 (List.mem_of_getElem? (i := 186) (by decide +kernel)), List.forall_mem_cons.mpr ⟨tm_8 (List.mem_of_getElem? (i := 185) (by decide +kernel)), List.forall_mem_cons.mpr ⟨tm_5 (List.mem_of_getElem? (i := 195) (by decide +kernel)), List.forall_mem_cons.mpr ⟨tm_8 (List.mem_of_getElem? (i := 189) (by decide +kernel)), List.forall_mem_cons.mpr ⟨tm_5 (List.mem_of_getElem? (i := 231) (by decide +kernel)), List.forall_mem_cons.mpr ⟨tm_8 (List.mem_of_getElem? (i := 197) (by decide +kernel)), List.forall_mem_cons.mpr ⟨tm_6 (List.mem_of_getElem? (i := 9) (by decide +kernel)), List.forall_mem_cons.mpr ⟨tm_8 (List.mem_of_getElem? (i := 205) (by decide +kernel)), List.forall_mem_cons.mpr ⟨tm_6 (List.mem_of_getElem? (i := 13) (by decide +kernel)), List.forall_mem_cons.mpr ⟨tm_8 (List.mem_of_getElem? (i := 213) (by decide +kernel)), (fun _ h => absurd h List.not_mem_nil)⟩⟩⟩⟩⟩⟩⟩⟩⟩⟩⟩
def qz_ml : List (Nat × Nat × Nat) := qz_ml_0 ++ (qz_ml_1 ++ (qz_ml_2 ++ (qz_ml_3 ++ (qz_ml_4 ++ (qz_ml_5 ++ (qz_ml_6 ++ (qz_ml_7 ++ (qz_ml_8 ++ (qz_ml_9 ++ (qz_ml_10 ++ (qz_ml_11 ++ (qz_ml_12 ++ (qz_ml_13 ++ (qz_ml_14 ++ (qz_ml_15 ++ (qz_ml_16 ++ (qz_ml_17 ++ (qz_ml_18 ++ (qz_ml_19 ++ (qz_ml_20))))))))))))))))))))
theorem qz_ml_ok : ∀ q ∈ qz_ml, qz_mlw q := List.forall_mem_append.mpr ⟨qz_ml_ok0, List.forall_mem_append.mpr ⟨qz_ml_ok1, List.forall_mem_append.mpr ⟨qz_ml_ok2, List.forall_mem_append.mpr ⟨qz_ml_ok3, List.forall_mem_append.mpr ⟨qz_ml_ok4, List.forall_mem_append.mpr ⟨qz_ml_ok5, List.forall_mem_append.mpr ⟨qz_ml_ok6, List.forall_mem_append.mpr ⟨qz_ml_ok7, List.forall_mem_append.mpr ⟨qz_ml_ok8, List.forall_mem_append.mpr ⟨qz_ml_ok9, List.forall_mem_append.mpr ⟨qz_ml_ok10, List.forall_mem_append.mpr ⟨qz_ml_ok11, List.forall_mem_append.mpr ⟨qz_ml_ok12, List.forall_mem_append.mpr ⟨qz_ml_ok13, List.forall_mem_append.mpr ⟨qz_ml_ok14, List.forall_mem_append.mpr ⟨qz_ml_ok15, List.forall_mem_append.mpr ⟨qz_ml_ok16, List.forall_mem_append.mpr ⟨qz_ml_ok17, List.forall_mem_append.mpr ⟨qz_ml_ok18, List.forall_mem_append.mpr ⟨qz_ml_ok19, qz_ml_ok20⟩⟩⟩⟩⟩⟩⟩⟩⟩⟩⟩⟩⟩⟩⟩⟩⟩⟩⟩⟩
def qz_mnw (q : Nat × Nat × Nat) : Prop := Cond.methodLinkNest (qz_gd "" qz_on q.1) q.2.1 (qz_in q.2.2).1.1 "TinStencils" ∈ tables_1
def qz_mh_0 : List (Nat × Nat × Nat) := [(3, 71, 130), (3, 86, 131), (4, 85, 130), (4, 89, 131), (5, 40, 130), (5, 48, 131), (6, 24, 1), (8, 43, 0), (8, 115, 44), (8, 119, 45), (9, 11, 3), (11, 39, 1), (11, 46, 4), (11, 53, 5), (11, 60, 6), (11, 67, 7)]
theorem qz_mh_ok0 : ∀ q ∈ qz_mh_0, qz_mnw q := List.forall_mem_cons.mpr ⟨tm_4 (List.mem_of_getElem? (i := 84) (by decide +kernel)), List.forall_mem_cons.mpr ⟨tm_4 (List.mem_of_getElem? (i := 100) (by decide +kernel)), List.forall_mem_cons.mpr ⟨tm_4 (List.mem_of_getElem? (i := 225) (by decide +kernel)), List.forall_mem_cons.mpr ⟨tm_4 (List.mem_of_getElem? (i := 226) (by decide +kernel)), List.forall_mem_cons.mpr ⟨tm_4 (List.mem_of_getElem? (i := 62) (by decide +kernel)), List.forall_mem_cons.mpr ⟨tm_4 (List.mem_of_getElem? (i := 69) (by decide +kernel)), List.forall_mem_cons.mpr ⟨tm_1 (List.mem_of_getElem? (i := 39) (by decide +kernel)), List.forall_mem_cons.mpr ⟨tm_1 (List.mem_of_getElem? (i := 45) (by decide +kernel)), List.forall_mem_cons.mpr ⟨tm_3 (List.mem_of_getElem? (i := 146) (by decide +kernel)), List.forall_mem_cons.mpr ⟨tm_3 (List.mem_of_getElem? (i := 149) (by decide +kernel)), List.forall_mem_cons.mpr ⟨tm_1 (List.mem_of_getElem? (i := 185) (by decide +kernel)), List.forall_mem_cons.mpr ⟨tm_1 (List.mem_of_getElem? (i := 176) (by decide +kernel)), List.forall_mem_cons.mpr ⟨tm_1 (List.mem_of_getElem? (i := 179) (by decide +kernel)), List.forall_mem_cons.mpr ⟨tm_2 (List.mem_of_getElem? (i := 1) (by decide +kernel)), List.forall_mem_cons.mpr ⟨tm_2 (List.mem_of_getElem? (i := 43) (by decide +kernel)), List.forall_mem_cons.mpr ⟨tm_2 (List.mem_of_getElem? (i := 77) (by decide +kernel)), (fun _ h => absurd h List.not_mem_nil)⟩⟩⟩⟩⟩⟩⟩⟩⟩⟩⟩⟩⟩⟩⟩⟩
def qz_mh_1 : List (Nat × Nat × Nat) := [(11, 74, 8), (11, 81, 9), (11, 88, 10)]
theorem qz_mh_ok1 : ∀ q ∈ qz_mh_1, qz_mnw q := List.forall_mem_cons.mpr ⟨tm_2 (List.mem_of_getElem? (i := 97) (by decide +kernel)), List.forall_mem_cons.mpr ⟨tm_2 (List.mem_of_getElem? (i := 113) (by decide +kernel)), List.forall_mem_cons.mpr ⟨tm_2 (List.mem_of_getElem? (i := 141) (by decide +kernel)), (fun _ h => absurd h List.not_mem_nil)⟩⟩⟩
def qz_mh : List (Nat × Nat × Nat) := qz_mh_0 ++ (qz_mh_1)
theorem qz_mh_ok : ∀ q ∈ qz_mh, qz_mnw q := List.forall_mem_append.mpr ⟨qz_mh_ok0, qz_mh_ok1⟩
def qz_klw (q : Nat × Nat × Nat) : Prop := Cond.classLink (qz_gd "" qz_on q.1) q.2.1 (qz_gd "" qz_cn q.2.2) ∈ tables_1
def qz_kc_0 : List (Nat × Nat × Nat) := [(6, 9, 8), (8, 41, 0), (9, 9, 10), (11, 23, 6), (11, 37, 8), (11, 44, 9), (11, 51, 3), (11, 58, 5), (11, 65, 4), (11, 72, 1), (11, 79, 7), (11, 86, 2), (18, 7, 11), (18, 10, 12)]
theorem qz_kc_ok0 : ∀ q ∈ qz_kc_0, qz_klw q := List.forall_mem_cons.mpr ⟨tm_1 (List.mem_of_getElem? (i := 36) (by decide +kernel)), List.forall_mem_cons.mpr ⟨tm_1 (List.mem_of_getElem? (i := 43) (by decide +kernel)), List.forall_mem_cons.mpr ⟨tm_1 (List.mem_of_getElem? (i := 183) (by decide +kernel)), List.forall_mem_cons.mpr ⟨tm_1 (List.mem_of_getElem? (i := 30) (by decide +kernel)), List.forall_mem_cons.mpr ⟨tm_1 (List.mem_of_getElem? (i := 175) (by decide +kernel)), List.forall_mem_cons.mpr ⟨tm_1 (List.mem_of_getElem? (i := 177) (by decide +kernel)), List.forall_mem_cons.mpr ⟨tm_1 (List.mem_of_getElem? (i := 239) (by decide +kernel)), List.forall_mem_cons.mpr ⟨tm_2 (List.mem_of_getElem? (i := 41) (by decide +kernel)), List.forall_mem_cons.mpr ⟨tm_2 (List.mem_of_getElem? (i := 75) (by decide +kernel)), List.forall_mem_cons.mpr ⟨tm_2 (List.mem_of_getElem? (i := 95) (by decide +kernel)), List.forall_mem_cons.mpr ⟨tm_2 (List.mem_of_getElem? (i := 111) (by decide +kernel)), List.forall_mem_cons.mpr ⟨tm_2 (List.mem_of_getElem? (i := 139) (by decide +kernel)), List.forall_mem_cons.mpr ⟨tm_1 (List.mem_of_getElem? (i := 22) (by decide +kernel)), List.forall_mem_cons.mpr ⟨tm_6 (List.mem_of_getElem? (i := 21) (by decide +kernel)), (fun _ h => absurd h List.not_mem_nil)⟩⟩⟩⟩⟩⟩⟩⟩⟩⟩⟩⟩⟩⟩
def qz_kc : List (Nat × Nat × Nat) := qz_kc_0
theorem qz_kc_ok : ∀ q ∈ qz_kc, qz_klw q := qz_kc_ok0
def qz_kiw (q : Nat × Nat × Int32) : Prop := Cond.constant (qz_gd "" qz_on q.1) q.2.1 q.2.2 ∈ tables_1
def qz_ki_0 : List (Nat × Nat × Int32) := [(4, 11, (nI 51328)), (4, 80, (nI 1000000)), (6, 37, (nI 999999)), (12, 94, (nI 51200)), (12, 475, (nI 1000000000)), (12, 492, (nI 100000)), (15, 265, (nI 1431655765)), (15, 266, (nI 858993459)), (15, 267, (nI 252645135))]
theorem qz_ki_ok0 : ∀ q ∈ qz_ki_0, qz_kiw q := List.forall_mem_cons.mpr ⟨tm_2 (List.mem_of_getElem? (i := 81) (by decide +kernel)), List.forall_mem_cons.mpr ⟨tm_4 (List.mem_of_getElem? (i := 212) (by decide +kernel)), List.forall_mem_cons.mpr ⟨tm_5 (List.mem_of_getElem? (i := 87) (by decide +kernel)), List.forall_mem_cons.mpr ⟨tm_6 (List.mem_of_getElem? (i := 27) (by decide +kernel)), List.forall_mem_cons.mpr ⟨tm_8 (List.mem_of_getElem? (i := 106) (by decide +kernel)), List.forall_mem_cons.mpr ⟨tm_8 (List.mem_of_getElem? (i := 132) (by decide +kernel)), List.forall_mem_cons.mpr ⟨tm_3 (List.mem_of_getElem? (i := 234) (by decide +kernel)), List.forall_mem_cons.mpr ⟨tm_3 (List.mem_of_getElem? (i := 235) (by decide +kernel)), List.forall_mem_cons.mpr ⟨tm_3 (List.mem_of_getElem? (i := 236) (by decide +kernel)), (fun _ h => absurd h List.not_mem_nil)⟩⟩⟩⟩⟩⟩⟩⟩⟩
def qz_ki : List (Nat × Nat × Int32) := qz_ki_0
theorem qz_ki_ok : ∀ q ∈ qz_ki, qz_kiw q := qz_ki_ok0
def qz_kjw (q : Nat × Nat × Int64) : Prop := Cond.constantLong (qz_gd "" qz_on q.1) q.2.1 q.2.2 ∈ tables_1
def qz_kj_0 : List (Nat × Nat × Int64) := [(7, 74, (lN 1000000000000000000)), (7, 94, (-1)), (9, 206, (lN 27)), (9, 208, (lN 97)), (11, 302, (-1)), (12, 195, (lN 482854663269)), (12, 197, (lN 7499639)), (12, 199, (lN 495672455269)), (12, 201, (lN 7370100)), (12, 203, (lN 128047779833188)), (12, 205, (lN 1752132708)), (12, 207, (lN 512970880104)), (12, 209, (lN 29807)), (12, 211, (lN 422827094888)), (12, 213, (lN 2003132786)), (12, 215, (lN 108243533981541))]
theorem qz_kj_ok0 : ∀ q ∈ qz_kj_0, qz_kjw q := List.forall_mem_cons.mpr ⟨tm_5 (List.mem_of_getElem? (i := 169) (by decide +kernel)), List.forall_mem_cons.mpr ⟨tm_5 (List.mem_of_getElem? (i := 185) (by decide +kernel)), List.forall_mem_cons.mpr ⟨tm_3 (List.mem_of_getElem? (i := 120) (by decide +kernel)), List.forall_mem_cons.mpr ⟨tm_3 (List.mem_of_getElem? (i := 121) (by decide +kernel)), List.forall_mem_cons.mpr ⟨tm_5 (List.mem_of_getElem? (i := 149) (by decide +kernel)), List.forall_mem_cons.mpr ⟨tm_7 (List.mem_of_getElem? (i := 11) (by decide +kernel)), List.forall_mem_cons.mpr ⟨tm_7 (List.mem_of_getElem? (i := 40) (by decide +kernel)), List.forall_mem_cons.mpr ⟨tm_7 (List.mem_of_getElem? (i := 60) (by decide +kernel)), List.forall_mem_cons.mpr ⟨tm_7 (List.mem_of_getElem? (i := 68) (by decide +kernel)), List.forall_mem_cons.mpr ⟨tm_7 (List.mem_of_getElem? (i := 69) (by decide +kernel)), List.forall_mem_cons.mpr ⟨tm_7 (List.mem_of_getElem? (i := 70) (by decide +kernel)), List.forall_mem_cons.mpr ⟨tm_7 (List.mem_of_getElem? (i := 71) (by decide +kernel)), List.forall_mem_cons.mpr ⟨tm_7 (List.mem_of_getElem? (i := 72) (by decide +kernel)), List.forall_mem_cons.mpr ⟨tm_7 (List.mem_of_getElem? (i := 73) (by decide +kernel)), List.forall_mem_cons.mpr ⟨tm_7 (List.mem_of_getElem? (i := 74) (by decide +kernel)), List.forall_mem_cons.mpr ⟨tm_7 (List.mem_of_getElem? (i := 75) (by decide +kernel)), (fun _ h => absurd h List.not_mem_nil)⟩⟩⟩⟩⟩⟩⟩⟩⟩⟩⟩⟩⟩⟩⟩⟩
def qz_kj_1 : List (Nat × Nat × Int64) := [(12, 225, (lN 8319400174365927540)), (12, 227, (lN 422826697060)), (12, 229, (lN 109330312357234)), (12, 231, (lN 1953459300)), (12, 233, (lN 114801865155950)), (12, 235, (lN 474316174440)), (12, 237, (lN 1700885364)), (12, 239, (lN 495791207528)), (12, 241, (lN 2003137396)), (12, 514, (lN 1000000000000000000)), (12, 529, (-1))]
theorem qz_kj_ok1 : ∀ q ∈ qz_kj_1, qz_kjw q := List.forall_mem_cons.mpr ⟨tm_7 (List.mem_of_getElem? (i := 79) (by decide +kernel)), List.forall_mem_cons.mpr ⟨tm_7 (List.mem_of_getElem? (i := 80) (by decide +kernel)), List.forall_mem_cons.mpr ⟨tm_7 (List.mem_of_getElem? (i := 81) (by decide +kernel)), List.forall_mem_cons.mpr ⟨tm_7 (List.mem_of_getElem? (i := 82) (by decide +kernel)), List.forall_mem_cons.mpr ⟨tm_7 (List.mem_of_getElem? (i := 83) (by decide +kernel)), List.forall_mem_cons.mpr ⟨tm_7 (List.mem_of_getElem? (i := 87) (by decide +kernel)), List.forall_mem_cons.mpr ⟨tm_7 (List.mem_of_getElem? (i := 88) (by decide +kernel)), List.forall_mem_cons.mpr ⟨tm_7 (List.mem_of_getElem? (i := 89) (by decide +kernel)), List.forall_mem_cons.mpr ⟨tm_7 (List.mem_of_getElem? (i := 90) (by decide +kernel)), List.forall_mem_cons.mpr ⟨tm_8 (List.mem_of_getElem? (i := 179) (by decide +kernel)), List.forall_mem_cons.mpr ⟨tm_8 (List.mem_of_getElem? (i := 166) (by decide +kernel)), (fun _ h => absurd h List.not_mem_nil)⟩⟩⟩⟩⟩⟩⟩⟩⟩⟩⟩
def qz_kj : List (Nat × Nat × Int64) := qz_kj_0 ++ (qz_kj_1)
theorem qz_kj_ok : ∀ q ∈ qz_kj, qz_kjw q := List.forall_mem_append.mpr ⟨qz_kj_ok0, qz_kj_ok1⟩
end
section
/-! A SMALL MACHINE over pure worlds: cells by numbers, locals, stack; one step a row of a table. Its runs are what the proofs speak of; that a run of it is a run of the JVM's model is one theorem (part 04). -/
abbrev qz_E : Type := (FieldType × vp_A) ⊕ (Nat × List Value)
abbrev qz_H : Type := Nat → qz_E
/-- cells, how many are made, how many slots they have -/
abbrev qz_W : Type := qz_H × Nat × Nat
abbrev qz_R : Type := Option Value × qz_W
abbrev qz_L : Type := List (Option Value)
/-- a row: instruction and length; three numbers; two constants; what locals are kept (going on, jumping); numbers -/
abbrev qz_I : Type := (Instr × Nat) × (Nat × Nat × Nat) × (Int32 × Int64) × (List Bool × List Bool) × List Nat
abbrev qz_B : Type := List (Nat × List (Nat × qz_I))
abbrev qz_K : Type := Nat → Nat → qz_L → List Value → qz_W → Option qz_R
/-- the numbers from here on are cells that were there before: the script, STEP_X, STEP_Y, the text and its bytes -/
abbrev qz_old : Nat := 1000000
def qz_lb : List (Nat × qz_I) → Nat → Option qz_I
  | [], _ => none
  | q :: r, pc => cond (Nat.beq pc q.1) (some q.2) (qz_lb r pc)
def qz_lk : qz_B → Nat → Option qz_I
  | [], _ => none
  | q :: r, pc => cond (Nat.ble q.1 pc) (qz_lk r pc) (qz_lb q.2 pc)
def qz_m : List Bool → qz_L → qz_L
  | [], L => L
  | _ :: _, [] => []
  | b :: bs, x :: L => cond b x none :: qz_m bs L
/-- a store: a long one place lower is no more -/
def qz_k1 (x : Option Value) : Option Value := match x with
  | some (.long _) => none
  | some (.double _) => none
  | x => x
def qz_s1 : qz_L → Nat → Value → qz_L
  | [], _, _ => []
  | _ :: L, 0, v => some v :: L
  | x :: L, 1, v => qz_k1 x :: qz_s1 L 0 v
  | x :: L, j + 2, v => x :: qz_s1 L (j + 1) v
def qz_s2 : qz_L → Nat → Value → qz_L
  | [], _, _ => []
  | _ :: L, 0, v => some v :: (match L with
    | [] => []
    | _ :: L => none :: L)
  | x :: L, 1, v => qz_k1 x :: qz_s2 L 0 v
  | x :: L, j + 2, v => x :: qz_s2 L (j + 1) v
def qz_li (L : qz_L) (j : Nat) (f : Int32 → Option qz_R) : Option qz_R := match qz_at L j with
  | some (some (.int x)) => f x
  | _ => none
def qz_ll (L : qz_L) (j : Nat) (f : Int64 → Option qz_R) : Option qz_R := match qz_at L j with
  | some (some (.long x)) => f x
  | _ => none
def qz_la (L : qz_L) (j : Nat) (f : Value → Option qz_R) : Option qz_R := match qz_at L j with
  | some (some (.ref o)) => f (.ref o)
  | some (some .null) => f .null
  | _ => none
def qz_p1 (st : List Value) (f : Int32 → List Value → Option qz_R) : Option qz_R := match st with
  | .int x :: r => f x r
  | _ => none
def qz_p2 (st : List Value) (f : Int32 → Int32 → List Value → Option qz_R) : Option qz_R := match st with
  | .int y :: .int x :: r => f x y r
  | _ => none
def qz_q1 (st : List Value) (f : Int64 → List Value → Option qz_R) : Option qz_R := match st with
  | .long x :: r => f x r
  | _ => none
def qz_q2 (st : List Value) (f : Int64 → Int64 → List Value → Option qz_R) : Option qz_R := match st with
  | .long y :: .long x :: r => f x y r
  | _ => none
def qz_pa (st : List Value) (f : Value → List Value → Option qz_R) : Option qz_R := match st with
  | .ref o :: r => f (.ref o) r
  | .null :: r => f .null r
  | _ => none
def qz_pr (st : List Value) (f : Nat → List Value → Option qz_R) : Option qz_R := match st with
  | .ref o :: r => f o r
  | _ => none
/-- fields: an int's, a cell's -/
def qz_gi (h : qz_H) (o ci k : Nat) (f : Int32 → Option qz_R) : Option qz_R := match h o with
  | .inr (cj, fs) => cond (Nat.beq cj ci) (match qz_at fs k with
    | some (.int x) => f x
    | _ => none) none
  | _ => none
def qz_ga (h : qz_H) (o ci k : Nat) (f : Nat → Option qz_R) : Option qz_R := match h o with
  | .inr (cj, fs) => cond (Nat.beq cj ci) (match qz_at fs k with
    | some (.ref x) => f x
    | _ => none) none
  | _ => none
def qz_pf (w : qz_W) (o ci k : Nat) (v : Value) (f : qz_W → Option qz_R) : Option qz_R := match w.1 o with
  | .inr (cj, fs) => cond (Nat.beq cj ci) (f (va_up w.1 o (.inr (cj, fs.set k v)), w.2)) none
  | _ => none
def qz_ck (h : qz_H) (o ci : Nat) (f : Option qz_R) : Option qz_R := match h o with
  | .inr (cj, _) => cond (Nat.beq cj ci) f none
  | _ => none
/-- arrays; '.float' and '.double' mark int and byte arrays that were there before and are only read -/
def qz_ia (h : qz_H) (o : Nat) (j : Int32) (f : Int32 → Option qz_R) : Option qz_R := match h o with
  | .inl (.int, n, .inl g) => if j < 0 ∨ n ≤ j.toNatClampNeg then none else f (g j.toNatClampNeg)
  | .inl (.float, n, .inl g) => if j < 0 ∨ n ≤ j.toNatClampNeg then none else f (g j.toNatClampNeg)
  | _ => none
def qz_ba (h : qz_H) (o : Nat) (j : Int32) (f : Int32 → Option qz_R) : Option qz_R := match h o with
  | .inl (.byte, n, .inl g) => if j < 0 ∨ n ≤ j.toNatClampNeg then none else f (g j.toNatClampNeg)
  | .inl (.double, n, .inl g) => if j < 0 ∨ n ≤ j.toNatClampNeg then none else f (g j.toNatClampNeg)
  | _ => none
def qz_ja (h : qz_H) (o : Nat) (j : Int32) (f : Int64 → Option qz_R) : Option qz_R := match h o with
  | .inl (.long, n, .inr (.inl g)) => if j < 0 ∨ n ≤ j.toNatClampNeg then none else f (g j.toNatClampNeg)
  | _ => none
def qz_aa (h : qz_H) (o : Nat) (j : Int32) (f : Nat → Option qz_R) : Option qz_R := match h o with
  | .inl (.object _, n, .inr (.inr (.inr (.inr g)))) => if j < 0 ∨ n ≤ j.toNatClampNeg then none else match g j.toNatClampNeg with
    | some q => f q
    | none => none
  | _ => none
def qz_is (w : qz_W) (o : Nat) (j x : Int32) (f : qz_W → Option qz_R) : Option qz_R := match w.1 o with
  | .inl (.int, n, .inl g) => if j < 0 ∨ n ≤ j.toNatClampNeg then none else f (va_up w.1 o (.inl (.int, n, .inl (upd g j.toNatClampNeg x))), w.2)
  | _ => none
def qz_bs (w : qz_W) (o : Nat) (j x : Int32) (f : qz_W → Option qz_R) : Option qz_R := match w.1 o with
  | .inl (.byte, n, .inl g) => if j < 0 ∨ n ≤ j.toNatClampNeg then none else f (va_up w.1 o (.inl (.byte, n, .inl (upd g j.toNatClampNeg (vp_nar .byte x)))), w.2)
  | _ => none
def qz_js (w : qz_W) (o : Nat) (j : Int32) (x : Int64) (f : qz_W → Option qz_R) : Option qz_R := match w.1 o with
  | .inl (.long, n, .inr (.inl g)) => if j < 0 ∨ n ≤ j.toNatClampNeg then none else f (va_up w.1 o (.inl (.long, n, .inr (.inl (vp_updL g j.toNatClampNeg x)))), w.2)
  | _ => none
def qz_as (w : qz_W) (o : Nat) (j : Int32) (v : Nat) (f : qz_W → Option qz_R) : Option qz_R := match w.1 o with
  | .inl (.object C, n, .inr (.inr (.inr (.inr g)))) => if j < 0 ∨ n ≤ j.toNatClampNeg then none else match w.1 v with
    | .inr (ci, _) => if qz_at qz_cn ci = some C then f (va_up w.1 o (.inl (.object C, n, .inr (.inr (.inr (.inr (va_up g j.toNatClampNeg (some v))))))), w.2) else none
    | _ => none
  | _ => none
def qz_len (h : qz_H) (o : Nat) (f : Int32 → Option qz_R) : Option qz_R := match h o with
  | .inl (_, n, _) => f (nI n)
  | _ => none
/-- a call's arguments off the stack -/
def qz_sp : Nat → List Value → List Value → (List Value → List Value → Option qz_R) → Option qz_R
  | 0, st, as, f => f as st
  | _ + 1, [], _, _ => none
  | b + 1, v :: st, as, f => qz_sp b st (v :: as) f
def qz_sl : List Value → Nat → qz_L
  | [], n => List.replicate n none
  | .long x :: r, n => some (.long x) :: none :: qz_sl r n
  | .double x :: r, n => some (.double x) :: none :: qz_sl r n
  | v :: r, n => some v :: qz_sl r n
def qz_cat : List Value → Nat
  | [] => 0
  | v :: r => v.category + qz_cat r
def qz_r0 (o : Option qz_R) (f : qz_W → Option qz_R) : Option qz_R := match o with
  | some (none, w) => f w
  | _ => none
def qz_r1 (o : Option qz_R) (f : Int32 → qz_W → Option qz_R) : Option qz_R := match o with
  | some (some (.int x), w) => f x w
  | _ => none
def qz_r2 (o : Option qz_R) (f : Int64 → qz_W → Option qz_R) : Option qz_R := match o with
  | some (some (.long x), w) => f x w
  | _ => none
def qz_r3 (o : Option qz_R) (f0 : qz_W → Option qz_R) (f : Nat → qz_W → Option qz_R) : Option qz_R := match o with
  | some (some .null, w) => f0 w
  | some (some (.ref q), w) => f q w
  | _ => none
def qz_z (x : Int32) : Bool := Nat.ble x.toBitVec.toNat 1
def qz_sw (x : Int32) (f : Nat → Option qz_R) (d : Nat) : Nat → List Nat → Option qz_R
  | _, [] => f d
  | j, t :: ts => if x = nI j then f t else qz_sw x f d (j + 1) ts
def qz_bra (c : Jvm.ClassFile.Cond) (x y : Int32) (f g : Option qz_R) : Option qz_R := match c with
  | .eq => if x = y then f else g
  | .ne => if x = y then g else f
  | .lt => if x < y then f else g
  | .ge => if y ≤ x then f else g
  | .gt => if y < x then f else g
  | .le => if x ≤ y then f else g
end
section
/-- an array as it is made: by the kind of its elements -/
def qz_na (t : ArrayType) (n : Nat) : qz_E := match t with
  | .long => .inl (.long, n, .inr (.inl (fun _ => 0)))
  | .byte => .inl (.byte, n, .inl (fun _ => 0))
  | _ => .inl (.int, n, .inl (fun _ => 0))
def qz_nt (t : ArrayType) : Bool := match t with
  | .long => true
  | .byte => true
  | .int => true
  | _ => false
/-- fields as they are made: by their kinds (0: a number, 1: a cell) -/
def qz_nf : List Nat → List Value
  | [] => []
  | 0 :: l => .int 0 :: qz_nf l
  | _ :: l => .null :: qz_nf l
/-- a copy between two int arrays that are not the same cell, or within one -/
def qz_cp (w : qz_W) (o q : Nat) (sp dp n : Int32) (f : qz_W → Option qz_R) : Option qz_R := match w.1 o with
  | .inl (.int, n0, .inl g) => match w.1 q with
    | .inl (.int, n1, .inl g1) => if sp < 0 ∨ dp < 0 ∨ n < 0 ∨ n0 < sp.toNatClampNeg + n.toNatClampNeg ∨ n1 < dp.toNatClampNeg + n.toNatClampNeg then none else
        f (va_up w.1 q (.inl (.int, n1, .inl (va_cpy g g1 sp.toNatClampNeg dp.toNatClampNeg n.toNatClampNeg))), w.2)
    | _ => none
  | _ => none
/-- the return of a call: 0 nothing, 1 an int, 2 a long, else a cell or null -/
def qz_rt (c : Nat) (o : Option qz_R) (r : List Value) (f : List Value → qz_W → Option qz_R) : Option qz_R := match c with
  | 0 => qz_r0 o (fun w => f r w)
  | 1 => qz_r1 o (fun x w => f (.int x :: r) w)
  | 2 => qz_r2 o (fun x w => f (.long x :: r) w)
  | _ => qz_r3 o (fun w => f (.null :: r) w) (fun q w => f (.ref q :: r) w)
def qz_iv (go : qz_K) (a b c pad mx : Nat) (ck : Option Nat) (st : List Value) (w : qz_W) (f : List Value → qz_W → Option qz_R) : Option qz_R :=
  qz_sp b st [] (fun as r => cond (Nat.ble (qz_cat r) 8 && Nat.ble (qz_cat as + pad) mx) (match ck with
    | none => qz_rt c (go a 0 (qz_sl as pad) [] w) r f
    | some ci => match as with
      | .ref o :: _ => qz_ck w.1 o ci (qz_rt c (go a 0 (qz_sl as pad) [] w) r f)
      | _ => none) none)
def qz_new (w : qz_W) (e : qz_E) (n : Nat) : qz_W := (va_up w.1 w.2.1 e, w.2.1 + 1, w.2.2 + n)
def qz_G (P : Nat → qz_B) (go : qz_K) (m pc : Nat) (L : qz_L) (st : List Value) (w : qz_W) : Option qz_R :=
  match qz_lk (P m) pc with
  | none => none
  | some ((i, n), (a, b, c), (k, kl), (mn, mt), tl) => match i with
    | .iconst _ => go m (pc + n) (qz_m mn L) (.int k :: st) w
    | .bipush _ => go m (pc + n) (qz_m mn L) (.int k :: st) w
    | .sipush _ => go m (pc + n) (qz_m mn L) (.int k :: st) w
    | .ldc _ => match c with
      | 0 => go m (pc + n) (qz_m mn L) (.int k :: st) w
      | _ => go m (pc + n) (qz_m mn L) (.ref a :: st) w
    | .ldc_w _ => go m (pc + n) (qz_m mn L) (.int k :: st) w
    | .lconst _ => go m (pc + n) (qz_m mn L) (.long kl :: st) w
    | .ldc2_w _ => go m (pc + n) (qz_m mn L) (.long kl :: st) w
    | .aconst_null => go m (pc + n) (qz_m mn L) (.null :: st) w
    | .iload j => qz_li L j (fun x => go m (pc + n) (qz_m mn L) (.int x :: st) w)
    | .iload_n j => qz_li L j.val (fun x => go m (pc + n) (qz_m mn L) (.int x :: st) w)
    | .lload j => qz_ll L j (fun x => go m (pc + n) (qz_m mn L) (.long x :: st) w)
    | .lload_n j => qz_ll L j.val (fun x => go m (pc + n) (qz_m mn L) (.long x :: st) w)
    | .aload j => qz_la L j (fun x => go m (pc + n) (qz_m mn L) (x :: st) w)
    | .aload_n j => qz_la L j.val (fun x => go m (pc + n) (qz_m mn L) (x :: st) w)
    | .istore j => qz_p1 st (fun x r => go m (pc + n) (qz_m mn (qz_s1 L j (.int x))) r w)
    | .istore_n j => qz_p1 st (fun x r => go m (pc + n) (qz_m mn (qz_s1 L j.val (.int x))) r w)
    | .lstore j => qz_q1 st (fun x r => go m (pc + n) (qz_m mn (qz_s2 L j (.long x))) r w)
    | .lstore_n j => qz_q1 st (fun x r => go m (pc + n) (qz_m mn (qz_s2 L j.val (.long x))) r w)
    | .astore j => qz_pa st (fun x r => go m (pc + n) (qz_m mn (qz_s1 L j x)) r w)
    | .astore_n j => qz_pa st (fun x r => go m (pc + n) (qz_m mn (qz_s1 L j.val x)) r w)
    | .iinc j _ => qz_li L j (fun x => go m (pc + n) (qz_m mn (qz_s1 L j (.int (x + k)))) st w)
    | .iadd => qz_p2 st (fun x y r => go m (pc + n) (qz_m mn L) (.int (x + y) :: r) w)
    | .isub => qz_p2 st (fun x y r => go m (pc + n) (qz_m mn L) (.int (x - y) :: r) w)
    | .imul => qz_p2 st (fun x y r => go m (pc + n) (qz_m mn L) (.int (x * y) :: r) w)
    | .iand => qz_p2 st (fun x y r => go m (pc + n) (qz_m mn L) (.int (x &&& y) :: r) w)
    | .ior => qz_p2 st (fun x y r => go m (pc + n) (qz_m mn L) (.int (x ||| y) :: r) w)
    | .ixor => qz_p2 st (fun x y r => go m (pc + n) (qz_m mn L) (.int (x ^^^ y) :: r) w)
    | .ishl => qz_p2 st (fun x y r => go m (pc + n) (qz_m mn L) (.int (x <<< (y &&& 31)) :: r) w)
    | .ishr => qz_p2 st (fun x y r => go m (pc + n) (qz_m mn L) (.int (x >>> (y &&& 31)) :: r) w)
    | .iushr => qz_p2 st (fun x y r => go m (pc + n) (qz_m mn L) (.int (x.toUInt32 >>> (y.toUInt32 &&& Int32.toUInt32 31)).toInt32 :: r) w)
    | .idiv => qz_p2 st (fun x y r => if y = 0 then none else go m (pc + n) (qz_m mn L) (.int (x / y) :: r) w)
    | .irem => qz_p2 st (fun x y r => if y = 0 then none else go m (pc + n) (qz_m mn L) (.int (x - x / y * y) :: r) w)
    | .ladd => qz_q2 st (fun x y r => go m (pc + n) (qz_m mn L) (.long (x + y) :: r) w)
    | .lsub => qz_q2 st (fun x y r => go m (pc + n) (qz_m mn L) (.long (x - y) :: r) w)
    | .lmul => qz_q2 st (fun x y r => go m (pc + n) (qz_m mn L) (.long (x * y) :: r) w)
    | .lor => qz_q2 st (fun x y r => go m (pc + n) (qz_m mn L) (.long (x ||| y) :: r) w)
    | .lcmp => qz_q2 st (fun x y r => go m (pc + n) (qz_m mn L) (.int (lg_cmp x y) :: r) w)
    | .lshl => qz_p1 st (fun y r => qz_q1 r (fun x r => go m (pc + n) (qz_m mn L) (.long (x <<< (y.toInt64 &&& 63)) :: r) w))
    | .i2l => qz_p1 st (fun x r => go m (pc + n) (qz_m mn L) (.long x.toInt64 :: r) w)
    | .i2b => qz_p1 st (fun x r => go m (pc + n) (qz_m mn L) (.int x.toInt8.toInt32 :: r) w)
    | .i2c => qz_p1 st (fun x r => go m (pc + n) (qz_m mn L) (.int (x.toUInt32 % 65536).toInt32 :: r) w)
    | .pop => match st with
      | v :: r => cond (Nat.beq v.category 1) (go m (pc + n) (qz_m mn L) r w) none
      | _ => none
    | .dup => match st with
      | v :: r => cond (Nat.beq v.category 1) (go m (pc + n) (qz_m mn L) (v :: v :: r) w) none
      | _ => none
    | .dup2 => match st with
      | v :: u :: r => cond (Nat.beq v.category 1 && Nat.beq u.category 1) (go m (pc + n) (qz_m mn L) (v :: u :: v :: u :: r) w) none
      | _ => none
    | .goto _ => go m a (qz_m mt L) st w
    | .if_icmp d _ => qz_p2 st (fun x y r => qz_bra d x y (go m a (qz_m mt L) r w) (go m (pc + n) (qz_m mn L) r w))
    | .ifCond d _ => qz_p1 st (fun x r => qz_bra d x 0 (go m a (qz_m mt L) r w) (go m (pc + n) (qz_m mn L) r w))
    | .ifnull _ => match st with
      | .null :: r => go m a (qz_m mt L) r w
      | .ref _ :: r => go m (pc + n) (qz_m mn L) r w
      | _ => none
    | .ifnonnull _ => match st with
      | .null :: r => go m (pc + n) (qz_m mn L) r w
      | .ref _ :: r => go m a (qz_m mt L) r w
      | _ => none
    | .tableswitch _ _ _ _ => qz_p1 st (fun x r => qz_sw x (fun t => go m t (qz_m mt L) r w) a b tl)
    | .getfield _ => match c with
      | 1 => qz_pr st (fun o r => qz_ga w.1 o a b (fun q => go m (pc + n) (qz_m mn L) (.ref q :: r) w))
      | _ => qz_pr st (fun o r => qz_gi w.1 o a b (fun x => go m (pc + n) (qz_m mn L) (.int x :: r) w))
    | .putfield _ => match c with
      | 1 => qz_pr st (fun q r => qz_pr r (fun o r => qz_pf w o a b (.ref q) (fun w => go m (pc + n) (qz_m mn L) r w)))
      | 2 => qz_p1 st (fun x r => qz_pr r (fun o r => cond (qz_z x) (qz_pf w o a b (.int x) (fun w => go m (pc + n) (qz_m mn L) r w)) none))
      | _ => qz_p1 st (fun x r => qz_pr r (fun o r => qz_pf w o a b (.int x) (fun w => go m (pc + n) (qz_m mn L) r w)))
    | .getstatic _ => match c with
      | 0 => go m (pc + n) (qz_m mn L) (.int k :: st) w
      | _ => go m (pc + n) (qz_m mn L) (.ref a :: st) w
    | .iaload => qz_p1 st (fun j r => qz_pr r (fun o r => qz_ia w.1 o j (fun x => go m (pc + n) (qz_m mn L) (.int x :: r) w)))
    | .baload => qz_p1 st (fun j r => qz_pr r (fun o r => qz_ba w.1 o j (fun x => go m (pc + n) (qz_m mn L) (.int x :: r) w)))
    | .laload => qz_p1 st (fun j r => qz_pr r (fun o r => qz_ja w.1 o j (fun x => go m (pc + n) (qz_m mn L) (.long x :: r) w)))
    | .aaload => qz_p1 st (fun j r => qz_pr r (fun o r => qz_aa w.1 o j (fun q => go m (pc + n) (qz_m mn L) (.ref q :: r) w)))
    | .iastore => qz_p2 st (fun j x r => qz_pr r (fun o r => qz_is w o j x (fun w => go m (pc + n) (qz_m mn L) r w)))
    | .bastore => qz_p2 st (fun j x r => qz_pr r (fun o r => qz_bs w o j x (fun w => go m (pc + n) (qz_m mn L) r w)))
    | .lastore => qz_q1 st (fun x r => qz_p1 r (fun j r => qz_pr r (fun o r => qz_js w o j x (fun w => go m (pc + n) (qz_m mn L) r w))))
    | .aastore => qz_pr st (fun v r => qz_p1 r (fun j r => qz_pr r (fun o r => qz_as w o j v (fun w => go m (pc + n) (qz_m mn L) r w))))
    | .arraylength => qz_pr st (fun o r => qz_len w.1 o (fun x => go m (pc + n) (qz_m mn L) (.int x :: r) w))
    | .newarray t => qz_p1 st (fun x r => if x < 0 ∨ 60000 < x.toNatClampNeg then none else cond (qz_nt t) (go m (pc + n) (qz_m mn L) (.ref w.2.1 :: r) (qz_new w (qz_na t x.toNatClampNeg) x.toNatClampNeg)) none)
    | .anewarray _ => qz_p1 st (fun x r => if x < 0 ∨ 60000 < x.toNatClampNeg then none else match qz_at qz_cn a with
      | none => none
      | some C => go m (pc + n) (qz_m mn L) (.ref w.2.1 :: r) (qz_new w (.inl (.object C, x.toNatClampNeg, .inr (.inr (.inr (.inr (fun _ => none)))))) x.toNatClampNeg))
    | .new _ => go m (pc + n) (qz_m mn L) (.ref w.2.1 :: st) (qz_new w (.inr (a, qz_nf tl)) b)
    | .invokevirtual _ => match tl with
      | [pad, mx, ci] => qz_iv go a b c pad mx (some ci) st w (fun st w => go m (pc + n) (qz_m mn L) st w)
      | _ => none
    | .invokespecial _ => match tl with
      | [pad, mx, ci] => qz_iv go a b c pad mx (some ci) st w (fun st w => go m (pc + n) (qz_m mn L) st w)
      | [] => qz_pr st (fun _ r => cond (Nat.ble (qz_cat r) 8) (go m (pc + n) (qz_m mn L) r w) none)
      | _ => none
    | .invokestatic _ => match tl with
      | [pad, mx] => qz_iv go a b c pad mx none st w (fun st w => go m (pc + n) (qz_m mn L) st w)
      | [] => match st with
        | .int z :: .int dp :: .ref q :: .int sp :: .ref o :: r => cond (Nat.ble (qz_cat r) 8) (qz_cp w o q sp dp z (fun w => go m (pc + n) (qz_m mn L) r w)) none
        | _ => none
      | _ => none
    | .ireturn => match st with
      | [.int x] => match c with
        | 1 => cond (qz_z x) (some (some (.int x), w)) none
        | 2 => if x = (x.toUInt32 % 65536).toInt32 then some (some (.int x), w) else none
        | 3 => if x = x.toInt8.toInt32 then some (some (.int x), w) else none
        | _ => some (some (.int x), w)
      | _ => none
    | .lreturn => match st with
      | [.long x] => some (some (.long x), w)
      | _ => none
    | .areturn => match st with
      | [.null] => some (some .null, w)
      | [.ref q] => some (some (.ref q), w)
      | _ => none
    | .return_ => match st with
      | [] => some (none, w)
      | _ => none
    | _ => none
def qz_x (P : Nat → qz_B) : Nat → qz_K
  | 0 => fun _ _ _ _ _ => none
  | f + 1 => qz_G P (qz_x P f)
end
section
/-- what a piece of a step asks of the runs that it goes on with is a finite list -/
def qz_F (g : qz_K → Option qz_R) : Prop := ∀ (go : qz_K) (r : qz_R), g go = some r → ∃ l : List ((Nat × Nat × qz_L × List Value × qz_W) × qz_R), (∀ q ∈ l, go q.1.1 q.1.2.1 q.1.2.2.1 q.1.2.2.2.1 q.1.2.2.2.2 = some q.2) ∧ ∀ go' : qz_K, (∀ q ∈ l, go' q.1.1 q.1.2.1 q.1.2.2.1 q.1.2.2.2.1 q.1.2.2.2.2 = some q.2) → g go' = some r
theorem qz_F.no : qz_F (fun _ => none) := fun _ _ h => by cases h
theorem qz_F.ok (o : Option qz_R) : qz_F (fun _ => o) := fun _ _ h => ⟨[], fun _ hq => (by cases hq), fun _ _ => h⟩
theorem qz_F.go (m pc : Nat) (L : qz_L) (st : List Value) (w : qz_W) : qz_F (fun go => go m pc L st w) := fun go r h => ⟨[((m, pc, L, st, w), r)], fun q hq => (by cases List.mem_singleton.mp hq; exact h), fun go' h' => h' _ (List.mem_singleton.mpr rfl)⟩
theorem qz_F.ite {p : Prop} [Decidable p] {f g : qz_K → Option qz_R} (hf : qz_F f) (hg : qz_F g) : qz_F (fun go => if p then f go else g go) := by
  by_cases h : p
  · simp only [if_pos h]; exact hf
  · simp only [if_neg h]; exact hg
theorem qz_F.cd {b : Bool} {f g : qz_K → Option qz_R} (hf : qz_F f) (hg : qz_F g) : qz_F (fun go => cond b (f go) (g go)) := by
  cases b
  · exact hg
  · exact hf
/-- a call, then the rest -/
theorem qz_F.bd {f : qz_K → Option qz_R} {k : qz_K → qz_R → Option qz_R} (hf : qz_F f) (hk : ∀ r, qz_F (fun go => k go r)) : qz_F (fun go => (f go).bind (k go)) := by
  intro go r h
  cases hh : f go with
  | none =>
    have h : (f go).bind (k go) = some r := h
    rw [hh] at h
    cases h
  | some r1 =>
    have h : (f go).bind (k go) = some r := h
    rw [hh] at h
    obtain ⟨l1, a1, b1⟩ := hf go r1 hh
    obtain ⟨l2, a2, b2⟩ := hk r1 go r h
    refine ⟨l1 ++ l2, fun q hq => (List.mem_append.mp hq).elim (a1 q) (a2 q), fun go' h' => ?_⟩
    show (f go').bind (k go') = some r
    rw [b1 go' fun q hq => h' q (List.mem_append_left _ hq)]
    exact b2 go' fun q hq => h' q (List.mem_append_right _ hq)
theorem qz_F.r0 {f : qz_K → Option qz_R} {k : qz_K → qz_W → Option qz_R} (hf : qz_F f) (hk : ∀ w, qz_F (fun go => k go w)) : qz_F (fun go => qz_r0 (f go) (k go)) := by
  have h := qz_F.bd (k := fun go r => match r with | (none, w) => k go w | _ => none) hf (fun r => by
    obtain ⟨v, w⟩ := r
    cases v with
    | none => exact hk w
    | some v => exact qz_F.no)
  have e : (fun go => qz_r0 (f go) (k go)) = (fun go => (f go).bind (fun r => match r with | (none, w) => k go w | _ => none)) := by
    funext go
    rcases f go with _ | ⟨_ | v, w⟩ <;> rfl
  rw [e]; exact h
theorem qz_F.r1 {f : qz_K → Option qz_R} {k : qz_K → Int32 → qz_W → Option qz_R} (hf : qz_F f) (hk : ∀ x w, qz_F (fun go => k go x w)) : qz_F (fun go => qz_r1 (f go) (k go)) := by
  have h := qz_F.bd (k := fun go r => match r with | (some (.int x), w) => k go x w | _ => none) hf (fun r => by
    obtain ⟨v, w⟩ := r
    rcases v with _ | v
    · exact qz_F.no
    · cases v <;> first | exact hk _ w | exact qz_F.no)
  have e : (fun go => qz_r1 (f go) (k go)) = (fun go => (f go).bind (fun r => match r with | (some (.int x), w) => k go x w | _ => none)) := by
    funext go
    rcases f go with _ | ⟨_ | v, w⟩
    · rfl
    · rfl
    · cases v <;> rfl
  rw [e]; exact h
theorem qz_F.r2 {f : qz_K → Option qz_R} {k : qz_K → Int64 → qz_W → Option qz_R} (hf : qz_F f) (hk : ∀ x w, qz_F (fun go => k go x w)) : qz_F (fun go => qz_r2 (f go) (k go)) := by
  have h := qz_F.bd (k := fun go r => match r with | (some (.long x), w) => k go x w | _ => none) hf (fun r => by
    obtain ⟨v, w⟩ := r
    rcases v with _ | v
    · exact qz_F.no
    · cases v <;> first | exact hk _ w | exact qz_F.no)
  have e : (fun go => qz_r2 (f go) (k go)) = (fun go => (f go).bind (fun r => match r with | (some (.long x), w) => k go x w | _ => none)) := by
    funext go
    rcases f go with _ | ⟨_ | v, w⟩
    · rfl
    · rfl
    · cases v <;> rfl
  rw [e]; exact h
theorem qz_F.r3 {f : qz_K → Option qz_R} {k0 : qz_K → qz_W → Option qz_R} {k : qz_K → Nat → qz_W → Option qz_R} (hf : qz_F f) (hk0 : ∀ w, qz_F (fun go => k0 go w)) (hk : ∀ x w, qz_F (fun go => k go x w)) : qz_F (fun go => qz_r3 (f go) (k0 go) (k go)) := by
  have h := qz_F.bd (k := fun go r => match r with | (some .null, w) => k0 go w | (some (.ref x), w) => k go x w | _ => none) hf (fun r => by
    obtain ⟨v, w⟩ := r
    rcases v with _ | v
    · exact qz_F.no
    · cases v <;> first | exact hk _ w | exact hk0 w | exact qz_F.no)
  have e : (fun go => qz_r3 (f go) (k0 go) (k go)) = (fun go => (f go).bind (fun r => match r with | (some .null, w) => k0 go w | (some (.ref x), w) => k go x w | _ => none)) := by
    funext go
    rcases f go with _ | ⟨_ | v, w⟩
    · rfl
    · rfl
    · cases v <;> rfl
  rw [e]; exact h
theorem qz_F.rt {c : Nat} {f : qz_K → Option qz_R} {r : List Value} {k : qz_K → List Value → qz_W → Option qz_R} (hf : qz_F f) (hk : ∀ st w, qz_F (fun go => k go st w)) : qz_F (fun go => qz_rt c (f go) r (k go)) := by
  match c with
  | 0 => exact qz_F.r0 hf fun w => hk _ w
  | 1 => exact qz_F.r1 hf fun x w => hk _ w
  | 2 => exact qz_F.r2 hf fun x w => hk _ w
  | c + 3 => exact qz_F.r3 hf (fun w => hk _ w) (fun x w => hk _ w)
theorem qz_F.sp : ∀ (b : Nat) (st as : List Value) {k : qz_K → List Value → List Value → Option qz_R}, (∀ as r, qz_F (fun go => k go as r)) → qz_F (fun go => qz_sp b st as (k go))
  | 0, st, as, k, hk => hk as st
  | b + 1, [], as, k, hk => qz_F.no
  | b + 1, v :: st, as, k, hk => qz_F.sp b st (v :: as) hk
theorem qz_F.iv {a b c pad mx : Nat} {ck : Option Nat} {st : List Value} {w : qz_W} {k : qz_K → List Value → qz_W → Option qz_R} (hk : ∀ st w, qz_F (fun go => k go st w)) : qz_F (fun go => qz_iv go a b c pad mx ck st w (k go)) := by
  refine qz_F.sp b st [] (k := fun go as r => _) fun as r => qz_F.cd ?_ qz_F.no
  cases ck with
  | none => exact qz_F.rt (qz_F.go _ _ _ _ _) hk
  | some ci =>
    match as with
    | .ref o :: t =>
      show qz_F (fun go => qz_ck w.1 o ci (qz_rt c (go a 0 (qz_sl (.ref o :: t) pad) [] w) r (k go)))
      unfold qz_ck
      split
      · exact qz_F.cd (qz_F.rt (qz_F.go _ _ _ _ _) hk) qz_F.no
      · exact qz_F.no
    | [] => exact qz_F.no
    | .int _ :: _ => exact qz_F.no
    | .long _ :: _ => exact qz_F.no
    | .float _ :: _ => exact qz_F.no
    | .double _ :: _ => exact qz_F.no
    | .null :: _ => exact qz_F.no
    | .retAddr _ :: _ => exact qz_F.no
theorem qz_F.sw {x : Int32} {d : Nat} {k : qz_K → Nat → Option qz_R} (hk : ∀ t, qz_F (fun go => k go t)) : ∀ (ts : List Nat) (j : Nat), qz_F (fun go => qz_sw x (k go) d j ts)
  | [], j => hk d
  | t :: ts, j => qz_F.ite (hk t) (qz_F.sw hk ts (j + 1))
theorem qz_F.bra {c : Jvm.ClassFile.Cond} {x y : Int32} {f g : qz_K → Option qz_R} (hf : qz_F f) (hg : qz_F g) : qz_F (fun go => qz_bra c x y (f go) (g go)) := by
  cases c
  · exact qz_F.ite hf hg
  · exact qz_F.ite hg hf
  · exact qz_F.ite hf hg
  · exact qz_F.ite hf hg
  · exact qz_F.ite hf hg
  · exact qz_F.ite hf hg
set_option maxHeartbeats 4000000 in
theorem qz_F.G (P : Nat → qz_B) (m pc : Nat) (L : qz_L) (st : List Value) (w : qz_W) : qz_F (fun go => qz_G P go m pc L st w) := by
  unfold qz_G
  cases qz_lk (P m) pc with
  | none => exact qz_F.no
  | some e =>
    obtain ⟨⟨i, n⟩, ⟨a, b, c⟩, ⟨k, kl⟩, ⟨mn, mt⟩, tl⟩ := e
    cases i
    case invokevirtual =>
      match tl with
      | [pad, mx, ci] => exact qz_F.iv fun st w => qz_F.go _ _ _ _ _
      | [] => exact qz_F.no
      | [_] => exact qz_F.no
      | [_, _] => exact qz_F.no
      | _ :: _ :: _ :: _ :: _ => exact qz_F.no
    case invokespecial =>
      match tl with
      | [pad, mx, ci] => exact qz_F.iv fun st w => qz_F.go _ _ _ _ _
      | [_] => exact qz_F.no
      | [_, _] => exact qz_F.no
      | [] =>
        dsimp only
        unfold qz_pr
        split
        · exact qz_F.cd (qz_F.go _ _ _ _ _) qz_F.no
        · exact qz_F.no
      | _ :: _ :: _ :: _ :: _ => exact qz_F.no
    case invokestatic =>
      match tl with
      | [pad, mx] => exact qz_F.iv fun st w => qz_F.go _ _ _ _ _
      | [_] => exact qz_F.no
      | [] =>
        dsimp only
        split
        · refine qz_F.cd ?_ qz_F.no
          unfold qz_cp
          repeat' (first | exact qz_F.no | exact qz_F.go _ _ _ _ _ | refine qz_F.ite ?_ ?_ | split)
        · exact qz_F.no
      | _ :: _ :: _ :: _ => exact qz_F.no
    case tableswitch =>
      dsimp only
      unfold qz_p1
      split
      · exact qz_F.sw (fun t => qz_F.go _ _ _ _ _) _ _
      · exact qz_F.no
    all_goals
      dsimp only
      (try simp only [qz_li, qz_ll, qz_la, qz_p1, qz_p2, qz_q1, qz_q2, qz_pa, qz_pr, qz_gi, qz_ga, qz_pf, qz_ia, qz_ba, qz_ja, qz_aa, qz_is, qz_bs, qz_js, qz_as, qz_len])
      repeat' (first | exact qz_F.no | exact qz_F.go _ _ _ _ _ | exact qz_F.ok _ | refine qz_F.bra ?_ ?_ | refine qz_F.ite ?_ ?_ | refine qz_F.cd ?_ ?_ | split)
/-- more steps allowed: the same end -/
theorem qz_x_up (P : Nat → qz_B) : ∀ (f : Nat) (m pc : Nat) (L : qz_L) (st : List Value) (w : qz_W) (r : qz_R), qz_x P f m pc L st w = some r → qz_x P (f + 1) m pc L st w = some r
  | 0, _, _, _, _, _, _, h => by cases h
  | f + 1, m, pc, L, st, w, r, h => by
    obtain ⟨l, h1, h2⟩ := qz_F.G P m pc L st w (qz_x P f) r h
    exact h2 (qz_x P (f + 1)) fun q hq => qz_x_up P f _ _ _ _ _ _ (h1 q hq)
theorem qz_x_le (P : Nat → qz_B) {f g : Nat} (hfg : f ≤ g) {m pc : Nat} {L : qz_L} {st : List Value} {w : qz_W} {r : qz_R} (h : qz_x P f m pc L st w = some r) : qz_x P g m pc L st w = some r := by
  obtain ⟨d, rfl⟩ := Nat.exists_eq_add_of_le hfg
  induction d with
  | zero => exact h
  | succ d ih => exact qz_x_up P _ _ _ _ _ _ _ (ih (Nat.le_add_right _ _))
/-- the run from here, to its end: none where there is no end -/
noncomputable def qz_run (P : Nat → qz_B) : qz_K := fun m pc L st w => @dite _ (∃ r : qz_R, ∃ f : Nat, qz_x P f m pc L st w = some r) (Classical.propDecidable _) (fun h => some h.choose) (fun _ => none)
theorem qz_run_iff (P : Nat → qz_B) {m pc : Nat} {L : qz_L} {st : List Value} {w : qz_W} {r : qz_R} : qz_run P m pc L st w = some r ↔ ∃ f : Nat, qz_x P f m pc L st w = some r := by
  unfold qz_run
  constructor
  · intro h
    split at h
    · next hh =>
      have e := Option.some.inj h
      rw [← e]
      exact hh.choose_spec
    · cases h
  · rintro ⟨f, h⟩
    have hh : ∃ r : qz_R, ∃ f : Nat, qz_x P f m pc L st w = some r := ⟨r, f, h⟩
    rw [dif_pos hh]
    obtain ⟨g, hg⟩ := hh.choose_spec
    have h1 := qz_x_le P (Nat.le_max_left f g) h
    have h2 := qz_x_le P (Nat.le_max_right f g) hg
    rw [h1] at h2
    exact congrArg some (Option.some.inj h2).symm
theorem qz_run_step (P : Nat → qz_B) (m pc : Nat) (L : qz_L) (st : List Value) (w : qz_W) : qz_run P m pc L st w = qz_G P (qz_run P) m pc L st w := by
  apply Option.ext
  intro r
  constructor
  · intro h
    obtain ⟨f, hf⟩ := (qz_run_iff P).mp h
    cases f with
    | zero => cases hf
    | succ f =>
      obtain ⟨l, h1, h2⟩ := qz_F.G P m pc L st w (qz_x P f) r hf
      exact h2 (qz_run P) fun q hq => (qz_run_iff P).mpr ⟨f, h1 q hq⟩
  · intro h
    obtain ⟨l, h1, h2⟩ := qz_F.G P m pc L st w (qz_run P) r h
    have key : ∀ l : List ((Nat × Nat × qz_L × List Value × qz_W) × qz_R), (∀ q ∈ l, qz_run P q.1.1 q.1.2.1 q.1.2.2.1 q.1.2.2.2.1 q.1.2.2.2.2 = some q.2) → ∃ f : Nat, ∀ q ∈ l, qz_x P f q.1.1 q.1.2.1 q.1.2.2.1 q.1.2.2.2.1 q.1.2.2.2.2 = some q.2 := by
      intro l
      induction l with
      | nil => exact fun _ => ⟨0, fun q hq => by cases hq⟩
      | cons q l ih =>
        intro h
        obtain ⟨f, hf⟩ := ih fun q hq => h q (List.mem_cons_of_mem _ hq)
        obtain ⟨g, hg⟩ := (qz_run_iff P).mp (h q List.mem_cons_self)
        refine ⟨max f g, fun q' hq' => ?_⟩
        rcases List.mem_cons.mp hq' with rfl | hq'
        · exact qz_x_le P (Nat.le_max_right f g) hg
        · exact qz_x_le P (Nat.le_max_left f g) (hf q' hq')
    obtain ⟨f, hf⟩ := key l h1
    exact (qz_run_iff P).mpr ⟨f + 1, h2 (qz_x P f) hf⟩
def qz_mem : List Nat → Nat → Bool
  | [], _ => false
  | a :: l, n => cond (Nat.beq a n) true (qz_mem l n)
/-- at most k steps of the method m0, stopping at the places sp -/
noncomputable def qz_u (P : Nat → qz_B) (m0 : Nat) (sp : List Nat) : Nat → qz_K
  | 0 => qz_run P
  | k + 1 => fun m pc L st w => cond (Nat.beq m m0 && not (qz_mem sp pc)) (qz_G P (qz_u P m0 sp k) m pc L st w) (qz_run P m pc L st w)
theorem qz_u_run (P : Nat → qz_B) (m0 : Nat) (sp : List Nat) : ∀ k : Nat, qz_u P m0 sp k = qz_run P
  | 0 => rfl
  | k + 1 => by
    funext m pc L st w
    show cond _ (qz_G P (qz_u P m0 sp k) m pc L st w) (qz_run P m pc L st w) = _
    rw [qz_u_run P m0 sp k, ← qz_run_step]
    cases (Nat.beq m m0 && not (qz_mem sp pc)) <;> rfl
/-- a block: from a place on, up to the places sp -/
theorem qz_blk (P : Nat → qz_B) (sp : List Nat) (k m pc : Nat) (L : qz_L) (st : List Value) (w : qz_W) : qz_run P m pc L st w = qz_G P (qz_u P m sp k) m pc L st w := by
  rw [qz_u_run]
  exact qz_run_step P m pc L st w
end
section
def qa (i : Instr) (n : Nat) : qz_I := ((i, n), (0, 0, 0), (0, 0), ([], []), [])
def qk (i : Instr) (n : Nat) (k : Int32) : qz_I := ((i, n), (0, 0, 0), (k, 0), ([], []), [])
def ql (i : Instr) (n : Nat) (k : Int64) : qz_I := ((i, n), (0, 0, 0), (0, k), ([], []), [])
def qj (i : Instr) (n t : Nat) (mt : List Bool) : qz_I := ((i, n), (t, 0, 0), (0, 0), ([], mt), [])
def qs (i : Instr) (n d lo : Nat) (mt : List Bool) (ts : List Nat) : qz_I := ((i, n), (d, lo, 0), (0, 0), ([], mt), ts)
def qf (i : Instr) (n a b c : Nat) : qz_I := ((i, n), (a, b, c), (0, 0), ([], []), [])
def qc (i : Instr) (n a b c : Nat) (tl : List Nat) : qz_I := ((i, n), (a, b, c), (0, 0), ([], []), tl)
def qm (mn : List Bool) (e : qz_I) : qz_I := (e.1, e.2.1, e.2.2.1, (mn, e.2.2.2.1.2), e.2.2.2.2)
-- 0 TinStencils$Bridges.<init>()V
def tb_0 : qz_B := [(14, [(0, qa (.aload_n 0) 1), (1, qa (.invokespecial 3) 3), (4, qa (.aload_n 0) 1), (5, qk (.iconst 0) 1 (nI 0)), (6, qf (.putfield 9) 3 0 0 0), (9, qa (.aload_n 0) 1), (10, qk (.iconst 0) 1 (nI 0)), (11, qf (.putfield 15) 3 0 1 0)]),
  (28, [(14, qa (.aload_n 0) 1), (15, qk (.iconst 0) 1 (nI 0)), (16, qf (.putfield 18) 3 0 2 0), (19, qa (.aload_n 0) 1), (20, qk (.bipush 12) 2 (nI 12)), (22, qa (.newarray .int) 2), (24, qf (.putfield 21) 3 0 3 1), (27, qa (.aload_n 0) 1)]),
  (45, [(28, qk (.bipush 12) 2 (nI 12)), (30, qa (.newarray .int) 2), (32, qf (.putfield 25) 3 0 4 1), (35, qa (.aload_n 0) 1), (36, qk (.sipush 240) 3 (nI 240)), (39, qa (.newarray .int) 2), (41, qf (.putfield 28) 3 0 5 1), (44, qa .return_ 1)])]
-- 1 TinStencils$Sheet.<init>()V
def tb_1 : qz_B := [(14, [(0, qa (.aload_n 0) 1), (1, qa (.invokespecial 3) 3), (4, qa (.aload_n 0) 1), (5, qk (.iconst 0) 1 (nI 0)), (6, qf (.putfield 9) 3 8 0 2), (9, qa (.aload_n 0) 1), (10, qk (.iconst 0) 1 (nI 0)), (11, qf (.putfield 15) 3 8 1 0)]),
  (26, [(14, qa (.aload_n 0) 1), (15, qk (.iconst 0) 1 (nI 0)), (16, qf (.putfield 19) 3 8 2 0), (19, qa (.aload_n 0) 1), (20, qk (.iconst 0) 1 (nI 0)), (21, qf (.putfield 22) 3 8 3 0), (24, qa (.aload_n 0) 1), (25, qk (.iconst 0) 1 (nI 0))]),
  (40, [(26, qf (.putfield 25) 3 8 4 0), (29, qa (.aload_n 0) 1), (30, qk (.iconst 0) 1 (nI 0)), (31, qf (.putfield 28) 3 8 5 0), (34, qa (.aload_n 0) 1), (35, qk (.iconst 0) 1 (nI 0)), (36, qf (.putfield 31) 3 8 6 0), (39, qa (.aload_n 0) 1)]),
  (57, [(40, qk (.bipush 20) 2 (nI 20)), (42, qa (.newarray .int) 2), (44, qf (.putfield 34) 3 8 7 1), (47, qa (.aload_n 0) 1), (48, qk (.sipush 400) 3 (nI 400)), (51, qa (.newarray .int) 2), (53, qf (.putfield 38) 3 8 8 1), (56, qa (.aload_n 0) 1)]),
  (73, [(57, qc (.new 41) 3 0 6 0 [0, 0, 0, 1, 1, 1]), (60, qa .dup 1), (61, qc (.invokespecial 43) 3 0 1 0 [0, 1, 0]), (64, qf (.putfield 44) 3 8 9 1), (67, qa (.aload_n 0) 1), (68, qk (.iconst 0) 1 (nI 0)), (69, qf (.putfield 48) 3 8 10 0), (72, qa (.aload_n 0) 1)]),
  (89, [(73, qk (.bipush 8) 2 (nI 8)), (75, qa (.newarray .int) 2), (77, qf (.putfield 51) 3 8 11 1), (80, qa (.aload_n 0) 1), (81, qk (.bipush 8) 2 (nI 8)), (83, qa (.newarray .int) 2), (85, qf (.putfield 54) 3 8 12 1), (88, qa (.aload_n 0) 1)]),
  (97, [(89, qk (.bipush 64) 2 (nI 64)), (91, qa (.newarray .int) 2), (93, qf (.putfield 57) 3 8 13 1), (96, qa .return_ 1)])]
-- 2 TinStencils$Pile.<init>()V
def tb_2 : qz_B := [(16, [(0, qa (.aload_n 0) 1), (1, qa (.invokespecial 3) 3), (4, qa (.aload_n 0) 1), (5, qk (.bipush 6) 2 (nI 6)), (7, qf (.anewarray 9) 3 8 0 0), (10, qf (.putfield 11) 3 6 0 1), (13, qa (.aload_n 0) 1), (14, qk (.bipush 6) 2 (nI 6))]),
  (31, [(16, qa (.newarray .int) 2), (18, qf (.putfield 17) 3 6 1 1), (21, qa (.aload_n 0) 1), (22, qk (.bipush 64) 2 (nI 64)), (24, qa (.newarray .int) 2), (26, qf (.putfield 21) 3 6 2 1), (29, qk (.iconst 0) 1 (nI 0)), (30, qa (.istore_n 1) 1)]),
  (46, [(31, qa (.iload_n 1) 1), (32, qk (.bipush 6) 2 (nI 6)), (34, qj (.if_icmp .ge 29) 3 63 [false, false]), (37, qa (.aload_n 0) 1), (38, qf (.getfield 11) 3 6 0 1), (41, qa (.iload_n 1) 1), (42, qc (.new 9) 3 8 14 0 [0, 0, 0, 0, 0, 0, 0, 1, 1, 1, 0, 1, 1, 1]), (45, qa .dup 1)]),
  (60, [(46, qc (.invokespecial 24) 3 1 1 0 [0, 1, 8]), (49, qa .aastore 1), (50, qa (.aload_n 0) 1), (51, qf (.getfield 17) 3 6 1 1), (54, qa (.iload_n 1) 1), (55, qa (.iload_n 1) 1), (56, qa .iastore 1), (57, qk (.iinc 1 1) 3 (nI 1))]),
  (64, [(60, qj (.goto (-29)) 3 31 []), (63, qa .return_ 1)])]
-- 3 TinStencils$Tokens.<init>()V
def tb_3 : qz_B := [(17, [(0, qa (.aload_n 0) 1), (1, qa (.invokespecial 3) 3), (4, qa (.aload_n 0) 1), (5, qk (.sipush 1200) 3 (nI 1200)), (8, qa (.newarray .int) 2), (10, qf (.putfield 9) 3 10 0 1), (13, qa (.aload_n 0) 1), (14, qk (.sipush 1201) 3 (nI 1201))]),
  (35, [(17, qa (.newarray .int) 2), (19, qf (.putfield 15) 3 10 1 1), (22, qa (.aload_n 0) 1), (23, qk (.sipush 1201) 3 (nI 1201)), (26, qa (.newarray .int) 2), (28, qf (.putfield 18) 3 10 2 1), (31, qa (.aload_n 0) 1), (32, qk (.sipush 1201) 3 (nI 1201))]),
  (51, [(35, qa (.newarray .int) 2), (37, qf (.putfield 21) 3 10 3 1), (40, qa (.aload_n 0) 1), (41, qk (.sipush 1201) 3 (nI 1201)), (44, qa (.newarray .int) 2), (46, qf (.putfield 24) 3 10 4 1), (49, qa (.aload_n 0) 1), (50, qk (.iconst 0) 1 (nI 0))]),
  (55, [(51, qf (.putfield 27) 3 10 5 0), (54, qa .return_ 1)])]
-- 4 TinStencils$Teller.<init>()V
def tb_4 : qz_B := [(16, [(0, qa (.aload_n 0) 1), (1, qa (.invokespecial 3) 3), (4, qa (.aload_n 0) 1), (5, qc (.new 9) 3 10 6 0 [1, 1, 1, 1, 1, 0]), (8, qa .dup 1), (9, qc (.invokespecial 11) 3 3 1 0 [0, 1, 10]), (12, qf (.putfield 12) 3 9 0 1), (15, qa (.aload_n 0) 1)]),
  (30, [(16, qk (.bipush 8) 2 (nI 8)), (18, qa (.newarray .long) 2), (20, qf (.putfield 18) 3 9 1 1), (23, qa (.aload_n 0) 1), (24, qk (.iconst 0) 1 (nI 0)), (25, qf (.putfield 22) 3 9 2 0), (28, qa (.aload_n 0) 1), (29, qk (.iconst 0) 1 (nI 0))]),
  (44, [(30, qf (.putfield 26) 3 9 3 0), (33, qa (.aload_n 0) 1), (34, qk (.iconst 0) 1 (nI 0)), (35, qf (.putfield 29) 3 9 4 0), (38, qa (.aload_n 0) 1), (39, qk (.iconst 0) 1 (nI 0)), (40, qf (.putfield 32) 3 9 5 0), (43, qa (.aload_n 0) 1)]),
  (54, [(44, qk (.iconst 0) 1 (nI 0)), (45, qf (.putfield 35) 3 9 6 0), (48, qa (.aload_n 0) 1), (49, qk (.iconst 0) 1 (nI 0)), (50, qf (.putfield 38) 3 9 7 0), (53, qa .return_ 1)])]
-- 5 TinStencils$Hanging.<init>()V
def tb_5 : qz_B := [(15, [(0, qa (.aload_n 0) 1), (1, qa (.invokespecial 3) 3), (4, qa (.aload_n 0) 1), (5, qk (.bipush 20) 2 (nI 20)), (7, qa (.newarray .int) 2), (9, qf (.putfield 9) 3 3 0 1), (12, qa (.aload_n 0) 1), (13, qk (.bipush 20) 2 (nI 20))]),
  (32, [(15, qa (.newarray .int) 2), (17, qf (.putfield 15) 3 3 1 1), (20, qa (.aload_n 0) 1), (21, qk (.bipush 20) 2 (nI 20)), (23, qa (.newarray .int) 2), (25, qf (.putfield 18) 3 3 2 1), (28, qa (.aload_n 0) 1), (29, qk (.sipush 400) 3 (nI 400))]),
  (48, [(32, qa (.newarray .int) 2), (34, qf (.putfield 21) 3 3 3 1), (37, qa (.aload_n 0) 1), (38, qk (.iconst 0) 1 (nI 0)), (39, qf (.putfield 24) 3 3 4 0), (42, qa (.aload_n 0) 1), (43, qk (.sipush 400) 3 (nI 400)), (46, qa (.newarray .int) 2)]),
  (66, [(48, qf (.putfield 28) 3 3 5 1), (51, qa (.aload_n 0) 1), (52, qk (.sipush 400) 3 (nI 400)), (55, qa (.newarray .int) 2), (57, qf (.putfield 31) 3 3 6 1), (60, qa (.aload_n 0) 1), (61, qk (.sipush 400) 3 (nI 400)), (64, qa (.newarray .int) 2)]),
  (84, [(66, qf (.putfield 34) 3 3 7 1), (69, qa (.aload_n 0) 1), (70, qk (.sipush 400) 3 (nI 400)), (73, qa (.newarray .int) 2), (75, qf (.putfield 37) 3 3 8 1), (78, qa (.aload_n 0) 1), (79, qk (.sipush 400) 3 (nI 400)), (82, qa (.newarray .int) 2)]),
  (88, [(84, qf (.putfield 40) 3 3 9 1), (87, qa .return_ 1)])]
-- 6 TinStencils$Parts.<init>()V
def tb_6 : qz_B := [(15, [(0, qa (.aload_n 0) 1), (1, qa (.invokespecial 3) 3), (4, qa (.aload_n 0) 1), (5, qk (.iconst 0) 1 (nI 0)), (6, qf (.putfield 9) 3 5 0 0), (9, qa (.aload_n 0) 1), (10, qk (.sipush 400) 3 (nI 400)), (13, qa (.newarray .int) 2)]),
  (33, [(15, qf (.putfield 15) 3 5 1 1), (18, qa (.aload_n 0) 1), (19, qk (.sipush 400) 3 (nI 400)), (22, qa (.newarray .int) 2), (24, qf (.putfield 19) 3 5 2 1), (27, qa (.aload_n 0) 1), (28, qk (.sipush 400) 3 (nI 400)), (31, qa (.newarray .int) 2)]),
  (50, [(33, qf (.putfield 22) 3 5 3 1), (36, qa (.aload_n 0) 1), (37, qk (.sipush 400) 3 (nI 400)), (40, qa (.newarray .int) 2), (42, qf (.putfield 25) 3 5 4 1), (45, qa (.aload_n 0) 1), (46, qk (.bipush 20) 2 (nI 20)), (48, qa (.newarray .int) 2)]),
  (62, [(50, qf (.putfield 28) 3 5 5 1), (53, qa (.aload_n 0) 1), (54, qk (.bipush 20) 2 (nI 20)), (56, qa (.newarray .int) 2), (58, qf (.putfield 31) 3 5 6 1), (61, qa .return_ 1)])]
-- 7 TinStencils$Joining.<init>()V
def tb_7 : qz_B := [(16, [(0, qa (.aload_n 0) 1), (1, qa (.invokespecial 3) 3), (4, qa (.aload_n 0) 1), (5, qk (.ldc 11) 2 (nI 51328)), (7, qa (.newarray .int) 2), (9, qf (.putfield 12) 3 4 0 1), (12, qa (.aload_n 0) 1), (13, qk (.sipush 401) 3 (nI 401))]),
  (31, [(16, qa (.newarray .int) 2), (18, qf (.putfield 16) 3 4 1 1), (21, qa (.aload_n 0) 1), (22, qk (.bipush 20) 2 (nI 20)), (24, qa (.newarray .int) 2), (26, qf (.putfield 19) 3 4 2 1), (29, qa (.aload_n 0) 1), (30, qk (.iconst 0) 1 (nI 0))]),
  (35, [(31, qf (.putfield 22) 3 4 3 0), (34, qa .return_ 1)])]
-- 8 TinStencils$Choosing.<init>()V
def tb_8 : qz_B := [(17, [(0, qa (.aload_n 0) 1), (1, qa (.invokespecial 3) 3), (4, qa (.aload_n 0) 1), (5, qk (.sipush 4096) 3 (nI 4096)), (8, qa (.newarray .int) 2), (10, qf (.putfield 9) 3 1 0 1), (13, qa (.aload_n 0) 1), (14, qk (.sipush 4096) 3 (nI 4096))]),
  (28, [(17, qa (.newarray .int) 2), (19, qf (.putfield 15) 3 1 1 1), (22, qa (.aload_n 0) 1), (23, qk (.iconst 0) 1 (nI 0)), (24, qf (.putfield 18) 3 1 2 0), (27, qa .return_ 1)])]
-- 9 TinStencils$Reading.<init>()V
def tb_9 : qz_B := [(15, [(0, qa (.aload_n 0) 1), (1, qa (.invokespecial 3) 3), (4, qa (.aload_n 0) 1), (5, qk (.bipush 8) 2 (nI 8)), (7, qa (.newarray .int) 2), (9, qf (.putfield 11) 3 7 0 1), (12, qa (.aload_n 0) 1), (13, qk (.bipush 21) 2 (nI 21))]),
  (31, [(15, qa (.newarray .int) 2), (17, qf (.putfield 15) 3 7 1 1), (20, qa (.aload_n 0) 1), (21, qk (.bipush 21) 2 (nI 21)), (23, qa (.newarray .int) 2), (25, qf (.putfield 18) 3 7 2 1), (28, qa (.aload_n 0) 1), (29, qk (.bipush 21) 2 (nI 21))]),
  (47, [(31, qa (.newarray .long) 2), (33, qf (.putfield 21) 3 7 3 1), (36, qa (.aload_n 0) 1), (37, qk (.bipush 20) 2 (nI 20)), (39, qa (.newarray .int) 2), (41, qf (.putfield 25) 3 7 4 1), (44, qa (.aload_n 0) 1), (45, qk (.bipush 20) 2 (nI 20))]),
  (58, [(47, qa (.newarray .int) 2), (49, qf (.putfield 28) 3 7 5 1), (52, qa (.aload_n 0) 1), (53, qk (.iconst 0) 1 (nI 0)), (54, qf (.putfield 31) 3 7 6 0), (57, qa .return_ 1)])]
-- 10 TinStencils$Cutting.<init>()V
def tb_10 : qz_B := [(16, [(0, qa (.aload_n 0) 1), (1, qa (.invokespecial 3) 3), (4, qa (.aload_n 0) 1), (5, qk (.bipush 8) 2 (nI 8)), (7, qa (.newarray .int) 2), (9, qf (.putfield 9) 3 2 0 1), (12, qa (.aload_n 0) 1), (13, qk (.sipush 160) 3 (nI 160))]),
  (34, [(16, qa (.newarray .int) 2), (18, qf (.putfield 15) 3 2 1 1), (21, qa (.aload_n 0) 1), (22, qk (.sipush 256) 3 (nI 256)), (25, qa (.newarray .int) 2), (27, qf (.putfield 18) 3 2 2 1), (30, qa (.aload_n 0) 1), (31, qk (.sipush 256) 3 (nI 256))]),
  (50, [(34, qa (.newarray .int) 2), (36, qf (.putfield 21) 3 2 3 1), (39, qa (.aload_n 0) 1), (40, qk (.bipush 20) 2 (nI 20)), (42, qa (.newarray .int) 2), (44, qf (.putfield 24) 3 2 4 1), (47, qa (.aload_n 0) 1), (48, qk (.bipush 20) 2 (nI 20))]),
  (56, [(50, qa (.newarray .int) 2), (52, qf (.putfield 27) 3 2 5 1), (55, qa .return_ 1)])]
-- 11 TinStencils.<init>()V
def tb_11 : qz_B := [(15, [(0, qa (.aload_n 0) 1), (1, qa (.invokespecial 1) 3), (4, qa (.aload_n 0) 1), (5, qk (.sipush 1200) 3 (nI 1200)), (8, qa (.newarray .int) 2), (10, qf (.putfield 9) 3 11 0 1), (13, qa (.aload_n 0) 1), (14, qk (.iconst 0) 1 (nI 0))]),
  (30, [(15, qf (.putfield 13) 3 11 1 0), (18, qa (.aload_n 0) 1), (19, qk (.iconst (-1)) 1 (-1)), (20, qf (.putfield 17) 3 11 2 0), (23, qa (.aload_n 0) 1), (24, qk (.iconst 3) 1 (nI 3)), (25, qa (.newarray .int) 2), (27, qf (.putfield 20) 3 11 3 1)]),
  (46, [(30, qa (.aload_n 0) 1), (31, qc (.new 23) 3 6 3 0 [1, 1, 1]), (34, qa .dup 1), (35, qc (.invokespecial 25) 3 2 1 0 [1, 2, 6]), (38, qf (.putfield 26) 3 11 4 1), (41, qa (.aload_n 0) 1), (42, qk (.iconst 3) 1 (nI 3)), (43, qf (.anewarray 23) 3 6 0 0)]),
  (62, [(46, qf (.putfield 30) 3 11 5 1), (49, qa (.aload_n 0) 1), (50, qk (.iconst 0) 1 (nI 0)), (51, qf (.putfield 34) 3 11 6 0), (54, qa (.aload_n 0) 1), (55, qc (.new 37) 3 8 14 0 [0, 0, 0, 0, 0, 0, 0, 1, 1, 1, 0, 1, 1, 1]), (58, qa .dup 1), (59, qc (.invokespecial 39) 3 1 1 0 [0, 1, 8])]),
  (80, [(62, qf (.putfield 40) 3 11 7 1), (65, qa (.aload_n 0) 1), (66, qc (.new 44) 3 9 8 0 [1, 1, 0, 0, 0, 0, 0, 0]), (69, qa .dup 1), (70, qc (.invokespecial 46) 3 4 1 0 [0, 1, 9]), (73, qf (.putfield 47) 3 11 8 1), (76, qa (.aload_n 0) 1), (77, qc (.new 51) 3 3 10 0 [1, 1, 1, 1, 0, 1, 1, 1, 1, 1])]),
  (98, [(80, qa .dup 1), (81, qc (.invokespecial 53) 3 5 1 0 [0, 1, 3]), (84, qf (.putfield 54) 3 11 9 1), (87, qa (.aload_n 0) 1), (88, qc (.new 58) 3 5 7 0 [0, 1, 1, 1, 1, 1, 1]), (91, qa .dup 1), (92, qc (.invokespecial 60) 3 6 1 0 [0, 1, 5]), (95, qf (.putfield 61) 3 11 10 1)]),
  (114, [(98, qa (.aload_n 0) 1), (99, qc (.new 65) 3 4 4 0 [1, 1, 1, 0]), (102, qa .dup 1), (103, qc (.invokespecial 67) 3 7 1 0 [0, 1, 4]), (106, qf (.putfield 68) 3 11 11 1), (109, qa (.aload_n 0) 1), (110, qc (.new 72) 3 1 3 0 [1, 1, 0]), (113, qa .dup 1)]),
  (132, [(114, qc (.invokespecial 74) 3 8 1 0 [0, 1, 1]), (117, qf (.putfield 75) 3 11 12 1), (120, qa (.aload_n 0) 1), (121, qc (.new 79) 3 7 7 0 [1, 1, 1, 1, 1, 1, 0]), (124, qa .dup 1), (125, qc (.invokespecial 81) 3 9 1 0 [0, 1, 7]), (128, qf (.putfield 82) 3 11 13 1), (131, qa (.aload_n 0) 1)]),
  (150, [(132, qc (.new 86) 3 2 6 0 [1, 1, 1, 1, 1, 1]), (135, qa .dup 1), (136, qc (.invokespecial 88) 3 10 1 0 [0, 1, 2]), (139, qf (.putfield 89) 3 11 14 1), (142, qa (.aload_n 0) 1), (143, qk (.bipush 20) 2 (nI 20)), (145, qa (.newarray .int) 2), (147, qf (.putfield 93) 3 11 15 1)]),
  (162, [(150, qa (.aload_n 0) 1), (151, qk (.bipush 20) 2 (nI 20)), (153, qa (.newarray .int) 2), (155, qf (.putfield 96) 3 11 16 1), (158, qk (.iconst 0) 1 (nI 0)), (159, qa (.istore_n 1) 1), (160, qa (.iload_n 1) 1), (161, qk (.iconst 3) 1 (nI 3))]),
  (178, [(162, qj (.if_icmp .ge 22) 3 184 [false, false]), (165, qa (.aload_n 0) 1), (166, qf (.getfield 30) 3 11 5 1), (169, qa (.iload_n 1) 1), (170, qc (.new 23) 3 6 3 0 [1, 1, 1]), (173, qa .dup 1), (174, qc (.invokespecial 25) 3 2 1 0 [1, 2, 6]), (177, qa .aastore 1)]),
  (185, [(178, qk (.iinc 1 1) 3 (nI 1)), (181, qj (.goto (-21)) 3 160 []), (184, qa .return_ 1)])]
-- 12 TinStencilsModel.<init>()V
def tb_12 : qz_B := [(15, [(0, qa (.aload_n 0) 1), (1, qa (.invokespecial 1) 3), (4, qa (.aload_n 0) 1), (5, qk (.iconst 3) 1 (nI 3)), (6, qa (.newarray .int) 2), (8, qf (.putfield 7) 3 12 0 1), (11, qa (.aload_n 0) 1), (12, qk (.sipush 12345) 3 (nI 12345))]),
  (31, [(15, qf (.putfield 13) 3 12 1 0), (18, qa (.aload_n 0) 1), (19, qk (.bipush 112) 2 (nI 112)), (21, qa (.newarray .int) 2), (23, qf (.putfield 17) 3 12 2 1), (26, qa (.aload_n 0) 1), (27, qk (.bipush 6) 2 (nI 6)), (29, qa (.newarray .int) 2)]),
  (49, [(31, qf (.putfield 20) 3 12 3 1), (34, qa (.aload_n 0) 1), (35, qk (.sipush 2800) 3 (nI 2800)), (38, qa (.newarray .int) 2), (40, qf (.putfield 23) 3 12 4 1), (43, qa (.aload_n 0) 1), (44, qk (.sipush 2800) 3 (nI 2800)), (47, qa (.newarray .int) 2)]),
  (66, [(49, qf (.putfield 26) 3 12 5 1), (52, qa (.aload_n 0) 1), (53, qk (.sipush 2800) 3 (nI 2800)), (56, qa (.newarray .int) 2), (58, qf (.putfield 29) 3 12 6 1), (61, qa (.aload_n 0) 1), (62, qk (.bipush 56) 2 (nI 56)), (64, qa (.newarray .int) 2)]),
  (83, [(66, qf (.putfield 32) 3 12 7 1), (69, qa (.aload_n 0) 1), (70, qk (.bipush 56) 2 (nI 56)), (72, qa (.newarray .int) 2), (74, qf (.putfield 35) 3 12 8 1), (77, qa (.aload_n 0) 1), (78, qk (.sipush 448) 3 (nI 448)), (81, qa (.newarray .int) 2)]),
  (99, [(83, qf (.putfield 38) 3 12 9 1), (86, qa (.aload_n 0) 1), (87, qk (.bipush 84) 2 (nI 84)), (89, qa (.newarray .int) 2), (91, qf (.putfield 41) 3 12 10 1), (94, qa (.aload_n 0) 1), (95, qk (.bipush 84) 2 (nI 84)), (97, qa (.newarray .int) 2)]),
  (115, [(99, qf (.putfield 44) 3 12 11 1), (102, qa (.aload_n 0) 1), (103, qk (.bipush 84) 2 (nI 84)), (105, qa (.newarray .int) 2), (107, qf (.putfield 47) 3 12 12 1), (110, qa (.aload_n 0) 1), (111, qk (.bipush 56) 2 (nI 56)), (113, qa (.newarray .long) 2)]),
  (132, [(115, qf (.putfield 50) 3 12 13 1), (118, qa (.aload_n 0) 1), (119, qk (.iconst (-1)) 1 (-1)), (120, qf (.putfield 54) 3 12 17 0), (123, qa (.aload_n 0) 1), (124, qk (.sipush 1200) 3 (nI 1200)), (127, qa (.newarray .byte) 2), (129, qf (.putfield 57) 3 12 18 1)]),
  (150, [(132, qa (.aload_n 0) 1), (133, qk (.sipush 1200) 3 (nI 1200)), (136, qa (.newarray .byte) 2), (138, qf (.putfield 61) 3 12 19 1), (141, qa (.aload_n 0) 1), (142, qk (.sipush 400) 3 (nI 400)), (145, qa (.newarray .int) 2), (147, qf (.putfield 64) 3 12 29 1)]),
  (168, [(150, qa (.aload_n 0) 1), (151, qk (.sipush 400) 3 (nI 400)), (154, qa (.newarray .int) 2), (156, qf (.putfield 67) 3 12 30 1), (159, qa (.aload_n 0) 1), (160, qk (.sipush 400) 3 (nI 400)), (163, qa (.newarray .int) 2), (165, qf (.putfield 70) 3 12 31 1)]),
  (186, [(168, qa (.aload_n 0) 1), (169, qk (.sipush 400) 3 (nI 400)), (172, qa (.newarray .int) 2), (174, qf (.putfield 73) 3 12 32 1), (177, qa (.aload_n 0) 1), (178, qk (.sipush 400) 3 (nI 400)), (181, qa (.newarray .int) 2), (183, qf (.putfield 76) 3 12 33 1)]),
  (204, [(186, qa (.aload_n 0) 1), (187, qk (.sipush 400) 3 (nI 400)), (190, qa (.newarray .int) 2), (192, qf (.putfield 79) 3 12 34 1), (195, qa (.aload_n 0) 1), (196, qk (.sipush 400) 3 (nI 400)), (199, qa (.newarray .int) 2), (201, qf (.putfield 82) 3 12 35 1)]),
  (219, [(204, qa (.aload_n 0) 1), (205, qk (.sipush 400) 3 (nI 400)), (208, qa (.newarray .int) 2), (210, qf (.putfield 85) 3 12 37 1), (213, qa (.aload_n 0) 1), (214, qk (.iconst (-1)) 1 (-1)), (215, qf (.putfield 88) 3 12 38 0), (218, qa (.aload_n 0) 1)]),
  (236, [(219, qk (.sipush 4096) 3 (nI 4096)), (222, qa (.newarray .int) 2), (224, qf (.putfield 91) 3 12 42 1), (227, qa (.aload_n 0) 1), (228, qk (.ldc 94) 2 (nI 51200)), (230, qa (.newarray .int) 2), (232, qf (.putfield 95) 3 12 43 1), (235, qa (.aload_n 0) 1)]),
  (254, [(236, qk (.sipush 128) 3 (nI 128)), (239, qa (.newarray .int) 2), (241, qf (.putfield 98) 3 12 44 1), (244, qa (.aload_n 0) 1), (245, qk (.sipush 400) 3 (nI 400)), (248, qa (.newarray .int) 2), (250, qf (.putfield 101) 3 12 45 1), (253, qa (.aload_n 0) 1)]),
  (271, [(254, qk (.sipush 400) 3 (nI 400)), (257, qa (.newarray .int) 2), (259, qf (.putfield 104) 3 12 46 1), (262, qa (.aload_n 0) 1), (263, qk (.bipush 6) 2 (nI 6)), (265, qa (.newarray .int) 2), (267, qf (.putfield 107) 3 12 47 1), (270, qa (.aload_n 0) 1)]),
  (288, [(271, qk (.bipush 6) 2 (nI 6)), (273, qa (.newarray .int) 2), (275, qf (.putfield 110) 3 12 48 1), (278, qa (.aload_n 0) 1), (279, qk (.sipush 400) 3 (nI 400)), (282, qa (.newarray .int) 2), (284, qf (.putfield 113) 3 12 49 1), (287, qa (.aload_n 0) 1)]),
  (305, [(288, qk (.sipush 400) 3 (nI 400)), (291, qa (.newarray .int) 2), (293, qf (.putfield 116) 3 12 50 1), (296, qa (.aload_n 0) 1), (297, qk (.bipush 6) 2 (nI 6)), (299, qa (.newarray .int) 2), (301, qf (.putfield 119) 3 12 51 1), (304, qa (.aload_n 0) 1)]),
  (321, [(305, qk (.bipush 21) 2 (nI 21)), (307, qa (.newarray .int) 2), (309, qf (.putfield 122) 3 12 53 1), (312, qa (.aload_n 0) 1), (313, qk (.bipush 21) 2 (nI 21)), (315, qa (.newarray .int) 2), (317, qf (.putfield 125) 3 12 54 1), (320, qa (.aload_n 0) 1)]),
  (337, [(321, qk (.bipush 21) 2 (nI 21)), (323, qa (.newarray .int) 2), (325, qf (.putfield 128) 3 12 55 1), (328, qa (.aload_n 0) 1), (329, qk (.bipush 21) 2 (nI 21)), (331, qa (.newarray .long) 2), (333, qf (.putfield 131) 3 12 56 1), (336, qa (.aload_n 0) 1)]),
  (355, [(337, qk (.sipush 256) 3 (nI 256)), (340, qa (.newarray .int) 2), (342, qf (.putfield 134) 3 12 57 1), (345, qa (.aload_n 0) 1), (346, qk (.sipush 256) 3 (nI 256)), (349, qa (.newarray .int) 2), (351, qf (.putfield 137) 3 12 58 1), (354, qa (.aload_n 0) 1)]),
  (372, [(355, qk (.sipush 400) 3 (nI 400)), (358, qa (.newarray .int) 2), (360, qf (.putfield 140) 3 12 59 1), (363, qa (.aload_n 0) 1), (364, qk (.bipush 8) 2 (nI 8)), (366, qa (.newarray .int) 2), (368, qf (.putfield 143) 3 12 60 1), (371, qa (.aload_n 0) 1)]),
  (388, [(372, qk (.sipush 24300) 3 (nI 24300)), (375, qa (.newarray .int) 2), (377, qf (.putfield 146) 3 12 63 1), (380, qa (.aload_n 0) 1), (381, qk (.iconst 3) 1 (nI 3)), (382, qa (.newarray .int) 2), (384, qf (.putfield 149) 3 12 64 1), (387, qa .return_ 1)])]
-- 13 TinStencils.feedNumber(I)V
def tb_13 : qz_B := [(17, [(0, qk (.bipush 24) 2 (nI 24)), (2, qa (.istore_n 2) 1), (3, qa (.iload_n 2) 1), (4, qj (.ifCond .lt 45) 3 49 [false, false, false]), (7, qa (.aload_n 0) 1), (8, qf (.getfield 13) 3 11 1 0), (11, qk (.sipush 1200) 3 (nI 1200)), (14, qj (.if_icmp .ge 35) 3 49 [false, false, false])]),
  (31, [(17, qa (.aload_n 0) 1), (18, qf (.getfield 9) 3 11 0 1), (21, qa (.aload_n 0) 1), (22, qf (.getfield 13) 3 11 1 0), (25, qa (.iload_n 1) 1), (26, qa (.iload_n 2) 1), (27, qa .iushr 1), (28, qk (.sipush 255) 3 (nI 255))]),
  (43, [(31, qa .iand 1), (32, qa .iastore 1), (33, qa (.aload_n 0) 1), (34, qa .dup 1), (35, qf (.getfield 13) 3 11 1 0), (38, qk (.iconst 1) 1 (nI 1)), (39, qa .iadd 1), (40, qf (.putfield 13) 3 11 1 0)]),
  (50, [(43, qk (.iinc 2 (-8)) 3 (-8)), (46, qj (.goto (-43)) 3 3 []), (49, qa .return_ 1)])]
-- 14 TinStencils.feed(IIIII)I
def tb_14 : qz_B := [(14, [(0, qa (.aload_n 0) 1), (1, qf (.getfield 13) 3 11 1 0), (4, qk (.sipush 1180) 3 (nI 1180)), (7, qj (.if_icmp .le 5) 3 12 []), (10, qk (.iconst (-1)) 1 (-1)), (11, qa .ireturn 1), (12, qa (.aload_n 0) 1), (13, qa (.iload_n 1) 1)]),
  (28, [(14, qc (.invokevirtual 99) 3 13 2 0 [1, 3, 11]), (17, qa (.aload_n 0) 1), (18, qa (.iload_n 2) 1), (19, qc (.invokevirtual 99) 3 13 2 0 [1, 3, 11]), (22, qa (.aload_n 0) 1), (23, qa (.iload_n 3) 1), (24, qc (.invokevirtual 99) 3 13 2 0 [1, 3, 11]), (27, qa (.aload_n 0) 1)]),
  (44, [(28, qa (.iload 4) 2), (30, qc (.invokevirtual 99) 3 13 2 0 [1, 3, 11]), (33, qa (.aload_n 0) 1), (34, qa (.iload 5) 2), (36, qc (.invokevirtual 99) 3 13 2 0 [1, 3, 11]), (39, qa (.aload_n 0) 1), (40, qf (.getfield 13) 3 11 1 0), (43, qa .ireturn 1)])]
-- 15 TinStencilsModel.four(I)V
def tb_15 : qz_B := [(15, [(0, qk (.bipush 24) 2 (nI 24)), (2, qa (.istore_n 2) 1), (3, qa (.iload_n 2) 1), (4, qj (.ifCond .lt 32) 3 36 [false, false, false]), (7, qa (.aload_n 0) 1), (8, qf (.getfield 57) 3 12 18 1), (11, qa (.aload_n 0) 1), (12, qf (.getfield 163) 3 12 14 0)]),
  (25, [(15, qa (.iload_n 1) 1), (16, qa (.iload_n 2) 1), (17, qa .ishr 1), (18, qa .i2b 1), (19, qa .bastore 1), (20, qa (.aload_n 0) 1), (21, qa .dup 1), (22, qf (.getfield 163) 3 12 14 0)]),
  (37, [(25, qk (.iconst 1) 1 (nI 1)), (26, qa .iadd 1), (27, qf (.putfield 163) 3 12 14 0), (30, qk (.iinc 2 (-8)) 3 (-8)), (33, qj (.goto (-30)) 3 3 []), (36, qa .return_ 1)])]
-- 16 TinStencilsModel.feed(IIIII)I
def tb_16 : qz_B := [(15, [(0, qa (.aload_n 0) 1), (1, qf (.getfield 163) 3 12 14 0), (4, qk (.bipush 20) 2 (nI 20)), (6, qa .iadd 1), (7, qk (.sipush 1200) 3 (nI 1200)), (10, qj (.if_icmp .le 5) 3 15 []), (13, qk (.iconst (-1)) 1 (-1)), (14, qa .ireturn 1)]),
  (27, [(15, qa (.aload_n 0) 1), (16, qa (.iload_n 1) 1), (17, qc (.invokevirtual 166) 3 15 2 0 [1, 3, 12]), (20, qa (.aload_n 0) 1), (21, qa (.iload_n 2) 1), (22, qc (.invokevirtual 166) 3 15 2 0 [1, 3, 12]), (25, qa (.aload_n 0) 1), (26, qa (.iload_n 3) 1)]),
  (43, [(27, qc (.invokevirtual 166) 3 15 2 0 [1, 3, 12]), (30, qa (.aload_n 0) 1), (31, qa (.iload 4) 2), (33, qc (.invokevirtual 166) 3 15 2 0 [1, 3, 12]), (36, qa (.aload_n 0) 1), (37, qa (.iload 5) 2), (39, qc (.invokevirtual 166) 3 15 2 0 [1, 3, 12]), (42, qa (.aload_n 0) 1)]),
  (47, [(43, qf (.getfield 163) 3 12 14 0), (46, qa .ireturn 1)])]
-- 17 TinStencils$Tokens.kindOf(I)I
def tb_17 : qz_B := [(14, [(0, qa (.iload_n 0) 1), (1, qk (.bipush 97) 2 (nI 97)), (3, qj (.if_icmp .lt 11) 3 14 []), (6, qa (.iload_n 0) 1), (7, qk (.bipush 122) 2 (nI 122)), (9, qj (.if_icmp .gt 5) 3 14 []), (12, qk (.iconst 1) 1 (nI 1)), (13, qa .ireturn 1)]),
  (30, [(14, qa (.iload_n 0) 1), (15, qk (.bipush 48) 2 (nI 48)), (17, qj (.if_icmp .lt 13) 3 30 [false]), (20, qa (.iload_n 0) 1), (21, qk (.bipush 57) 2 (nI 57)), (23, qj (.if_icmp .gt 7) 3 30 [false]), (26, qk (.iconst 2) 1 (nI 2)), (27, qj (.goto 4) 3 31 [false])]),
  (32, [(30, qm [false] (qk (.iconst 3) 1 (nI 3))), (31, qa .ireturn 1)])]
-- 18 TinStencils$Tokens.lengthAt(II)I
def tb_18 : qz_B := [(12, [(0, qa (.aload_n 0) 1), (1, qf (.getfield 9) 3 10 0 1), (4, qa (.iload_n 1) 1), (5, qa .iaload 1), (6, qc (.invokestatic 45) 3 17 1 1 [0, 1]), (9, qa (.istore_n 3) 1), (10, qa (.iload_n 3) 1), (11, qk (.iconst 3) 1 (nI 3))]),
  (24, [(12, qj (.if_icmp .ne 5) 3 17 [true, true, true, true, false]), (15, qk (.iconst 1) 1 (nI 1)), (16, qm [true, true, true, true, false] (qa .ireturn 1)), (17, qa (.iload_n 1) 1), (18, qk (.iconst 1) 1 (nI 1)), (19, qa .iadd 1), (20, qa (.istore 4) 2), (22, qa (.iload 4) 2)]),
  (39, [(24, qa (.iload_n 2) 1), (25, qj (.if_icmp .ge 23) 3 48 [false, true, false, false, true]), (28, qa (.aload_n 0) 1), (29, qf (.getfield 9) 3 10 0 1), (32, qa (.iload 4) 2), (34, qa .iaload 1), (35, qc (.invokestatic 45) 3 17 1 1 [0, 1]), (38, qa (.iload_n 3) 1)]),
  (53, [(39, qj (.if_icmp .ne 9) 3 48 [false, true, false, false, true]), (42, qk (.iinc 4 1) 3 (nI 1)), (45, qj (.goto (-23)) 3 22 []), (48, qa (.iload 4) 2), (50, qa (.iload_n 1) 1), (51, qa .isub 1), (52, qa .ireturn 1)])]
-- 19 java/lang/String.coder()B
def tb_19 : qz_B := [(15, [(0, qk (.getstatic 38) 3 (nI 1)), (3, qj (.ifCond .eq 10) 3 13 [false]), (6, qa (.aload_n 0) 1), (7, qf (.getfield 15) 3 13 0 0), (10, qj (.goto 4) 3 14 [false]), (13, qm [false] (qk (.iconst 1) 1 (nI 1))), (14, qf .ireturn 1 0 0 3)])]
-- 20 java/lang/String.length()I
def tb_20 : qz_B := [(11, [(0, qa (.aload_n 0) 1), (1, qf (.getfield 9) 3 13 1 1), (4, qa .arraylength 1), (5, qa (.aload_n 0) 1), (6, qc (.invokevirtual 335) 3 19 1 1 [0, 1, 13]), (9, qa .ishr 1), (10, qa .ireturn 1)])]
-- 21 java/lang/String.isLatin1()Z
def tb_21 : qz_B := [(18, [(0, qk (.getstatic 38) 3 (nI 1)), (3, qj (.ifCond .eq 14) 3 17 [false]), (6, qa (.aload_n 0) 1), (7, qf (.getfield 15) 3 13 0 0), (10, qj (.ifCond .ne 7) 3 17 [false]), (13, qk (.iconst 1) 1 (nI 1)), (14, qj (.goto 4) 3 18 [false]), (17, qm [false] (qk (.iconst 0) 1 (nI 0)))]),
  (19, [(18, qf .ireturn 1 0 0 1)])]
-- 22 java/lang/StringLatin1.charAt([BI)C
def tb_22 : qz_B := [(13, [(0, qa (.iload_n 1) 1), (1, qa (.aload_n 0) 1), (2, qa .arraylength 1), (6, qa (.aload_n 0) 1), (7, qa (.iload_n 1) 1), (8, qa .baload 1), (9, qk (.sipush 255) 3 (nI 255)), (12, qa .iand 1)]),
  (15, [(13, qa .i2c 1), (14, qf .ireturn 1 0 0 2)])]
-- 23 java/lang/String.charAt(I)C
def tb_23 : qz_B := [(16, [(0, qa (.aload_n 0) 1), (1, qc (.invokevirtual 492) 3 21 1 1 [0, 1, 13]), (4, qj (.ifCond .eq 12) 3 16 []), (7, qa (.aload_n 0) 1), (8, qf (.getfield 9) 3 13 1 1), (11, qa (.iload_n 1) 1), (12, qc (.invokestatic 495) 3 22 2 1 [0, 2]), (15, qf .ireturn 1 0 0 2)]),
  (25, [(16, qa (.aload_n 0) 1), (17, qf (.getfield 9) 3 13 1 1), (20, qa (.iload_n 1) 1), (24, qf .ireturn 1 0 0 2)])]
-- 24 TinStencils$Tokens.isKeyword(III)Z
def tb_24 : qz_B := [(14, [(0, qk (.iconst 0) 1 (nI 0)), (1, qa (.istore 4) 2), (3, qa (.iload 4) 2), (5, qa (.iload_n 3) 1), (6, qj (.if_icmp .ge 32) 3 38 [false, false, false, false, false]), (9, qa (.aload_n 0) 1), (10, qf (.getfield 9) 3 10 0 1), (13, qa (.iload_n 1) 1)]),
  (27, [(14, qa (.iload 4) 2), (16, qa .iadd 1), (17, qa .iaload 1), (18, qf (.ldc 55) 2 1000003 0 1), (20, qa (.iload_n 2) 1), (21, qa (.iload 4) 2), (23, qa .iadd 1), (24, qc (.invokevirtual 63) 3 23 2 1 [0, 2, 13])]),
  (40, [(27, qj (.if_icmp .eq 5) 3 32 []), (30, qk (.iconst 0) 1 (nI 0)), (31, qf .ireturn 1 0 0 1), (32, qk (.iinc 4 1) 3 (nI 1)), (35, qj (.goto (-32)) 3 3 []), (38, qk (.iconst 1) 1 (nI 1)), (39, qf .ireturn 1 0 0 1)])]
-- 25 TinStencils$Tokens.keywordAt(II)I
def tb_25 : qz_B := [(12, [(0, qk (.iconst 0) 1 (nI 0)), (1, qa (.istore_n 3) 1), (2, qk (.iconst 0) 1 (nI 0)), (3, qa (.istore 4) 2), (5, qk (.iconst 0) 1 (nI 0)), (6, qa (.istore 5) 2), (8, qa (.iload 5) 2), (10, qf (.ldc 55) 2 1000003 0 1)]),
  (32, [(12, qc (.invokevirtual 57) 3 20 1 1 [0, 1, 13]), (15, qj (.if_icmp .ge 52) 3 67 [false, false, false, false, false, false]), (18, qf (.ldc 55) 2 1000003 0 1), (20, qa (.iload 5) 2), (22, qc (.invokevirtual 63) 3 23 2 1 [0, 2, 13]), (25, qk (.bipush 32) 2 (nI 32)), (27, qj (.if_icmp .ne 34) 3 61 []), (30, qa (.iload 5) 2)]),
  (44, [(32, qa (.iload 4) 2), (34, qa .isub 1), (35, qa (.iload_n 2) 1), (36, qj (.if_icmp .ne 16) 3 52 [true, true, true, true, false, true]), (39, qa (.aload_n 0) 1), (40, qa (.iload_n 1) 1), (41, qa (.iload 4) 2), (43, qa (.iload_n 2) 1)]),
  (59, [(44, qc (.invokevirtual 67) 3 24 4 1 [1, 5, 10]), (47, qj (.ifCond .eq 5) 3 52 [true, true, true, true, false, true]), (50, qa (.iload_n 3) 1), (51, qm [true, true, true, true, false, true] (qa .ireturn 1)), (52, qk (.iinc 3 1) 3 (nI 1)), (55, qa (.iload 5) 2), (57, qk (.iconst 1) 1 (nI 1)), (58, qa .iadd 1)]),
  (69, [(59, qa (.istore 4) 2), (61, qk (.iinc 5 1) 3 (nI 1)), (64, qj (.goto (-56)) 3 8 []), (67, qk (.iconst (-1)) 1 (-1)), (68, qa .ireturn 1)])]
-- 26 TinStencils$Tokens.numberAt(II)I
def tb_26 : qz_B := [(10, [(0, qa (.iload_n 2) 1), (1, qk (.iconst 4) 1 (nI 4)), (2, qj (.if_icmp .le 5) 3 7 [true, true, true, false, false]), (5, qk (.iconst (-1)) 1 (-1)), (6, qm [true, true, true, false, false] (qa .ireturn 1)), (7, qk (.iconst 0) 1 (nI 0)), (8, qa (.istore_n 3) 1), (9, qa (.iload_n 1) 1)]),
  (23, [(10, qa (.istore 4) 2), (12, qa (.iload 4) 2), (14, qa (.iload_n 1) 1), (15, qa (.iload_n 2) 1), (16, qa .iadd 1), (17, qj (.if_icmp .ge 25) 3 42 [false, false, false, true, false]), (20, qa (.iload_n 3) 1), (21, qk (.bipush 10) 2 (nI 10))]),
  (35, [(23, qa .imul 1), (24, qa (.aload_n 0) 1), (25, qf (.getfield 9) 3 10 0 1), (28, qa (.iload 4) 2), (30, qa .iaload 1), (31, qa .iadd 1), (32, qk (.bipush 48) 2 (nI 48)), (34, qa .isub 1)]),
  (44, [(35, qa (.istore_n 3) 1), (36, qk (.iinc 4 1) 3 (nI 1)), (39, qj (.goto (-27)) 3 12 []), (42, qa (.iload_n 3) 1), (43, qa .ireturn 1)])]
-- 27 TinStencils$Tokens.addToken(II)V
def tb_27 : qz_B := [(14, [(0, qa (.aload_n 0) 1), (1, qf (.getfield 15) 3 10 1 1), (4, qa (.aload_n 0) 1), (5, qf (.getfield 27) 3 10 5 0), (8, qa (.aload_n 0) 1), (9, qf (.getfield 9) 3 10 0 1), (12, qa (.iload_n 1) 1), (13, qa .iaload 1)]),
  (28, [(14, qc (.invokestatic 45) 3 17 1 1 [0, 1]), (17, qa .iastore 1), (18, qa (.aload_n 0) 1), (19, qf (.getfield 18) 3 10 2 1), (22, qa (.aload_n 0) 1), (23, qf (.getfield 27) 3 10 5 0), (26, qa (.iload_n 1) 1), (27, qa .iastore 1)]),
  (42, [(28, qa (.aload_n 0) 1), (29, qf (.getfield 21) 3 10 3 1), (32, qa (.aload_n 0) 1), (33, qf (.getfield 27) 3 10 5 0), (36, qa (.iload_n 2) 1), (37, qa .iastore 1), (38, qa (.aload_n 0) 1), (39, qf (.getfield 15) 3 10 1 1)]),
  (56, [(42, qa (.aload_n 0) 1), (43, qf (.getfield 27) 3 10 5 0), (46, qa .iaload 1), (47, qk (.iconst 1) 1 (nI 1)), (48, qj (.if_icmp .ne 21) 3 69 []), (51, qa (.aload_n 0) 1), (52, qf (.getfield 24) 3 10 4 1), (55, qa (.aload_n 0) 1)]),
  (70, [(56, qf (.getfield 27) 3 10 5 0), (59, qa (.aload_n 0) 1), (60, qa (.iload_n 1) 1), (61, qa (.iload_n 2) 1), (62, qc (.invokevirtual 49) 3 25 3 1 [3, 6, 10]), (65, qa .iastore 1), (66, qj (.goto 40) 3 106 [true, false, false]), (69, qa (.aload_n 0) 1)]),
  (86, [(70, qf (.getfield 24) 3 10 4 1), (73, qa (.aload_n 0) 1), (74, qf (.getfield 27) 3 10 5 0), (77, qa (.aload_n 0) 1), (78, qf (.getfield 15) 3 10 1 1), (81, qa (.aload_n 0) 1), (82, qf (.getfield 27) 3 10 5 0), (85, qa .iaload 1)]),
  (100, [(86, qk (.iconst 2) 1 (nI 2)), (87, qj (.if_icmp .ne 12) 3 99 [true, true, false]), (90, qa (.aload_n 0) 1), (91, qa (.iload_n 1) 1), (92, qa (.iload_n 2) 1), (93, qc (.invokevirtual 52) 3 26 3 1 [2, 5, 10]), (96, qj (.goto 9) 3 105 [true, false, false]), (99, qa (.aload_n 0) 1)]),
  (112, [(100, qf (.getfield 9) 3 10 0 1), (103, qa (.iload_n 1) 1), (104, qm [true, false, false] (qa .iaload 1)), (105, qm [true, false, false] (qa .iastore 1)), (106, qa (.aload_n 0) 1), (107, qa .dup 1), (108, qf (.getfield 27) 3 10 5 0), (111, qk (.iconst 1) 1 (nI 1))]),
  (117, [(112, qa .iadd 1), (113, qf (.putfield 27) 3 10 5 0), (116, qa .return_ 1)])]
-- 28 TinStencils$Tokens.split([II)V
def tb_28 : qz_B := [(12, [(0, qa (.aload_n 1) 1), (1, qk (.iconst 0) 1 (nI 0)), (2, qa (.aload_n 0) 1), (3, qf (.getfield 9) 3 10 0 1), (6, qk (.iconst 0) 1 (nI 0)), (7, qa (.iload_n 2) 1), (8, qa (.invokestatic 31) 3), (11, qa (.aload_n 0) 1)]),
  (24, [(12, qk (.iconst 0) 1 (nI 0)), (13, qf (.putfield 27) 3 10 5 0), (16, qk (.iconst 0) 1 (nI 0)), (17, qa (.istore_n 3) 1), (18, qk (.iconst 0) 1 (nI 0)), (19, qm [true, false, true, true, true] (qa (.istore 4) 2)), (21, qa (.iload 4) 2), (23, qa (.iload_n 2) 1)]),
  (40, [(24, qj (.if_icmp .ge 60) 3 84 [true, false, true, false, false]), (27, qa (.iload 4) 2), (29, qa (.iload_n 3) 1), (30, qj (.if_icmp .lt 48) 3 78 [true, false, true, true, true]), (33, qa (.aload_n 0) 1), (34, qf (.getfield 9) 3 10 0 1), (37, qa (.iload 4) 2), (39, qa .iaload 1)]),
  (57, [(40, qk (.bipush 32) 2 (nI 32)), (42, qj (.if_icmp .eq 36) 3 78 [true, false, true, true, true]), (45, qa (.aload_n 0) 1), (46, qf (.getfield 9) 3 10 0 1), (49, qa (.iload 4) 2), (51, qa .iaload 1), (52, qk (.bipush 10) 2 (nI 10)), (54, qj (.if_icmp .eq 24) 3 78 [true, false, true, true, true])]),
  (69, [(57, qa (.iload 4) 2), (59, qa (.aload_n 0) 1), (60, qa (.iload 4) 2), (62, qa (.iload_n 2) 1), (63, qc (.invokevirtual 37) 3 18 3 1 [2, 5, 10]), (66, qa .iadd 1), (67, qa (.istore_n 3) 1), (68, qa (.aload_n 0) 1)]),
  (85, [(69, qa (.iload 4) 2), (71, qa (.iload_n 3) 1), (72, qa (.iload 4) 2), (74, qa .isub 1), (75, qm [true, false, true, true, true] (qc (.invokevirtual 41) 3 27 3 0 [0, 3, 10])), (78, qk (.iinc 4 1) 3 (nI 1)), (81, qj (.goto (-60)) 3 21 [true, false, true, true, true]), (84, qa (.aload_n 0) 1)]),
  (99, [(85, qf (.getfield 15) 3 10 1 1), (88, qa (.aload_n 0) 1), (89, qf (.getfield 27) 3 10 5 0), (92, qk (.iconst 0) 1 (nI 0)), (93, qa .iastore 1), (94, qa (.aload_n 0) 1), (95, qf (.getfield 18) 3 10 2 1), (98, qa (.aload_n 0) 1)]),
  (113, [(99, qf (.getfield 27) 3 10 5 0), (102, qa (.iload_n 2) 1), (103, qa .iastore 1), (104, qa (.aload_n 0) 1), (105, qf (.getfield 21) 3 10 3 1), (108, qa (.aload_n 0) 1), (109, qf (.getfield 27) 3 10 5 0), (112, qk (.iconst 0) 1 (nI 0))]),
  (125, [(113, qa .iastore 1), (114, qa (.aload_n 0) 1), (115, qf (.getfield 24) 3 10 4 1), (118, qa (.aload_n 0) 1), (119, qf (.getfield 27) 3 10 5 0), (122, qk (.iconst (-1)) 1 (-1)), (123, qa .iastore 1), (124, qa .return_ 1)])]
-- 29 TinStencils$Teller.takeKeyword(I)Z
def tb_29 : qz_B := [(16, [(0, qa (.aload_n 0) 1), (1, qf (.getfield 12) 3 9 0 1), (4, qf (.getfield 49) 3 10 1 1), (7, qa (.aload_n 0) 1), (8, qf (.getfield 22) 3 9 2 0), (11, qa .iaload 1), (12, qk (.iconst 1) 1 (nI 1)), (13, qj (.if_icmp .ne 19) 3 32 [false, false])]),
  (32, [(16, qa (.aload_n 0) 1), (17, qf (.getfield 12) 3 9 0 1), (20, qf (.getfield 197) 3 10 4 1), (23, qa (.aload_n 0) 1), (24, qf (.getfield 22) 3 9 2 0), (27, qa .iaload 1), (28, qa (.iload_n 1) 1), (29, qm [false, false] (qj (.if_icmp .eq 5) 3 34 [true, false]))]),
  (44, [(32, qk (.iconst 0) 1 (nI 0)), (33, qm [true, false] (qf .ireturn 1 0 0 1)), (34, qa (.aload_n 0) 1), (35, qa .dup 1), (36, qf (.getfield 22) 3 9 2 0), (39, qk (.iconst 1) 1 (nI 1)), (40, qa .iadd 1), (41, qf (.putfield 22) 3 9 2 0)]),
  (46, [(44, qk (.iconst 1) 1 (nI 1)), (45, qf .ireturn 1 0 0 1)])]
-- 30 TinStencils$Teller.takeNumber(II)Z
def tb_30 : qz_B := [(14, [(0, qa (.aload_n 0) 1), (1, qf (.getfield 12) 3 9 0 1), (4, qf (.getfield 197) 3 10 4 1), (7, qa (.aload_n 0) 1), (8, qf (.getfield 22) 3 9 2 0), (11, qa .iaload 1), (12, qa (.istore_n 3) 1), (13, qa (.aload_n 0) 1)]),
  (30, [(14, qf (.getfield 12) 3 9 0 1), (17, qf (.getfield 49) 3 10 1 1), (20, qa (.aload_n 0) 1), (21, qf (.getfield 22) 3 9 2 0), (24, qa .iaload 1), (25, qk (.iconst 2) 1 (nI 2)), (26, qj (.if_icmp .ne 13) 3 39 [false, false, false, false]), (29, qa (.iload_n 3) 1)]),
  (42, [(30, qa (.iload_n 1) 1), (31, qj (.if_icmp .lt 8) 3 39 [false, false, false, false]), (34, qa (.iload_n 3) 1), (35, qa (.iload_n 2) 1), (36, qm [false, false, false, false] (qj (.if_icmp .le 5) 3 41 [true, false, false, true])), (39, qk (.iconst 0) 1 (nI 0)), (40, qm [true, false, false, true] (qf .ireturn 1 0 0 1)), (41, qa (.aload_n 0) 1)]),
  (56, [(42, qa (.iload_n 3) 1), (43, qf (.putfield 26) 3 9 3 0), (46, qa (.aload_n 0) 1), (47, qa .dup 1), (48, qf (.getfield 22) 3 9 2 0), (51, qk (.iconst 1) 1 (nI 1)), (52, qa .iadd 1), (53, qf (.putfield 22) 3 9 2 0)]),
  (58, [(56, qk (.iconst 1) 1 (nI 1)), (57, qf .ireturn 1 0 0 1)])]
-- 31 java/util/Arrays.fill([II)V
def tb_31 : qz_B := [(10, [(0, qk (.iconst 0) 1 (nI 0)), (1, qa (.istore_n 2) 1), (2, qa (.aload_n 0) 1), (3, qa .arraylength 1), (4, qa (.istore_n 3) 1), (5, qa (.iload_n 2) 1), (6, qa (.iload_n 3) 1), (7, qj (.if_icmp .ge 13) 3 20 [false, false, false, false])]),
  (21, [(10, qa (.aload_n 0) 1), (11, qa (.iload_n 2) 1), (12, qa (.iload_n 1) 1), (13, qa .iastore 1), (14, qk (.iinc 2 1) 3 (nI 1)), (17, qj (.goto (-12)) 3 5 []), (20, qa .return_ 1)])]
-- 32 TinStencils$Bridges.begin()V
def tb_32 : qz_B := [(12, [(0, qa (.aload_n 0) 1), (1, qk (.iconst 0) 1 (nI 0)), (2, qf (.putfield 9) 3 0 0 0), (5, qa (.aload_n 0) 1), (6, qk (.iconst 0) 1 (nI 0)), (7, qf (.putfield 15) 3 0 1 0), (10, qa (.aload_n 0) 1), (11, qk (.iconst 0) 1 (nI 0))]),
  (24, [(12, qf (.putfield 18) 3 0 2 0), (15, qa (.aload_n 0) 1), (16, qf (.getfield 28) 3 0 5 1), (19, qk (.iconst 0) 1 (nI 0)), (20, qc (.invokestatic 31) 3 31 2 0 [2, 4]), (23, qa .return_ 1)])]
-- 33 TinStencils$Sheet.begin(II)V
def tb_33 : qz_B := [(12, [(0, qa (.aload_n 0) 1), (1, qk (.iconst 1) 1 (nI 1)), (2, qf (.putfield 9) 3 8 0 2), (5, qa (.aload_n 0) 1), (6, qa (.iload_n 1) 1), (7, qf (.putfield 15) 3 8 1 0), (10, qa (.aload_n 0) 1), (11, qa (.iload_n 2) 1)]),
  (27, [(12, qf (.putfield 19) 3 8 2 0), (15, qa (.aload_n 0) 1), (16, qk (.iconst 0) 1 (nI 0)), (17, qf (.putfield 22) 3 8 3 0), (20, qa (.aload_n 0) 1), (21, qk (.bipush 15) 2 (nI 15)), (23, qf (.putfield 25) 3 8 4 0), (26, qa (.aload_n 0) 1)]),
  (41, [(27, qk (.iconst 0) 1 (nI 0)), (28, qf (.putfield 28) 3 8 5 0), (31, qa (.aload_n 0) 1), (32, qk (.iconst 0) 1 (nI 0)), (33, qf (.putfield 31) 3 8 6 0), (36, qa (.aload_n 0) 1), (37, qf (.getfield 34) 3 8 7 1), (40, qk (.iconst 0) 1 (nI 0))]),
  (57, [(41, qc (.invokestatic 60) 3 31 2 0 [2, 4]), (44, qa (.aload_n 0) 1), (45, qf (.getfield 38) 3 8 8 1), (48, qk (.iconst 1) 1 (nI 1)), (49, qc (.invokestatic 60) 3 31 2 0 [2, 4]), (52, qa (.aload_n 0) 1), (53, qk (.iconst 0) 1 (nI 0)), (54, qf (.putfield 48) 3 8 10 0)]),
  (65, [(57, qa (.aload_n 0) 1), (58, qf (.getfield 44) 3 8 9 1), (61, qc (.invokevirtual 66) 3 32 1 0 [0, 1, 0]), (64, qa .return_ 1)])]
-- 34 TinStencils$Teller.takeSign(I)Z
def tb_34 : qz_B := [(16, [(0, qa (.aload_n 0) 1), (1, qf (.getfield 12) 3 9 0 1), (4, qf (.getfield 49) 3 10 1 1), (7, qa (.aload_n 0) 1), (8, qf (.getfield 22) 3 9 2 0), (11, qa .iaload 1), (12, qk (.iconst 3) 1 (nI 3)), (13, qj (.if_icmp .ne 19) 3 32 [false, false])]),
  (32, [(16, qa (.aload_n 0) 1), (17, qf (.getfield 12) 3 9 0 1), (20, qf (.getfield 197) 3 10 4 1), (23, qa (.aload_n 0) 1), (24, qf (.getfield 22) 3 9 2 0), (27, qa .iaload 1), (28, qa (.iload_n 1) 1), (29, qm [false, false] (qj (.if_icmp .eq 5) 3 34 [true, false]))]),
  (44, [(32, qk (.iconst 0) 1 (nI 0)), (33, qm [true, false] (qf .ireturn 1 0 0 1)), (34, qa (.aload_n 0) 1), (35, qa .dup 1), (36, qf (.getfield 22) 3 9 2 0), (39, qk (.iconst 1) 1 (nI 1)), (40, qa .iadd 1), (41, qf (.putfield 22) 3 9 2 0)]),
  (46, [(44, qk (.iconst 1) 1 (nI 1)), (45, qf .ireturn 1 0 0 1)])]
-- 35 TinStencils$Teller.tellSize(LTinStencils$Sheet;)Z
def tb_35 : qz_B := [(15, [(0, qa (.aload_n 0) 1), (1, qk (.iconst 0) 1 (nI 0)), (2, qc (.invokevirtual 68) 3 29 2 1 [0, 2, 9]), (5, qj (.ifCond .eq 13) 3 18 [false, false, false]), (8, qa (.aload_n 0) 1), (9, qk (.iconst 1) 1 (nI 1)), (10, qk (.bipush 20) 2 (nI 20)), (12, qc (.invokevirtual 71) 3 30 3 1 [1, 4, 9])]),
  (27, [(15, qm [false, false, false] (qj (.ifCond .ne 5) 3 20 [true, true, false])), (18, qk (.iconst 0) 1 (nI 0)), (19, qm [true, true, false] (qf .ireturn 1 0 0 1)), (20, qa (.aload_n 0) 1), (21, qf (.getfield 26) 3 9 3 0), (24, qa (.istore_n 2) 1), (25, qa (.aload_n 0) 1), (26, qk (.iconst 1) 1 (nI 1))]),
  (40, [(27, qk (.bipush 20) 2 (nI 20)), (29, qc (.invokevirtual 71) 3 30 3 1 [1, 4, 9]), (32, qj (.ifCond .ne 5) 3 37 []), (35, qk (.iconst 0) 1 (nI 0)), (36, qf .ireturn 1 0 0 1), (37, qa (.aload_n 1) 1), (38, qa (.iload_n 2) 1), (39, qa (.aload_n 0) 1)]),
  (53, [(40, qf (.getfield 26) 3 9 3 0), (43, qc (.invokevirtual 75) 3 33 3 0 [0, 3, 8]), (46, qa (.aload_n 0) 1), (47, qk (.bipush 59) 2 (nI 59)), (49, qc (.invokevirtual 56) 3 34 2 1 [0, 2, 9]), (52, qf .ireturn 1 0 0 1)])]
-- 36 TinStencils$Teller.takeSquares(II)Z
def tb_36 : qz_B := [(14, [(0, qa (.aload_n 0) 1), (1, qf (.getfield 12) 3 9 0 1), (4, qf (.getfield 200) 3 10 3 1), (7, qa (.aload_n 0) 1), (8, qf (.getfield 22) 3 9 2 0), (11, qa .iaload 1), (12, qa (.istore_n 3) 1), (13, qa (.aload_n 0) 1)]),
  (30, [(14, qf (.getfield 12) 3 9 0 1), (17, qf (.getfield 49) 3 10 1 1), (20, qa (.aload_n 0) 1), (21, qf (.getfield 22) 3 9 2 0), (24, qa .iaload 1), (25, qk (.iconst 1) 1 (nI 1)), (26, qj (.if_icmp .ne 13) 3 39 [false, false, false, false, false, false, false]), (29, qa (.iload_n 3) 1)]),
  (42, [(30, qa (.iload_n 1) 1), (31, qj (.if_icmp .lt 8) 3 39 [false, false, false, false, false, false, false]), (34, qa (.iload_n 3) 1), (35, qa (.iload_n 2) 1), (36, qm [false, false, false, false, false, false, false] (qj (.if_icmp .le 5) 3 41 [true, false, false, true, false, false, false])), (39, qk (.iconst 0) 1 (nI 0)), (40, qm [true, false, false, true, false, false, false] (qf .ireturn 1 0 0 1)), (41, qk (.iconst 0) 1 (nI 0))]),
  (57, [(42, qa (.istore 4) 2), (44, qk (.iconst 0) 1 (nI 0)), (45, qm [true, false, false, true, true, true, false] (qa (.istore 5) 2)), (47, qa (.iload 5) 2), (49, qa (.iload_n 3) 1), (50, qj (.if_icmp .ge 70) 3 120 [true, false, false, true, true, false, false]), (53, qa (.aload_n 0) 1), (54, qf (.getfield 12) 3 9 0 1)]),
  (74, [(57, qf (.getfield 203) 3 10 0 1), (60, qa (.aload_n 0) 1), (61, qf (.getfield 12) 3 9 0 1), (64, qf (.getfield 65) 3 10 2 1), (67, qa (.aload_n 0) 1), (68, qf (.getfield 22) 3 9 2 0), (71, qa .iaload 1), (72, qa (.iload 5) 2)]),
  (89, [(74, qa .iadd 1), (75, qa .iaload 1), (76, qa (.istore 6) 2), (78, qa (.iload 6) 2), (80, qk (.bipush 115) 2 (nI 115)), (82, qj (.if_icmp .eq 12) 3 94 [true, false, false, true, true, true, true]), (85, qa (.iload 6) 2), (87, qk (.bipush 116) 2 (nI 116))]),
  (104, [(89, qj (.if_icmp .eq 5) 3 94 [true, false, false, true, true, true, true]), (92, qk (.iconst 0) 1 (nI 0)), (93, qm [true, false, false, true, true, true, true] (qf .ireturn 1 0 0 1)), (94, qa (.iload 4) 2), (96, qa (.iload 6) 2), (98, qk (.bipush 116) 2 (nI 116)), (100, qj (.if_icmp .ne 10) 3 110 [true, false, false, true, false, true, false]), (103, qk (.iconst 1) 1 (nI 1))]),
  (120, [(104, qa (.iload 5) 2), (106, qa .ishl 1), (107, qj (.goto 4) 3 111 [true, false, false, true, false, true, false]), (110, qm [true, false, false, true, false, true, false] (qk (.iconst 0) 1 (nI 0))), (111, qa .ior 1), (112, qa (.istore 4) 2), (114, qk (.iinc 5 1) 3 (nI 1)), (117, qj (.goto (-70)) 3 47 [true, false, false, true, true, true, false])]),
  (133, [(120, qa (.aload_n 0) 1), (121, qa (.iload 4) 2), (123, qf (.putfield 35) 3 9 6 0), (126, qa (.aload_n 0) 1), (127, qa (.iload_n 3) 1), (128, qf (.putfield 38) 3 9 7 0), (131, qa (.aload_n 0) 1), (132, qa .dup 1)]),
  (143, [(133, qf (.getfield 22) 3 9 2 0), (136, qk (.iconst 1) 1 (nI 1)), (137, qa .iadd 1), (138, qf (.putfield 22) 3 9 2 0), (141, qk (.iconst 1) 1 (nI 1)), (142, qf .ireturn 1 0 0 1)])]
-- 37 TinStencils$Teller.tellRow(LTinStencils$Sheet;)Z
def tb_37 : qz_B := [(14, [(0, qa (.aload_n 0) 1), (1, qk (.iconst 0) 1 (nI 0)), (2, qa (.aload_n 1) 1), (3, qf (.getfield 110) 3 8 2 0), (6, qk (.iconst 1) 1 (nI 1)), (7, qa .isub 1), (8, qc (.invokevirtual 71) 3 30 3 1 [1, 4, 9]), (11, qj (.ifCond .ne 5) 3 16 [true, true, false, false])]),
  (24, [(14, qk (.iconst 0) 1 (nI 0)), (15, qm [true, true, false, false] (qf .ireturn 1 0 0 1)), (16, qa (.aload_n 0) 1), (17, qf (.getfield 26) 3 9 3 0), (20, qa (.istore_n 2) 1), (21, qa (.aload_n 0) 1), (22, qk (.iconst 1) 1 (nI 1)), (23, qa (.aload_n 1) 1)]),
  (40, [(24, qf (.getfield 113) 3 8 1 0), (27, qc (.invokevirtual 116) 3 36 3 1 [4, 7, 9]), (30, qj (.ifCond .ne 5) 3 35 [true, true, true, false]), (33, qk (.iconst 0) 1 (nI 0)), (34, qm [true, true, true, false] (qf .ireturn 1 0 0 1)), (35, qk (.iconst 1) 1 (nI 1)), (36, qa (.aload_n 0) 1), (37, qf (.getfield 38) 3 9 7 0)]),
  (50, [(40, qa .ishl 1), (41, qk (.iconst 1) 1 (nI 1)), (42, qa .isub 1), (43, qa (.istore_n 3) 1), (44, qa (.aload_n 1) 1), (45, qf (.getfield 119) 3 8 7 1), (48, qa (.iload_n 2) 1), (49, qa (.aload_n 1) 1)]),
  (60, [(50, qf (.getfield 119) 3 8 7 1), (53, qa (.iload_n 2) 1), (54, qa .iaload 1), (55, qa (.iload_n 3) 1), (56, qk (.iconst (-1)) 1 (-1)), (57, qa .ixor 1), (58, qa .iand 1), (59, qa (.aload_n 0) 1)]),
  (67, [(60, qf (.getfield 35) 3 9 6 0), (63, qa .ior 1), (64, qa .iastore 1), (65, qk (.iconst 1) 1 (nI 1)), (66, qf .ireturn 1 0 0 1)])]
-- 38 TinStencils$Teller.nameHere()J
def tb_38 : qz_B := [(16, [(0, qa (.aload_n 0) 1), (1, qf (.getfield 12) 3 9 0 1), (4, qf (.getfield 49) 3 10 1 1), (7, qa (.aload_n 0) 1), (8, qf (.getfield 22) 3 9 2 0), (11, qa .iaload 1), (12, qk (.iconst 1) 1 (nI 1)), (13, qj (.if_icmp .ne 36) 3 49 [false, false, false, false])]),
  (33, [(16, qa (.aload_n 0) 1), (17, qf (.getfield 12) 3 9 0 1), (20, qf (.getfield 200) 3 10 3 1), (23, qa (.aload_n 0) 1), (24, qf (.getfield 22) 3 9 2 0), (27, qa .iaload 1), (28, qk (.bipush 8) 2 (nI 8)), (30, qj (.if_icmp .gt 19) 3 49 [false, false, false, false])]),
  (49, [(33, qa (.aload_n 0) 1), (34, qf (.getfield 12) 3 9 0 1), (37, qf (.getfield 197) 3 10 4 1), (40, qa (.aload_n 0) 1), (41, qf (.getfield 22) 3 9 2 0), (44, qa .iaload 1), (45, qk (.iconst (-1)) 1 (-1)), (46, qm [false, false, false, false] (qj (.if_icmp .eq 5) 3 51 [true, false, false, false]))]),
  (57, [(49, ql (.lconst 0) 1 (lN 0)), (50, qm [true, false, false, false] (qa .lreturn 1)), (51, ql (.lconst 0) 1 (lN 0)), (52, qa (.lstore_n 1) 1), (53, qk (.iconst 0) 1 (nI 0)), (54, qa (.istore_n 3) 1), (55, qa (.iload_n 3) 1), (56, qa (.aload_n 0) 1)]),
  (75, [(57, qf (.getfield 12) 3 9 0 1), (60, qf (.getfield 200) 3 10 3 1), (63, qa (.aload_n 0) 1), (64, qf (.getfield 22) 3 9 2 0), (67, qa .iaload 1), (68, qj (.if_icmp .ge 45) 3 113 [false, true, true, false]), (71, qa (.lload_n 1) 1), (72, ql (.ldc2_w 206) 3 (lN 27))]),
  (91, [(75, qa .lmul 1), (76, qa (.aload_n 0) 1), (77, qf (.getfield 12) 3 9 0 1), (80, qf (.getfield 203) 3 10 0 1), (83, qa (.aload_n 0) 1), (84, qf (.getfield 12) 3 9 0 1), (87, qf (.getfield 65) 3 10 2 1), (90, qa (.aload_n 0) 1)]),
  (103, [(91, qf (.getfield 22) 3 9 2 0), (94, qa .iaload 1), (95, qa (.iload_n 3) 1), (96, qa .iadd 1), (97, qa .iaload 1), (98, qa .i2l 1), (99, qa .ladd 1), (100, ql (.ldc2_w 208) 3 (lN 97))]),
  (115, [(103, qa .lsub 1), (104, ql (.lconst 1) 1 (lN 1)), (105, qa .ladd 1), (106, qa (.lstore_n 1) 1), (107, qk (.iinc 3 1) 3 (nI 1)), (110, qj (.goto (-55)) 3 55 []), (113, qa (.lload_n 1) 1), (114, qa .lreturn 1)])]
-- 39 TinStencils$Teller.shapeNamed(JLTinStencils$Sheet;)I
def tb_39 : qz_B := [(16, [(0, qk (.iconst 0) 1 (nI 0)), (1, qa (.istore 4) 2), (3, qa (.iload 4) 2), (5, qa (.aload_n 3) 1), (6, qf (.getfield 126) 3 8 10 0), (9, qj (.if_icmp .ge 24) 3 33 [false, false, false, false, false]), (12, qa (.aload_n 0) 1), (13, qf (.getfield 18) 3 9 1 1)]),
  (30, [(16, qa (.iload 4) 2), (18, qa .laload 1), (19, qa (.lload_n 1) 1), (20, qa .lcmp 1), (21, qj (.ifCond .ne 6) 3 27 []), (24, qa (.iload 4) 2), (26, qa .ireturn 1), (27, qk (.iinc 4 1) 3 (nI 1))]),
  (35, [(30, qj (.goto (-27)) 3 3 []), (33, qk (.iconst (-1)) 1 (-1)), (34, qa .ireturn 1)])]
-- 40 TinStencils$Sheet.openShape(I)V
def tb_40 : qz_B := [(17, [(0, qa (.aload_n 0) 1), (1, qf (.getfield 48) 3 8 10 0), (4, qk (.bipush 8) 2 (nI 8)), (6, qj (.if_icmp .ge 33) 3 39 [false, false]), (9, qa (.aload_n 0) 1), (10, qf (.getfield 51) 3 8 11 1), (13, qa (.aload_n 0) 1), (14, qf (.getfield 48) 3 8 10 0)]),
  (29, [(17, qa (.iload_n 1) 1), (18, qa .iastore 1), (19, qa (.aload_n 0) 1), (20, qf (.getfield 54) 3 8 12 1), (23, qa (.aload_n 0) 1), (24, qf (.getfield 48) 3 8 10 0), (27, qk (.iconst 0) 1 (nI 0)), (28, qa .iastore 1)]),
  (40, [(29, qa (.aload_n 0) 1), (30, qa .dup 1), (31, qf (.getfield 48) 3 8 10 0), (34, qk (.iconst 1) 1 (nI 1)), (35, qa .iadd 1), (36, qm [false, false] (qf (.putfield 48) 3 8 10 0)), (39, qa .return_ 1)])]
-- 41 TinStencils$Sheet.addShapeRow(I)V
def tb_41 : qz_B := [(12, [(0, qa (.aload_n 0) 1), (1, qf (.getfield 48) 3 8 10 0), (4, qk (.iconst 1) 1 (nI 1)), (5, qa .isub 1), (6, qa (.istore_n 2) 1), (7, qa (.iload_n 2) 1), (8, qj (.ifCond .lt 41) 3 49 [false, false, false]), (11, qa (.aload_n 0) 1)]),
  (27, [(12, qf (.getfield 54) 3 8 12 1), (15, qa (.iload_n 2) 1), (16, qa .iaload 1), (17, qk (.bipush 8) 2 (nI 8)), (19, qj (.if_icmp .ge 30) 3 49 [false, false, false]), (22, qa (.aload_n 0) 1), (23, qf (.getfield 57) 3 8 13 1), (26, qa (.iload_n 2) 1)]),
  (38, [(27, qk (.bipush 8) 2 (nI 8)), (29, qa .imul 1), (30, qa (.aload_n 0) 1), (31, qf (.getfield 54) 3 8 12 1), (34, qa (.iload_n 2) 1), (35, qa .iaload 1), (36, qa .iadd 1), (37, qa (.iload_n 1) 1)]),
  (48, [(38, qa .iastore 1), (39, qa (.aload_n 0) 1), (40, qf (.getfield 54) 3 8 12 1), (43, qa (.iload_n 2) 1), (44, qa .dup2 1), (45, qa .iaload 1), (46, qk (.iconst 1) 1 (nI 1)), (47, qa .iadd 1)]),
  (50, [(48, qm [false, false, false] (qa .iastore 1)), (49, qa .return_ 1)])]
-- 42 TinStencils$Teller.tellShape(LTinStencils$Sheet;)Z
def tb_42 : qz_B := [(12, [(0, qa (.aload_n 0) 1), (1, qc (.invokevirtual 122) 3 38 1 2 [3, 4, 9]), (4, qa (.lstore_n 2) 1), (5, qa (.lload_n 2) 1), (6, ql (.lconst 0) 1 (lN 0)), (7, qa .lcmp 1), (8, qj (.ifCond .eq 22) 3 30 [false, false, false, false, false, false]), (11, qa (.aload_n 1) 1)]),
  (27, [(12, qf (.getfield 126) 3 8 10 0), (15, qk (.bipush 8) 2 (nI 8)), (17, qj (.if_icmp .ge 13) 3 30 [false, false, false, false, false, false]), (20, qa (.aload_n 0) 1), (21, qa (.lload_n 2) 1), (22, qa (.aload_n 1) 1), (23, qc (.invokevirtual 129) 3 39 3 1 [1, 5, 9]), (26, qk (.iconst (-1)) 1 (-1))]),
  (41, [(27, qm [false, false, false, false, false, false] (qj (.if_icmp .eq 5) 3 32 [true, true, true, true, false, false])), (30, qk (.iconst 0) 1 (nI 0)), (31, qm [true, true, true, true, false, false] (qf .ireturn 1 0 0 1)), (32, qa (.aload_n 0) 1), (33, qf (.getfield 18) 3 9 1 1), (36, qa (.aload_n 1) 1), (37, qf (.getfield 126) 3 8 10 0), (40, qa (.lload_n 2) 1)]),
  (53, [(41, qa .lastore 1), (42, qa (.aload_n 0) 1), (43, qa .dup 1), (44, qf (.getfield 22) 3 9 2 0), (47, qk (.iconst 1) 1 (nI 1)), (48, qa .iadd 1), (49, qf (.putfield 22) 3 9 2 0), (52, qa (.aload_n 0) 1)]),
  (68, [(53, qk (.iconst 1) 1 (nI 1)), (54, qk (.bipush 8) 2 (nI 8)), (56, qc (.invokevirtual 116) 3 36 3 1 [4, 7, 9]), (59, qj (.ifCond .ne 5) 3 64 [true, true, false, false, false, false]), (62, qk (.iconst 0) 1 (nI 0)), (63, qm [true, true, false, false, false, false] (qf .ireturn 1 0 0 1)), (64, qa (.aload_n 0) 1), (65, qf (.getfield 38) 3 9 7 0)]),
  (84, [(68, qa (.istore 4) 2), (70, qa (.aload_n 1) 1), (71, qa (.iload 4) 2), (73, qc (.invokevirtual 133) 3 40 2 0 [0, 2, 8]), (76, qa (.aload_n 1) 1), (77, qa (.aload_n 0) 1), (78, qf (.getfield 35) 3 9 6 0), (81, qc (.invokevirtual 137) 3 41 2 0 [1, 3, 8])]),
  (101, [(84, qk (.iconst 1) 1 (nI 1)), (85, qm [true, true, false, false, true, true] (qa (.istore 5) 2)), (87, qa (.iload 5) 2), (89, qk (.bipush 8) 2 (nI 8)), (91, qj (.if_icmp .ge 46) 3 137 [false, false, false, false, false, false]), (94, qa (.aload_n 0) 1), (95, qf (.getfield 12) 3 9 0 1), (98, qf (.getfield 49) 3 10 1 1)]),
  (115, [(101, qa (.aload_n 0) 1), (102, qf (.getfield 22) 3 9 2 0), (105, qa .iaload 1), (106, qk (.iconst 1) 1 (nI 1)), (107, qj (.if_icmp .ne 30) 3 137 [false, false, false, false, false, false]), (110, qa (.aload_n 0) 1), (111, qa (.iload 4) 2), (113, qa (.iload 4) 2)]),
  (131, [(115, qc (.invokevirtual 116) 3 36 3 1 [4, 7, 9]), (118, qj (.ifCond .ne 5) 3 123 [true, true, false, false, true, true]), (121, qk (.iconst 0) 1 (nI 0)), (122, qm [true, true, false, false, true, true] (qf .ireturn 1 0 0 1)), (123, qa (.aload_n 1) 1), (124, qa (.aload_n 0) 1), (125, qf (.getfield 35) 3 9 6 0), (128, qc (.invokevirtual 137) 3 41 2 0 [1, 3, 8])]),
  (139, [(131, qk (.iinc 5 1) 3 (nI 1)), (134, qj (.goto (-47)) 3 87 [true, true, false, false, true, true]), (137, qk (.iconst 1) 1 (nI 1)), (138, qf .ireturn 1 0 0 1)])]
-- 43 TinStencils$Teller.takePlace(LTinStencils$Sheet;)Z
def tb_43 : qz_B := [(14, [(0, qa (.aload_n 0) 1), (1, qk (.iconst 0) 1 (nI 0)), (2, qa (.aload_n 1) 1), (3, qf (.getfield 113) 3 8 1 0), (6, qk (.iconst 1) 1 (nI 1)), (7, qa .isub 1), (8, qc (.invokevirtual 71) 3 30 3 1 [1, 4, 9]), (11, qj (.ifCond .ne 5) 3 16 [])]),
  (26, [(14, qk (.iconst 0) 1 (nI 0)), (15, qf .ireturn 1 0 0 1), (16, qa (.aload_n 0) 1), (17, qa (.aload_n 0) 1), (18, qf (.getfield 26) 3 9 3 0), (21, qf (.putfield 29) 3 9 4 0), (24, qa (.aload_n 0) 1), (25, qk (.iconst 0) 1 (nI 0))]),
  (40, [(26, qa (.aload_n 1) 1), (27, qf (.getfield 110) 3 8 2 0), (30, qk (.iconst 1) 1 (nI 1)), (31, qa .isub 1), (32, qc (.invokevirtual 71) 3 30 3 1 [1, 4, 9]), (35, qj (.ifCond .ne 5) 3 40 [true, false]), (38, qk (.iconst 0) 1 (nI 0)), (39, qm [true, false] (qf .ireturn 1 0 0 1))]),
  (50, [(40, qa (.aload_n 0) 1), (41, qa (.aload_n 0) 1), (42, qf (.getfield 26) 3 9 3 0), (45, qf (.putfield 32) 3 9 5 0), (48, qk (.iconst 1) 1 (nI 1)), (49, qf .ireturn 1 0 0 1)])]
-- 44 TinStencils.turnedX(IIIII)I
def tb_44 : qz_B := [(34, [(0, qa (.iload 4) 2), (2, qs (.tableswitch 40 1 3 #[26, 32, 38]) 26 42 1 [true, true, true, true, false] [28, 34, 40]), (28, qa (.iload_n 3) 1), (29, qk (.iconst 1) 1 (nI 1)), (30, qa .isub 1), (31, qa (.iload_n 1) 1), (32, qa .isub 1), (33, qm [true, false, true, false, false] (qa .ireturn 1))]),
  (42, [(34, qa (.iload_n 2) 1), (35, qk (.iconst 1) 1 (nI 1)), (36, qa .isub 1), (37, qa (.iload_n 0) 1), (38, qa .isub 1), (39, qm [false, true, false, false, false] (qa .ireturn 1)), (40, qa (.iload_n 1) 1), (41, qm [true, false, false, false, false] (qa .ireturn 1))]),
  (44, [(42, qa (.iload_n 0) 1), (43, qa .ireturn 1)])]
-- 45 TinStencils.turnedY(IIIII)I
def tb_45 : qz_B := [(34, [(0, qa (.iload 4) 2), (2, qs (.tableswitch 40 1 3 #[26, 28, 34]) 26 42 1 [true, true, true, true, false] [28, 30, 36]), (28, qa (.iload_n 0) 1), (29, qm [false, true, false, true, false] (qa .ireturn 1)), (30, qa (.iload_n 3) 1), (31, qk (.iconst 1) 1 (nI 1)), (32, qa .isub 1), (33, qa (.iload_n 1) 1)]),
  (42, [(34, qa .isub 1), (35, qm [true, false, true, false, false] (qa .ireturn 1)), (36, qa (.iload_n 2) 1), (37, qk (.iconst 1) 1 (nI 1)), (38, qa .isub 1), (39, qa (.iload_n 0) 1), (40, qa .isub 1), (41, qm [false, true, false, false, false] (qa .ireturn 1))]),
  (44, [(42, qa (.iload_n 1) 1), (43, qa .ireturn 1)])]
-- 46 TinStencils$Sheet.has(II)Z
def tb_46 : qz_B := [(16, [(0, qa (.iload_n 1) 1), (1, qj (.ifCond .lt 27) 3 28 [false, false, false]), (4, qa (.iload_n 1) 1), (5, qa (.aload_n 0) 1), (6, qf (.getfield 15) 3 8 1 0), (9, qj (.if_icmp .ge 19) 3 28 [false, false, false]), (12, qa (.iload_n 2) 1), (13, qj (.ifCond .lt 15) 3 28 [false, false, false])]),
  (30, [(16, qa (.iload_n 2) 1), (17, qa (.aload_n 0) 1), (18, qf (.getfield 19) 3 8 2 0), (21, qj (.if_icmp .ge 7) 3 28 [false, false, false]), (24, qk (.iconst 1) 1 (nI 1)), (25, qj (.goto 4) 3 29 [false, false, false]), (28, qm [false, false, false] (qk (.iconst 0) 1 (nI 0))), (29, qf .ireturn 1 0 0 1)])]
-- 47 TinStencils$Sheet.setThrough(IIZ)V
def tb_47 : qz_B := [(14, [(0, qa (.aload_n 0) 1), (1, qa (.iload_n 1) 1), (2, qa (.iload_n 2) 1), (3, qc (.invokevirtual 79) 3 46 3 1 [0, 3, 8]), (6, qj (.ifCond .eq 38) 3 44 [false, false, false, false]), (9, qa (.aload_n 0) 1), (10, qf (.getfield 34) 3 8 7 1), (13, qa (.iload_n 2) 1)]),
  (26, [(14, qa (.iload_n 3) 1), (15, qj (.ifCond .eq 16) 3 31 [true, true, true, false]), (18, qa (.aload_n 0) 1), (19, qf (.getfield 34) 3 8 7 1), (22, qa (.iload_n 2) 1), (23, qa .iaload 1), (24, qk (.iconst 1) 1 (nI 1)), (25, qa (.iload_n 1) 1)]),
  (38, [(26, qa .ishl 1), (27, qa .ior 1), (28, qj (.goto 15) 3 43 [false, false, false, false]), (31, qa (.aload_n 0) 1), (32, qf (.getfield 34) 3 8 7 1), (35, qa (.iload_n 2) 1), (36, qa .iaload 1), (37, qk (.iconst 1) 1 (nI 1))]),
  (45, [(38, qa (.iload_n 1) 1), (39, qa .ishl 1), (40, qk (.iconst (-1)) 1 (-1)), (41, qa .ixor 1), (42, qm [false, false, false, false] (qa .iand 1)), (43, qm [false, false, false, false] (qa .iastore 1)), (44, qa .return_ 1)])]
-- 48 TinStencils$Sheet.putShape(IIII)V
def tb_48 : qz_B := [(14, [(0, qk (.iconst 0) 1 (nI 0)), (1, qm [true, true, true, true, true, true, false, false, false] (qa (.istore 5) 2)), (3, qa (.iload 5) 2), (5, qa (.aload_n 0) 1), (6, qf (.getfield 54) 3 8 12 1), (9, qa (.iload_n 1) 1), (10, qa .iaload 1), (11, qj (.if_icmp .ge 108) 3 119 [false, false, false, false, false, false, false, false, false])]),
  (28, [(14, qk (.iconst 0) 1 (nI 0)), (15, qm [true, true, true, true, true, true, true, false, false] (qa (.istore 6) 2)), (17, qa (.iload 6) 2), (19, qa (.aload_n 0) 1), (20, qf (.getfield 51) 3 8 11 1), (23, qa (.iload_n 1) 1), (24, qa .iaload 1), (25, qj (.if_icmp .ge 88) 3 113 [true, true, true, true, true, true, false, false, false])]),
  (40, [(28, qa (.aload_n 0) 1), (29, qf (.getfield 57) 3 8 13 1), (32, qa (.iload_n 1) 1), (33, qk (.bipush 8) 2 (nI 8)), (35, qa .imul 1), (36, qa (.iload 5) 2), (38, qa .iadd 1), (39, qa .iaload 1)]),
  (53, [(40, qa (.iload 6) 2), (42, qa .ishr 1), (43, qk (.iconst 1) 1 (nI 1)), (44, qa .iand 1), (45, qj (.ifCond .eq 62) 3 107 [true, true, true, true, true, true, true, false, false]), (48, qa (.iload_n 2) 1), (49, qa (.iload 6) 2), (51, qa (.iload 5) 2)]),
  (65, [(53, qa (.aload_n 0) 1), (54, qf (.getfield 51) 3 8 11 1), (57, qa (.iload_n 1) 1), (58, qa .iaload 1), (59, qa (.aload_n 0) 1), (60, qf (.getfield 54) 3 8 12 1), (63, qa (.iload_n 1) 1), (64, qa .iaload 1)]),
  (79, [(65, qa (.iload 4) 2), (67, qc (.invokestatic 115) 3 44 5 1 [0, 5]), (70, qa .iadd 1), (71, qa (.istore 7) 2), (73, qa (.iload_n 3) 1), (74, qa (.iload 6) 2), (76, qa (.iload 5) 2), (78, qa (.aload_n 0) 1)]),
  (92, [(79, qf (.getfield 51) 3 8 11 1), (82, qa (.iload_n 1) 1), (83, qa .iaload 1), (84, qa (.aload_n 0) 1), (85, qf (.getfield 54) 3 8 12 1), (88, qa (.iload_n 1) 1), (89, qa .iaload 1), (90, qa (.iload 4) 2)]),
  (107, [(92, qc (.invokestatic 119) 3 45 5 1 [0, 5]), (95, qa .iadd 1), (96, qa (.istore 8) 2), (98, qa (.aload_n 0) 1), (99, qa (.iload 7) 2), (101, qa (.iload 8) 2), (103, qk (.iconst 1) 1 (nI 1)), (104, qm [true, true, true, true, true, true, true, false, false] (qc (.invokevirtual 122) 3 47 4 0 [0, 4, 8]))]),
  (120, [(107, qk (.iinc 6 1) 3 (nI 1)), (110, qj (.goto (-93)) 3 17 [true, true, true, true, true, true, true, false, false]), (113, qk (.iinc 5 1) 3 (nI 1)), (116, qj (.goto (-113)) 3 3 [true, true, true, true, true, true, false, false, false]), (119, qa .return_ 1)])]
-- 49 TinStencils$Teller.tellPut(LTinStencils$Sheet;)Z
def tb_49 : qz_B := [(12, [(0, qa (.aload_n 0) 1), (1, qa (.aload_n 0) 1), (2, qc (.invokevirtual 122) 3 38 1 2 [3, 4, 9]), (5, qa (.aload_n 1) 1), (6, qc (.invokevirtual 129) 3 39 3 1 [1, 5, 9]), (9, qa (.istore_n 2) 1), (10, qa (.iload_n 2) 1), (11, qk (.iconst (-1)) 1 (-1))]),
  (24, [(12, qj (.if_icmp .ne 5) 3 17 [true, true, true, false]), (15, qk (.iconst 0) 1 (nI 0)), (16, qm [true, true, true, false] (qf .ireturn 1 0 0 1)), (17, qa (.aload_n 0) 1), (18, qa .dup 1), (19, qf (.getfield 22) 3 9 2 0), (22, qk (.iconst 1) 1 (nI 1)), (23, qa .iadd 1)]),
  (38, [(24, qf (.putfield 22) 3 9 2 0), (27, qa (.aload_n 0) 1), (28, qa (.aload_n 1) 1), (29, qc (.invokevirtual 140) 3 43 2 1 [0, 2, 9]), (32, qj (.ifCond .ne 5) 3 37 [true, true, true, false]), (35, qk (.iconst 0) 1 (nI 0)), (36, qm [true, true, true, false] (qf .ireturn 1 0 0 1)), (37, qk (.iconst 0) 1 (nI 0))]),
  (50, [(38, qa (.istore_n 3) 1), (39, qa (.aload_n 0) 1), (40, qk (.iconst 4) 1 (nI 4)), (41, qc (.invokevirtual 68) 3 29 2 1 [0, 2, 9]), (44, qj (.ifCond .eq 19) 3 63 []), (47, qa (.aload_n 0) 1), (48, qk (.iconst 0) 1 (nI 0)), (49, qk (.iconst 3) 1 (nI 3))]),
  (64, [(50, qc (.invokevirtual 71) 3 30 3 1 [1, 4, 9]), (53, qj (.ifCond .ne 5) 3 58 [true, true, true, false]), (56, qk (.iconst 0) 1 (nI 0)), (57, qm [true, true, true, false] (qf .ireturn 1 0 0 1)), (58, qa (.aload_n 0) 1), (59, qf (.getfield 26) 3 9 3 0), (62, qa (.istore_n 3) 1), (63, qa (.aload_n 1) 1)]),
  (78, [(64, qa (.iload_n 2) 1), (65, qa (.aload_n 0) 1), (66, qf (.getfield 29) 3 9 4 0), (69, qa (.aload_n 0) 1), (70, qf (.getfield 32) 3 9 5 0), (73, qa (.iload_n 3) 1), (74, qc (.invokevirtual 143) 3 48 5 0 [4, 9, 8]), (77, qk (.iconst 1) 1 (nI 1))]),
  (79, [(78, qf .ireturn 1 0 0 1)])]
-- 50 TinStencils$Teller.takeSide()Z
def tb_50 : qz_B := [(16, [(0, qa (.aload_n 0) 1), (1, qf (.getfield 12) 3 9 0 1), (4, qf (.getfield 49) 3 10 1 1), (7, qa (.aload_n 0) 1), (8, qf (.getfield 22) 3 9 2 0), (11, qa .iaload 1), (12, qk (.iconst 1) 1 (nI 1)), (13, qj (.if_icmp .ne 20) 3 33 [false])]),
  (33, [(16, qa (.aload_n 0) 1), (17, qf (.getfield 12) 3 9 0 1), (20, qf (.getfield 197) 3 10 4 1), (23, qa (.aload_n 0) 1), (24, qf (.getfield 22) 3 9 2 0), (27, qa .iaload 1), (28, qk (.bipush 16) 2 (nI 16)), (30, qm [false] (qj (.if_icmp .ge 5) 3 35 []))]),
  (47, [(33, qk (.iconst 0) 1 (nI 0)), (34, qf .ireturn 1 0 0 1), (35, qa (.aload_n 0) 1), (36, qa (.aload_n 0) 1), (37, qf (.getfield 12) 3 9 0 1), (40, qf (.getfield 197) 3 10 4 1), (43, qa (.aload_n 0) 1), (44, qf (.getfield 22) 3 9 2 0)]),
  (60, [(47, qa .iaload 1), (48, qk (.bipush 16) 2 (nI 16)), (50, qa .isub 1), (51, qf (.putfield 26) 3 9 3 0), (54, qa (.aload_n 0) 1), (55, qa .dup 1), (56, qf (.getfield 22) 3 9 2 0), (59, qk (.iconst 1) 1 (nI 1))]),
  (66, [(60, qa .iadd 1), (61, qf (.putfield 22) 3 9 2 0), (64, qk (.iconst 1) 1 (nI 1)), (65, qf .ireturn 1 0 0 1)])]
-- 51 TinStencils$Teller.tellHold(LTinStencils$Sheet;)Z
def tb_51 : qz_B := [(12, [(0, qa (.aload_n 0) 1), (1, qc (.invokevirtual 147) 3 50 1 1 [0, 1, 9]), (4, qj (.ifCond .ne 5) 3 9 [true, true, false]), (7, qk (.iconst 0) 1 (nI 0)), (8, qm [true, true, false] (qf .ireturn 1 0 0 1)), (9, qa (.aload_n 1) 1), (10, qk (.iconst 1) 1 (nI 1)), (11, qa (.aload_n 0) 1)]),
  (28, [(12, qf (.getfield 26) 3 9 3 0), (15, qa .ishl 1), (16, qf (.putfield 151) 3 8 4 0), (19, qk (.iconst 0) 1 (nI 0)), (20, qa (.istore_n 2) 1), (21, qa (.iload_n 2) 1), (22, qk (.sipush 1200) 3 (nI 1200)), (25, qj (.if_icmp .ge 31) 3 56 [false, false, false])]),
  (42, [(28, qa (.aload_n 0) 1), (29, qc (.invokevirtual 147) 3 50 1 1 [0, 1, 9]), (32, qj (.ifCond .eq 24) 3 56 [false, false, false]), (35, qa (.aload_n 1) 1), (36, qa .dup 1), (37, qf (.getfield 151) 3 8 4 0), (40, qk (.iconst 1) 1 (nI 1)), (41, qa (.aload_n 0) 1)]),
  (58, [(42, qf (.getfield 26) 3 9 3 0), (45, qa .ishl 1), (46, qa .ior 1), (47, qf (.putfield 151) 3 8 4 0), (50, qk (.iinc 2 1) 3 (nI 1)), (53, qj (.goto (-32)) 3 21 []), (56, qk (.iconst 1) 1 (nI 1)), (57, qf .ireturn 1 0 0 1)])]
-- 52 TinStencils$Sheet.setWorth(III)V
def tb_52 : qz_B := [(14, [(0, qa (.aload_n 0) 1), (1, qa (.iload_n 1) 1), (2, qa (.iload_n 2) 1), (3, qc (.invokevirtual 79) 3 46 3 1 [0, 3, 8]), (6, qj (.ifCond .eq 15) 3 21 [false, false, false, false]), (9, qa (.aload_n 0) 1), (10, qf (.getfield 38) 3 8 8 1), (13, qa (.iload_n 2) 1)]),
  (22, [(14, qk (.bipush 20) 2 (nI 20)), (16, qa .imul 1), (17, qa (.iload_n 1) 1), (18, qa .iadd 1), (19, qa (.iload_n 3) 1), (20, qm [false, false, false, false] (qa .iastore 1)), (21, qa .return_ 1)])]
-- 53 TinStencils$Teller.tellWorth(LTinStencils$Sheet;)Z
def tb_53 : qz_B := [(17, [(0, qa (.aload_n 0) 1), (1, qa (.aload_n 1) 1), (2, qc (.invokevirtual 140) 3 43 2 1 [0, 2, 9]), (5, qj (.ifCond .eq 12) 3 17 [false, false, false, false, false, false, false, false]), (8, qa (.aload_n 0) 1), (9, qk (.bipush 7) 2 (nI 7)), (11, qc (.invokevirtual 68) 3 29 2 1 [0, 2, 9]), (14, qm [false, false, false, false, false, false, false, false] (qj (.ifCond .ne 5) 3 19 [true, true, false, false, false, false, false, false]))]),
  (29, [(17, qk (.iconst 0) 1 (nI 0)), (18, qm [true, true, false, false, false, false, false, false] (qf .ireturn 1 0 0 1)), (19, qa (.aload_n 0) 1), (20, qf (.getfield 29) 3 9 4 0), (23, qa (.istore_n 2) 1), (24, qa (.aload_n 0) 1), (25, qf (.getfield 32) 3 9 5 0), (28, qa (.istore_n 3) 1)]),
  (43, [(29, qa (.aload_n 0) 1), (30, qa (.iload_n 2) 1), (31, qa (.aload_n 1) 1), (32, qf (.getfield 113) 3 8 1 0), (35, qk (.iconst 1) 1 (nI 1)), (36, qa .isub 1), (37, qc (.invokevirtual 71) 3 30 3 1 [1, 4, 9]), (40, qj (.ifCond .ne 5) 3 45 [true, true, true, true, false, false, false, false])]),
  (54, [(43, qk (.iconst 0) 1 (nI 0)), (44, qm [true, true, true, true, false, false, false, false] (qf .ireturn 1 0 0 1)), (45, qa (.aload_n 0) 1), (46, qf (.getfield 26) 3 9 3 0), (49, qa (.istore 4) 2), (51, qa (.aload_n 0) 1), (52, qa (.iload_n 3) 1), (53, qa (.aload_n 1) 1)]),
  (68, [(54, qf (.getfield 110) 3 8 2 0), (57, qk (.iconst 1) 1 (nI 1)), (58, qa .isub 1), (59, qc (.invokevirtual 71) 3 30 3 1 [1, 4, 9]), (62, qj (.ifCond .ne 5) 3 67 [true, true, true, true, true, false, false, false]), (65, qk (.iconst 0) 1 (nI 0)), (66, qm [true, true, true, true, true, false, false, false] (qf .ireturn 1 0 0 1)), (67, qa (.aload_n 0) 1)]),
  (84, [(68, qf (.getfield 26) 3 9 3 0), (71, qa (.istore 5) 2), (73, qa (.aload_n 0) 1), (74, qk (.iconst 0) 1 (nI 0)), (75, qk (.bipush 99) 2 (nI 99)), (77, qc (.invokevirtual 71) 3 30 3 1 [1, 4, 9]), (80, qj (.ifCond .ne 5) 3 85 [true, true, true, true, true, true, false, false]), (83, qk (.iconst 0) 1 (nI 0))]),
  (98, [(84, qm [true, true, true, true, true, true, false, false] (qf .ireturn 1 0 0 1)), (85, qa (.iload_n 3) 1), (86, qm [true, true, true, false, true, true, true, false] (qa (.istore 6) 2)), (88, qa (.iload 6) 2), (90, qa (.iload 5) 2), (92, qj (.if_icmp .gt 37) 3 129 [false, false, false, false, false, false, false, false]), (95, qa (.iload_n 2) 1), (96, qm [true, true, true, false, true, true, true, true] (qa (.istore 7) 2))]),
  (114, [(98, qa (.iload 7) 2), (100, qa (.iload 4) 2), (102, qj (.if_icmp .gt 21) 3 123 [true, true, true, false, true, true, true, false]), (105, qa (.aload_n 1) 1), (106, qa (.iload 7) 2), (108, qa (.iload 6) 2), (110, qa (.aload_n 0) 1), (111, qf (.getfield 26) 3 9 3 0)]),
  (131, [(114, qc (.invokevirtual 154) 3 52 4 0 [0, 4, 8]), (117, qk (.iinc 7 1) 3 (nI 1)), (120, qj (.goto (-22)) 3 98 [true, true, true, false, true, true, true, true]), (123, qk (.iinc 6 1) 3 (nI 1)), (126, qj (.goto (-38)) 3 88 [true, true, true, false, true, true, true, false]), (129, qk (.iconst 1) 1 (nI 1)), (130, qf .ireturn 1 0 0 1)])]
-- 54 TinStencils$Teller.tellBrush(LTinStencils$Sheet;)Z
def tb_54 : qz_B := [(14, [(0, qa (.aload_n 0) 1), (1, qk (.iconst 0) 1 (nI 0)), (2, qk (.sipush 400) 3 (nI 400)), (5, qc (.invokevirtual 71) 3 30 3 1 [1, 4, 9]), (8, qj (.ifCond .ne 5) 3 13 []), (11, qk (.iconst 0) 1 (nI 0)), (12, qf .ireturn 1 0 0 1), (13, qa (.aload_n 1) 1)]),
  (23, [(14, qa (.aload_n 0) 1), (15, qf (.getfield 26) 3 9 3 0), (18, qf (.putfield 158) 3 8 5 0), (21, qk (.iconst 1) 1 (nI 1)), (22, qf .ireturn 1 0 0 1)])]
-- 55 TinStencils$Teller.tellWear(LTinStencils$Sheet;)Z
def tb_55 : qz_B := [(14, [(0, qa (.aload_n 0) 1), (1, qk (.iconst 0) 1 (nI 0)), (2, qk (.sipush 999) 3 (nI 999)), (5, qc (.invokevirtual 71) 3 30 3 1 [1, 4, 9]), (8, qj (.ifCond .ne 5) 3 13 []), (11, qk (.iconst 0) 1 (nI 0)), (12, qf .ireturn 1 0 0 1), (13, qa (.aload_n 1) 1)]),
  (23, [(14, qa (.aload_n 0) 1), (15, qf (.getfield 26) 3 9 3 0), (18, qf (.putfield 161) 3 8 6 0), (21, qk (.iconst 1) 1 (nI 1)), (22, qf .ireturn 1 0 0 1)])]
-- 56 TinStencils$Bridges.open(II)V
def tb_56 : qz_B := [(17, [(0, qa (.aload_n 0) 1), (1, qf (.getfield 9) 3 0 0 0), (4, qk (.bipush 12) 2 (nI 12)), (6, qj (.if_icmp .ge 48) 3 54 [false, false, false]), (9, qa (.aload_n 0) 1), (10, qf (.getfield 21) 3 0 3 1), (13, qa (.aload_n 0) 1), (14, qf (.getfield 9) 3 0 0 0)]),
  (29, [(17, qa (.iload_n 1) 1), (18, qa .iastore 1), (19, qa (.aload_n 0) 1), (20, qf (.getfield 25) 3 0 4 1), (23, qa (.aload_n 0) 1), (24, qf (.getfield 9) 3 0 0 0), (27, qa (.iload_n 2) 1), (28, qa .iastore 1)]),
  (41, [(29, qa (.aload_n 0) 1), (30, qa .dup 1), (31, qf (.getfield 15) 3 0 1 0), (34, qk (.iconst 1) 1 (nI 1)), (35, qa (.aload_n 0) 1), (36, qf (.getfield 9) 3 0 0 0), (39, qa .ishl 1), (40, qa .ior 1)]),
  (55, [(41, qf (.putfield 15) 3 0 1 0), (44, qa (.aload_n 0) 1), (45, qa .dup 1), (46, qf (.getfield 9) 3 0 0 0), (49, qk (.iconst 1) 1 (nI 1)), (50, qa .iadd 1), (51, qm [false, false, false] (qf (.putfield 9) 3 0 0 0)), (54, qa .return_ 1)])]
-- 57 TinStencils$Bridges.addSquare(II)V
def tb_57 : qz_B := [(16, [(0, qa (.aload_n 0) 1), (1, qf (.getfield 9) 3 0 0 0), (4, qj (.ifCond .le 25) 3 29 [false, false, false]), (7, qa (.aload_n 0) 1), (8, qf (.getfield 28) 3 0 5 1), (11, qa (.aload_n 0) 1), (12, qf (.getfield 9) 3 0 0 0), (15, qk (.iconst 1) 1 (nI 1))]),
  (25, [(16, qa .isub 1), (17, qk (.bipush 20) 2 (nI 20)), (19, qa .imul 1), (20, qa (.iload_n 2) 1), (21, qa .iadd 1), (22, qa .dup2 1), (23, qa .iaload 1), (24, qk (.iconst 1) 1 (nI 1))]),
  (30, [(25, qa (.iload_n 1) 1), (26, qa .ishl 1), (27, qa .ior 1), (28, qm [false, false, false] (qa .iastore 1)), (29, qa .return_ 1)])]
-- 58 TinStencils$Sheet.bridgeLine(IIII)V
def tb_58 : qz_B := [(16, [(0, qk (.iconst 0) 1 (nI 0)), (1, qm [true, true, true, true, true, true, false, false] (qa (.istore 5) 2)), (3, qa (.iload 5) 2), (5, qa (.iload 4) 2), (7, qj (.if_icmp .ge 55) 3 62 [false, false, false, false, false, false, false, false]), (10, qa (.iload_n 1) 1), (11, qa (.iload 5) 2), (13, qf (.getstatic 126) 3 1000001 0 1)]),
  (28, [(16, qa (.iload_n 3) 1), (17, qa .iaload 1), (18, qa .imul 1), (19, qa .iadd 1), (20, qa (.istore 6) 2), (22, qa (.iload_n 2) 1), (23, qa (.iload 5) 2), (25, qf (.getstatic 129) 3 1000002 0 1)]),
  (39, [(28, qa (.iload_n 3) 1), (29, qa .iaload 1), (30, qa .imul 1), (31, qa .iadd 1), (32, qa (.istore 7) 2), (34, qa (.aload_n 0) 1), (35, qa (.iload 6) 2), (37, qa (.iload 7) 2)]),
  (59, [(39, qc (.invokevirtual 79) 3 46 3 1 [0, 3, 8]), (42, qj (.ifCond .eq 14) 3 56 [true, true, true, true, true, true, false, false]), (45, qa (.aload_n 0) 1), (46, qf (.getfield 44) 3 8 9 1), (49, qa (.iload 6) 2), (51, qa (.iload 7) 2), (53, qm [true, true, true, true, true, true, false, false] (qc (.invokevirtual 132) 3 57 3 0 [0, 3, 0])), (56, qk (.iinc 5 1) 3 (nI 1))]),
  (63, [(59, qj (.goto (-56)) 3 3 [true, true, true, true, true, true, false, false]), (62, qa .return_ 1)])]
-- 59 TinStencils$Teller.tellStraight(LTinStencils$Sheet;)Z
def tb_59 : qz_B := [(16, [(0, qa (.aload_n 0) 1), (1, qa (.aload_n 1) 1), (2, qc (.invokevirtual 140) 3 43 2 1 [0, 2, 9]), (5, qj (.ifCond .eq 10) 3 15 [false, false, false]), (8, qa (.aload_n 0) 1), (9, qc (.invokevirtual 147) 3 50 1 1 [0, 1, 9]), (12, qm [false, false, false] (qj (.ifCond .ne 5) 3 17 [true, true, false])), (15, qk (.iconst 0) 1 (nI 0))]),
  (29, [(16, qm [true, true, false] (qf .ireturn 1 0 0 1)), (17, qa (.aload_n 0) 1), (18, qf (.getfield 26) 3 9 3 0), (21, qa (.istore_n 2) 1), (22, qa (.aload_n 0) 1), (23, qk (.iconst 1) 1 (nI 1)), (24, qk (.bipush 20) 2 (nI 20)), (26, qc (.invokevirtual 71) 3 30 3 1 [1, 4, 9])]),
  (44, [(29, qj (.ifCond .ne 5) 3 34 []), (32, qk (.iconst 0) 1 (nI 0)), (33, qf .ireturn 1 0 0 1), (34, qa (.aload_n 1) 1), (35, qf (.getfield 100) 3 8 9 1), (38, qk (.iconst 0) 1 (nI 0)), (39, qk (.bipush 100) 2 (nI 100)), (41, qc (.invokevirtual 179) 3 56 3 0 [0, 3, 0])]),
  (58, [(44, qa (.aload_n 1) 1), (45, qa (.aload_n 0) 1), (46, qf (.getfield 29) 3 9 4 0), (49, qa (.aload_n 0) 1), (50, qf (.getfield 32) 3 9 5 0), (53, qa (.iload_n 2) 1), (54, qa (.aload_n 0) 1), (55, qf (.getfield 26) 3 9 3 0)]),
  (63, [(58, qc (.invokevirtual 182) 3 58 5 0 [3, 8, 8]), (61, qk (.iconst 1) 1 (nI 1)), (62, qf .ireturn 1 0 0 1)])]
-- 60 TinStencils$Teller.tellBroad(LTinStencils$Sheet;)Z
def tb_60 : qz_B := [(16, [(0, qa (.aload_n 0) 1), (1, qa (.aload_n 1) 1), (2, qc (.invokevirtual 140) 3 43 2 1 [0, 2, 9]), (5, qj (.ifCond .eq 10) 3 15 [false, false, false, false, false, false]), (8, qa (.aload_n 0) 1), (9, qc (.invokevirtual 147) 3 50 1 1 [0, 1, 9]), (12, qm [false, false, false, false, false, false] (qj (.ifCond .ne 5) 3 17 [true, true, false, false, false, false])), (15, qk (.iconst 0) 1 (nI 0))]),
  (29, [(16, qm [true, true, false, false, false, false] (qf .ireturn 1 0 0 1)), (17, qa (.aload_n 0) 1), (18, qf (.getfield 26) 3 9 3 0), (21, qa (.istore_n 2) 1), (22, qa (.aload_n 0) 1), (23, qk (.iconst 1) 1 (nI 1)), (24, qk (.bipush 20) 2 (nI 20)), (26, qc (.invokevirtual 71) 3 30 3 1 [1, 4, 9])]),
  (41, [(29, qj (.ifCond .ne 5) 3 34 [true, true, true, false, false, false]), (32, qk (.iconst 0) 1 (nI 0)), (33, qm [true, true, true, false, false, false] (qf .ireturn 1 0 0 1)), (34, qa (.aload_n 0) 1), (35, qf (.getfield 26) 3 9 3 0), (38, qa (.istore_n 3) 1), (39, qa (.aload_n 0) 1), (40, qk (.iconst 2) 1 (nI 2))]),
  (55, [(41, qk (.iconst 4) 1 (nI 4)), (42, qc (.invokevirtual 71) 3 30 3 1 [1, 4, 9]), (45, qj (.ifCond .ne 5) 3 50 [true, true, true, true, false, false]), (48, qk (.iconst 0) 1 (nI 0)), (49, qm [true, true, true, true, false, false] (qf .ireturn 1 0 0 1)), (50, qa (.aload_n 1) 1), (51, qf (.getfield 100) 3 8 9 1), (54, qk (.iconst 1) 1 (nI 1))]),
  (68, [(55, qk (.bipush 100) 2 (nI 100)), (57, qa (.aload_n 0) 1), (58, qf (.getfield 26) 3 9 3 0), (61, qa .imul 1), (62, qc (.invokevirtual 179) 3 56 3 0 [0, 3, 0]), (65, qa (.iload_n 2) 1), (66, qk (.iconst 1) 1 (nI 1)), (67, qa .iadd 1)]),
  (81, [(68, qk (.iconst 4) 1 (nI 4)), (69, qa .irem 1), (70, qa (.istore 4) 2), (72, qk (.iconst 0) 1 (nI 0)), (73, qa (.istore 5) 2), (75, qa (.iload 5) 2), (77, qa (.aload_n 0) 1), (78, qf (.getfield 26) 3 9 3 0)]),
  (97, [(81, qj (.if_icmp .ge 43) 3 124 [false, false, false, false, false, false]), (84, qa (.aload_n 1) 1), (85, qa (.aload_n 0) 1), (86, qf (.getfield 29) 3 9 4 0), (89, qa (.iload 5) 2), (91, qf (.getstatic 185) 3 1000001 0 1), (94, qa (.iload 4) 2), (96, qa .iaload 1)]),
  (111, [(97, qa .imul 1), (98, qa .iadd 1), (99, qa (.aload_n 0) 1), (100, qf (.getfield 32) 3 9 5 0), (103, qa (.iload 5) 2), (105, qf (.getstatic 188) 3 1000002 0 1), (108, qa (.iload 4) 2), (110, qa .iaload 1)]),
  (125, [(111, qa .imul 1), (112, qa .iadd 1), (113, qa (.iload_n 2) 1), (114, qa (.iload_n 3) 1), (115, qc (.invokevirtual 182) 3 58 5 0 [3, 8, 8]), (118, qk (.iinc 5 1) 3 (nI 1)), (121, qj (.goto (-46)) 3 75 []), (124, qk (.iconst 1) 1 (nI 1))]),
  (126, [(125, qf .ireturn 1 0 0 1)])]
-- 61 TinStencils$Teller.tellCorner(LTinStencils$Sheet;)Z
def tb_61 : qz_B := [(16, [(0, qa (.aload_n 0) 1), (1, qa (.aload_n 1) 1), (2, qc (.invokevirtual 140) 3 43 2 1 [0, 2, 9]), (5, qj (.ifCond .eq 10) 3 15 [false, false, false, false, false, false, false]), (8, qa (.aload_n 0) 1), (9, qc (.invokevirtual 147) 3 50 1 1 [0, 1, 9]), (12, qm [false, false, false, false, false, false, false] (qj (.ifCond .ne 5) 3 17 [true, true, false, false, false, false, false])), (15, qk (.iconst 0) 1 (nI 0))]),
  (29, [(16, qm [true, true, false, false, false, false, false] (qf .ireturn 1 0 0 1)), (17, qa (.aload_n 0) 1), (18, qf (.getfield 26) 3 9 3 0), (21, qa (.istore_n 2) 1), (22, qa (.aload_n 0) 1), (23, qk (.iconst 1) 1 (nI 1)), (24, qk (.bipush 20) 2 (nI 20)), (26, qc (.invokevirtual 71) 3 30 3 1 [1, 4, 9])]),
  (43, [(29, qj (.ifCond .ne 5) 3 34 [true, true, true, false, false, false, false]), (32, qk (.iconst 0) 1 (nI 0)), (33, qm [true, true, true, false, false, false, false] (qf .ireturn 1 0 0 1)), (34, qa (.aload_n 0) 1), (35, qf (.getfield 26) 3 9 3 0), (38, qa (.istore_n 3) 1), (39, qa (.aload_n 0) 1), (40, qc (.invokevirtual 147) 3 50 1 1 [0, 1, 9])]),
  (56, [(43, qj (.ifCond .ne 5) 3 48 [true, true, true, true, false, false, false]), (46, qk (.iconst 0) 1 (nI 0)), (47, qm [true, true, true, true, false, false, false] (qf .ireturn 1 0 0 1)), (48, qa (.aload_n 0) 1), (49, qf (.getfield 26) 3 9 3 0), (52, qa (.istore 4) 2), (54, qa (.aload_n 0) 1), (55, qk (.iconst 1) 1 (nI 1))]),
  (71, [(56, qk (.bipush 20) 2 (nI 20)), (58, qc (.invokevirtual 71) 3 30 3 1 [1, 4, 9]), (61, qj (.ifCond .ne 5) 3 66 [true, true, true, true, true, false, false]), (64, qk (.iconst 0) 1 (nI 0)), (65, qm [true, true, true, true, true, false, false] (qf .ireturn 1 0 0 1)), (66, qa (.aload_n 1) 1), (67, qf (.getfield 100) 3 8 9 1), (70, qk (.iconst 2) 1 (nI 2))]),
  (86, [(71, qk (.bipush 80) 2 (nI 80)), (73, qc (.invokevirtual 179) 3 56 3 0 [0, 3, 0]), (76, qa (.aload_n 1) 1), (77, qa (.aload_n 0) 1), (78, qf (.getfield 29) 3 9 4 0), (81, qa (.aload_n 0) 1), (82, qf (.getfield 32) 3 9 5 0), (85, qa (.iload_n 2) 1)]),
  (100, [(86, qa (.iload_n 3) 1), (87, qc (.invokevirtual 182) 3 58 5 0 [3, 8, 8]), (90, qa (.aload_n 0) 1), (91, qf (.getfield 29) 3 9 4 0), (94, qa (.iload_n 3) 1), (95, qk (.iconst 1) 1 (nI 1)), (96, qa .isub 1), (97, qf (.getstatic 185) 3 1000001 0 1)]),
  (111, [(100, qa (.iload_n 2) 1), (101, qa .iaload 1), (102, qa .imul 1), (103, qa .iadd 1), (104, qa (.istore 5) 2), (106, qa (.aload_n 0) 1), (107, qf (.getfield 32) 3 9 5 0), (110, qa (.iload_n 3) 1)]),
  (122, [(111, qk (.iconst 1) 1 (nI 1)), (112, qa .isub 1), (113, qf (.getstatic 188) 3 1000002 0 1), (116, qa (.iload_n 2) 1), (117, qa .iaload 1), (118, qa .imul 1), (119, qa .iadd 1), (120, qa (.istore 6) 2)]),
  (137, [(122, qa (.aload_n 1) 1), (123, qa (.iload 5) 2), (125, qf (.getstatic 185) 3 1000001 0 1), (128, qa (.iload 4) 2), (130, qa .iaload 1), (131, qa .iadd 1), (132, qa (.iload 6) 2), (134, qf (.getstatic 188) 3 1000002 0 1)]),
  (151, [(137, qa (.iload 4) 2), (139, qa .iaload 1), (140, qa .iadd 1), (141, qa (.iload 4) 2), (143, qa (.aload_n 0) 1), (144, qf (.getfield 26) 3 9 3 0), (147, qc (.invokevirtual 182) 3 58 5 0 [3, 8, 8]), (150, qk (.iconst 1) 1 (nI 1))]),
  (152, [(151, qf .ireturn 1 0 0 1)])]
-- 62 java/lang/Integer.bitCount(I)I
def tb_62 : qz_B := [(10, [(0, qa (.iload_n 0) 1), (1, qa (.iload_n 0) 1), (2, qk (.iconst 1) 1 (nI 1)), (3, qa .iushr 1), (4, qk (.ldc_w 265) 3 (nI 1431655765)), (7, qa .iand 1), (8, qa .isub 1), (9, qa (.istore_n 0) 1)]),
  (22, [(10, qa (.iload_n 0) 1), (11, qk (.ldc_w 266) 3 (nI 858993459)), (14, qa .iand 1), (15, qa (.iload_n 0) 1), (16, qk (.iconst 2) 1 (nI 2)), (17, qa .iushr 1), (18, qk (.ldc_w 266) 3 (nI 858993459)), (21, qa .iand 1)]),
  (32, [(22, qa .iadd 1), (23, qa (.istore_n 0) 1), (24, qa (.iload_n 0) 1), (25, qa (.iload_n 0) 1), (26, qk (.iconst 4) 1 (nI 4)), (27, qa .iushr 1), (28, qa .iadd 1), (29, qk (.ldc_w 267) 3 (nI 252645135))]),
  (41, [(32, qa .iand 1), (33, qa (.istore_n 0) 1), (34, qa (.iload_n 0) 1), (35, qa (.iload_n 0) 1), (36, qk (.bipush 8) 2 (nI 8)), (38, qa .iushr 1), (39, qa .iadd 1), (40, qa (.istore_n 0) 1)]),
  (51, [(41, qa (.iload_n 0) 1), (42, qa (.iload_n 0) 1), (43, qk (.bipush 16) 2 (nI 16)), (45, qa .iushr 1), (46, qa .iadd 1), (47, qa (.istore_n 0) 1), (48, qa (.iload_n 0) 1), (49, qk (.bipush 63) 2 (nI 63))]),
  (53, [(51, qa .iand 1), (52, qa .ireturn 1)])]
-- 63 TinStencils$Bridges.squares(I)I
def tb_63 : qz_B := [(11, [(0, qk (.iconst 0) 1 (nI 0)), (1, qa (.istore_n 2) 1), (2, qk (.iconst 0) 1 (nI 0)), (3, qa (.istore_n 3) 1), (4, qa (.iload_n 3) 1), (5, qk (.bipush 20) 2 (nI 20)), (7, qj (.if_icmp .ge 26) 3 33 [false, false, true, false]), (10, qa (.iload_n 2) 1)]),
  (22, [(11, qa (.aload_n 0) 1), (12, qf (.getfield 28) 3 0 5 1), (15, qa (.iload_n 1) 1), (16, qk (.bipush 20) 2 (nI 20)), (18, qa .imul 1), (19, qa (.iload_n 3) 1), (20, qa .iadd 1), (21, qa .iaload 1)]),
  (35, [(22, qc (.invokestatic 47) 3 62 1 1 [0, 1]), (25, qa .iadd 1), (26, qa (.istore_n 2) 1), (27, qk (.iinc 3 1) 3 (nI 1)), (30, qj (.goto (-26)) 3 4 []), (33, qa (.iload_n 2) 1), (34, qa .ireturn 1)])]
-- 64 TinStencils$Bridges.lastBySquares(I)V
def tb_64 : qz_B := [(16, [(0, qa (.aload_n 0) 1), (1, qf (.getfield 9) 3 0 0 0), (4, qj (.ifCond .le 26) 3 30 [false, false]), (7, qa (.aload_n 0) 1), (8, qf (.getfield 25) 3 0 4 1), (11, qa (.aload_n 0) 1), (12, qf (.getfield 9) 3 0 0 0), (15, qk (.iconst 1) 1 (nI 1))]),
  (28, [(16, qa .isub 1), (17, qa (.iload_n 1) 1), (18, qa (.aload_n 0) 1), (19, qa (.aload_n 0) 1), (20, qf (.getfield 9) 3 0 0 0), (23, qk (.iconst 1) 1 (nI 1)), (24, qa .isub 1), (25, qc (.invokevirtual 43) 3 63 2 1 [2, 4, 0])]),
  (31, [(28, qa .imul 1), (29, qm [false, false] (qa .iastore 1)), (30, qa .return_ 1)])]
-- 65 TinStencils$Teller.tellTold(LTinStencils$Sheet;)Z
def tb_65 : qz_B := [(14, [(0, qa (.aload_n 0) 1), (1, qa (.aload_n 1) 1), (2, qc (.invokevirtual 140) 3 43 2 1 [0, 2, 9]), (5, qj (.ifCond .ne 5) 3 10 [true, true, false]), (8, qk (.iconst 0) 1 (nI 0)), (9, qm [true, true, false] (qf .ireturn 1 0 0 1)), (10, qa (.aload_n 1) 1), (11, qf (.getfield 100) 3 8 9 1)]),
  (28, [(14, qk (.iconst 3) 1 (nI 3)), (15, qk (.iconst 0) 1 (nI 0)), (16, qc (.invokevirtual 179) 3 56 3 0 [0, 3, 0]), (19, qa (.aload_n 1) 1), (20, qf (.getfield 100) 3 8 9 1), (23, qa (.aload_n 0) 1), (24, qf (.getfield 29) 3 9 4 0), (27, qa (.aload_n 0) 1)]),
  (43, [(28, qf (.getfield 32) 3 9 5 0), (31, qc (.invokevirtual 191) 3 57 3 0 [0, 3, 0]), (34, qk (.iconst 1) 1 (nI 1)), (35, qa (.istore_n 2) 1), (36, qa (.iload_n 2) 1), (37, qk (.bipush 8) 2 (nI 8)), (39, qj (.if_icmp .ge 43) 3 82 [false, true, false]), (42, qa (.aload_n 0) 1)]),
  (60, [(43, qk (.bipush 44) 2 (nI 44)), (45, qc (.invokevirtual 56) 3 34 2 1 [0, 2, 9]), (48, qj (.ifCond .eq 34) 3 82 [false, true, false]), (51, qa (.aload_n 0) 1), (52, qa (.aload_n 1) 1), (53, qc (.invokevirtual 140) 3 43 2 1 [0, 2, 9]), (56, qj (.ifCond .ne 5) 3 61 []), (59, qk (.iconst 0) 1 (nI 0))]),
  (76, [(60, qf .ireturn 1 0 0 1), (61, qa (.aload_n 1) 1), (62, qf (.getfield 100) 3 8 9 1), (65, qa (.aload_n 0) 1), (66, qf (.getfield 29) 3 9 4 0), (69, qa (.aload_n 0) 1), (70, qf (.getfield 32) 3 9 5 0), (73, qc (.invokevirtual 191) 3 57 3 0 [0, 3, 0])]),
  (93, [(76, qk (.iinc 2 1) 3 (nI 1)), (79, qj (.goto (-43)) 3 36 []), (82, qa (.aload_n 1) 1), (83, qf (.getfield 100) 3 8 9 1), (86, qk (.bipush 60) 2 (nI 60)), (88, qc (.invokevirtual 194) 3 64 2 0 [0, 2, 0]), (91, qk (.iconst 1) 1 (nI 1)), (92, qf .ireturn 1 0 0 1)])]
-- 66 TinStencils$Bridges.hideNewest()V
def tb_66 : qz_B := [(14, [(0, qa (.aload_n 0) 1), (1, qf (.getfield 9) 3 0 0 0), (4, qj (.ifCond .le 20) 3 24 [false]), (7, qa (.aload_n 0) 1), (8, qa .dup 1), (9, qf (.getfield 18) 3 0 2 0), (12, qk (.iconst 1) 1 (nI 1)), (13, qa (.aload_n 0) 1)]),
  (25, [(14, qf (.getfield 9) 3 0 0 0), (17, qk (.iconst 1) 1 (nI 1)), (18, qa .isub 1), (19, qa .ishl 1), (20, qa .ior 1), (21, qm [false] (qf (.putfield 18) 3 0 2 0)), (24, qa .return_ 1)])]
-- 67 TinStencils$Teller.tellBridge(LTinStencils$Sheet;)Z
def tb_67 : qz_B := [(13, [(0, qk (.iconst 0) 1 (nI 0)), (1, qa (.istore_n 2) 1), (2, qa (.aload_n 0) 1), (3, qk (.bipush 11) 2 (nI 11)), (5, qc (.invokevirtual 68) 3 29 2 1 [0, 2, 9]), (8, qj (.ifCond .eq 12) 3 20 []), (11, qa (.aload_n 0) 1), (12, qa (.aload_n 1) 1)]),
  (30, [(13, qc (.invokevirtual 164) 3 59 2 1 [1, 3, 9]), (16, qa (.istore_n 2) 1), (17, qj (.goto 54) 3 71 []), (20, qa (.aload_n 0) 1), (21, qk (.bipush 12) 2 (nI 12)), (23, qc (.invokevirtual 68) 3 29 2 1 [0, 2, 9]), (26, qj (.ifCond .eq 12) 3 38 []), (29, qa (.aload_n 0) 1)]),
  (47, [(30, qa (.aload_n 1) 1), (31, qc (.invokevirtual 167) 3 60 2 1 [4, 6, 9]), (34, qa (.istore_n 2) 1), (35, qj (.goto 36) 3 71 []), (38, qa (.aload_n 0) 1), (39, qk (.bipush 13) 2 (nI 13)), (41, qc (.invokevirtual 68) 3 29 2 1 [0, 2, 9]), (44, qj (.ifCond .eq 12) 3 56 [])]),
  (62, [(47, qa (.aload_n 0) 1), (48, qa (.aload_n 1) 1), (49, qc (.invokevirtual 170) 3 61 2 1 [5, 7, 9]), (52, qa (.istore_n 2) 1), (53, qj (.goto 18) 3 71 []), (56, qa (.aload_n 0) 1), (57, qk (.bipush 14) 2 (nI 14)), (59, qc (.invokevirtual 68) 3 29 2 1 [0, 2, 9])]),
  (76, [(62, qj (.ifCond .eq 9) 3 71 []), (65, qa (.aload_n 0) 1), (66, qa (.aload_n 1) 1), (67, qc (.invokevirtual 173) 3 65 2 1 [1, 3, 9]), (70, qa (.istore_n 2) 1), (71, qa (.iload_n 2) 1), (72, qj (.ifCond .eq 19) 3 91 [false, false, true]), (75, qa (.aload_n 0) 1)]),
  (93, [(76, qk (.bipush 15) 2 (nI 15)), (78, qc (.invokevirtual 68) 3 29 2 1 [0, 2, 9]), (81, qj (.ifCond .eq 10) 3 91 [false, false, true]), (84, qa (.aload_n 1) 1), (85, qf (.getfield 100) 3 8 9 1), (88, qm [false, false, true] (qc (.invokevirtual 176) 3 66 1 0 [0, 1, 0])), (91, qa (.iload_n 2) 1), (92, qf .ireturn 1 0 0 1)])]
-- 68 TinStencils$Teller.tellStatement(LTinStencils$Sheet;)Z
def tb_68 : qz_B := [(14, [(0, qa (.aload_n 0) 1), (1, qk (.iconst 1) 1 (nI 1)), (2, qc (.invokevirtual 68) 3 29 2 1 [0, 2, 9]), (5, qj (.ifCond .eq 9) 3 14 []), (8, qa (.aload_n 0) 1), (9, qa (.aload_n 1) 1), (10, qc (.invokevirtual 79) 3 37 2 1 [2, 4, 9]), (13, qf .ireturn 1 0 0 1)]),
  (28, [(14, qa (.aload_n 0) 1), (15, qk (.iconst 2) 1 (nI 2)), (16, qc (.invokevirtual 68) 3 29 2 1 [0, 2, 9]), (19, qj (.ifCond .eq 9) 3 28 []), (22, qa (.aload_n 0) 1), (23, qa (.aload_n 1) 1), (24, qc (.invokevirtual 82) 3 42 2 1 [4, 6, 9]), (27, qf .ireturn 1 0 0 1)]),
  (42, [(28, qa (.aload_n 0) 1), (29, qk (.iconst 3) 1 (nI 3)), (30, qc (.invokevirtual 68) 3 29 2 1 [0, 2, 9]), (33, qj (.ifCond .eq 9) 3 42 []), (36, qa (.aload_n 0) 1), (37, qa (.aload_n 1) 1), (38, qc (.invokevirtual 85) 3 49 2 1 [2, 4, 9]), (41, qf .ireturn 1 0 0 1)]),
  (56, [(42, qa (.aload_n 0) 1), (43, qk (.iconst 5) 1 (nI 5)), (44, qc (.invokevirtual 68) 3 29 2 1 [0, 2, 9]), (47, qj (.ifCond .eq 9) 3 56 []), (50, qa (.aload_n 0) 1), (51, qa (.aload_n 1) 1), (52, qc (.invokevirtual 88) 3 51 2 1 [1, 3, 9]), (55, qf .ireturn 1 0 0 1)]),
  (71, [(56, qa (.aload_n 0) 1), (57, qk (.bipush 6) 2 (nI 6)), (59, qc (.invokevirtual 68) 3 29 2 1 [0, 2, 9]), (62, qj (.ifCond .eq 9) 3 71 []), (65, qa (.aload_n 0) 1), (66, qa (.aload_n 1) 1), (67, qc (.invokevirtual 91) 3 53 2 1 [6, 8, 9]), (70, qf .ireturn 1 0 0 1)]),
  (86, [(71, qa (.aload_n 0) 1), (72, qk (.bipush 8) 2 (nI 8)), (74, qc (.invokevirtual 68) 3 29 2 1 [0, 2, 9]), (77, qj (.ifCond .eq 9) 3 86 []), (80, qa (.aload_n 0) 1), (81, qa (.aload_n 1) 1), (82, qc (.invokevirtual 94) 3 54 2 1 [0, 2, 9]), (85, qf .ireturn 1 0 0 1)]),
  (101, [(86, qa (.aload_n 0) 1), (87, qk (.bipush 9) 2 (nI 9)), (89, qc (.invokevirtual 68) 3 29 2 1 [0, 2, 9]), (92, qj (.ifCond .eq 9) 3 101 []), (95, qa (.aload_n 0) 1), (96, qa (.aload_n 1) 1), (97, qc (.invokevirtual 97) 3 55 2 1 [0, 2, 9]), (100, qf .ireturn 1 0 0 1)]),
  (119, [(101, qa (.aload_n 1) 1), (102, qf (.getfield 100) 3 8 9 1), (105, qf (.getfield 104) 3 0 0 0), (108, qk (.bipush 12) 2 (nI 12)), (110, qj (.if_icmp .ge 24) 3 134 [false, false]), (113, qa (.aload_n 0) 1), (114, qk (.bipush 10) 2 (nI 10)), (116, qc (.invokevirtual 68) 3 29 2 1 [0, 2, 9])]),
  (135, [(119, qj (.ifCond .eq 15) 3 134 [false, false]), (122, qa (.aload_n 0) 1), (123, qa (.aload_n 1) 1), (124, qc (.invokevirtual 107) 3 67 2 1 [1, 3, 9]), (127, qj (.ifCond .eq 7) 3 134 [false, false]), (130, qk (.iconst 1) 1 (nI 1)), (131, qj (.goto 4) 3 135 [false, false]), (134, qm [false, false] (qk (.iconst 0) 1 (nI 0)))]),
  (136, [(135, qf .ireturn 1 0 0 1)])]
-- 69 TinStencils$Teller.tell([IILTinStencils$Sheet;)Z
def tb_69 : qz_B := [(14, [(0, qa (.aload_n 0) 1), (1, qf (.getfield 12) 3 9 0 1), (4, qa (.aload_n 1) 1), (5, qa (.iload_n 2) 1), (6, qc (.invokevirtual 41) 3 28 3 0 [2, 5, 10]), (9, qa (.aload_n 0) 1), (10, qk (.iconst 0) 1 (nI 0)), (11, qf (.putfield 22) 3 9 2 0)]),
  (27, [(14, qa (.aload_n 0) 1), (15, qa (.aload_n 3) 1), (16, qc (.invokevirtual 45) 3 35 2 1 [1, 3, 9]), (19, qj (.ifCond .ne 5) 3 24 [true, false, false, true, false]), (22, qk (.iconst 0) 1 (nI 0)), (23, qm [true, false, false, true, false] (qf .ireturn 1 0 0 1)), (24, qk (.iconst 0) 1 (nI 0)), (25, qm [true, false, false, true, true] (qa (.istore 4) 2))]),
  (45, [(27, qa (.iload 4) 2), (29, qk (.bipush 60) 2 (nI 60)), (31, qj (.if_icmp .ge 53) 3 84 [true, false, false, false, false]), (34, qa (.aload_n 0) 1), (35, qf (.getfield 12) 3 9 0 1), (38, qf (.getfield 49) 3 10 1 1), (41, qa (.aload_n 0) 1), (42, qf (.getfield 22) 3 9 2 0)]),
  (60, [(45, qa .iaload 1), (46, qj (.ifCond .eq 38) 3 84 [true, false, false, false, false]), (49, qa (.aload_n 0) 1), (50, qa (.aload_n 3) 1), (51, qc (.invokevirtual 53) 3 68 2 1 [0, 2, 9]), (54, qj (.ifCond .eq 12) 3 66 [false, false, false, false, false]), (57, qa (.aload_n 0) 1), (58, qk (.bipush 59) 2 (nI 59))]),
  (74, [(60, qc (.invokevirtual 56) 3 34 2 1 [0, 2, 9]), (63, qm [false, false, false, false, false] (qj (.ifCond .ne 5) 3 68 [true, false, false, true, true])), (66, qk (.iconst 0) 1 (nI 0)), (67, qm [true, false, false, true, true] (qf .ireturn 1 0 0 1)), (68, qa (.aload_n 3) 1), (69, qa .dup 1), (70, qf (.getfield 60) 3 8 3 0), (73, qk (.iconst 1) 1 (nI 1))]),
  (92, [(74, qa .iadd 1), (75, qf (.putfield 60) 3 8 3 0), (78, qk (.iinc 4 1) 3 (nI 1)), (81, qj (.goto (-54)) 3 27 [true, false, false, true, true]), (84, qa (.aload_n 0) 1), (85, qf (.getfield 12) 3 9 0 1), (88, qf (.getfield 49) 3 10 1 1), (91, qa (.aload_n 0) 1)]),
  (105, [(92, qf (.getfield 22) 3 9 2 0), (95, qa .iaload 1), (96, qj (.ifCond .ne 7) 3 103 [false, false, false, false, false]), (99, qk (.iconst 1) 1 (nI 1)), (100, qj (.goto 4) 3 104 [false, false, false, false, false]), (103, qm [false, false, false, false, false] (qk (.iconst 0) 1 (nI 0))), (104, qf .ireturn 1 0 0 1)])]
-- 70 TinStencils$Teller.place()I
def tb_70 : qz_B := [(13, [(0, qa (.aload_n 0) 1), (1, qf (.getfield 12) 3 9 0 1), (4, qf (.getfield 65) 3 10 2 1), (7, qa (.aload_n 0) 1), (8, qf (.getfield 22) 3 9 2 0), (11, qa .iaload 1), (12, qa .ireturn 1)])]
-- 71 TinStencils.plate(II)I
def tb_71 : qz_B := [(16, [(0, qa (.iload_n 2) 1), (1, qj (.ifCond .lt 21) 3 22 [true, false, false, false, false]), (4, qa (.iload_n 2) 1), (5, qa (.aload_n 0) 1), (6, qf (.getfield 13) 3 11 1 0), (9, qj (.if_icmp .gt 13) 3 22 [true, false, false, false, false]), (12, qa (.iload_n 1) 1), (13, qj (.ifCond .lt 9) 3 22 [true, false, false, false, false])]),
  (29, [(16, qa (.iload_n 1) 1), (17, qk (.bipush 6) 2 (nI 6)), (19, qm [true, false, false, false, false] (qj (.if_icmp .lt 16) 3 35 [true, true, true, false, false])), (22, qa (.aload_n 0) 1), (23, qf (.getfield 20) 3 11 3 1), (26, qk (.iconst 0) 1 (nI 0)), (27, qa .dup2 1), (28, qa .iaload 1)]),
  (40, [(29, qk (.iconst 1) 1 (nI 1)), (30, qa .iadd 1), (31, qa .iastore 1), (32, qk (.bipush (-2)) 2 (-2)), (34, qm [true, true, true, false, false] (qa .ireturn 1)), (35, qa (.aload_n 0) 1), (36, qf (.getfield 47) 3 11 8 1), (39, qa (.aload_n 0) 1)]),
  (54, [(40, qf (.getfield 9) 3 11 0 1), (43, qa (.iload_n 2) 1), (44, qa (.aload_n 0) 1), (45, qf (.getfield 40) 3 11 7 1), (48, qc (.invokevirtual 103) 3 69 4 1 [1, 5, 9]), (51, qa (.istore_n 3) 1), (52, qa (.aload_n 0) 1), (53, qk (.iconst 0) 1 (nI 0))]),
  (72, [(54, qf (.putfield 13) 3 11 1 0), (57, qa (.iload_n 3) 1), (58, qj (.ifCond .ne 26) 3 84 [true, true, false, false, false]), (61, qa (.aload_n 0) 1), (62, qa (.aload_n 0) 1), (63, qf (.getfield 47) 3 11 8 1), (66, qc (.invokevirtual 107) 3 70 1 1 [0, 1, 9]), (69, qf (.putfield 17) 3 11 2 0)]),
  (82, [(72, qa (.aload_n 0) 1), (73, qf (.getfield 20) 3 11 3 1), (76, qk (.iconst 2) 1 (nI 2)), (77, qa .dup2 1), (78, qa .iaload 1), (79, qk (.iconst 1) 1 (nI 1)), (80, qa .iadd 1), (81, qa .iastore 1)]),
  (96, [(82, qk (.iconst (-1)) 1 (-1)), (83, qm [true, true, false, false, false] (qa .ireturn 1)), (84, qa (.aload_n 0) 1), (85, qk (.iconst (-1)) 1 (-1)), (86, qf (.putfield 17) 3 11 2 0), (89, qa (.aload_n 0) 1), (90, qf (.getfield 26) 3 11 4 1), (93, qf (.getfield 111) 3 6 0 1)]),
  (109, [(96, qa (.iload_n 1) 1), (97, qa .aaload 1), (98, qa (.astore 4) 2), (100, qa (.aload_n 0) 1), (101, qf (.getfield 26) 3 11 4 1), (104, qf (.getfield 111) 3 6 0 1), (107, qa (.iload_n 1) 1), (108, qa (.aload_n 0) 1)]),
  (126, [(109, qf (.getfield 40) 3 11 7 1), (112, qa .aastore 1), (113, qa (.aload_n 0) 1), (114, qa (.aload 4) 2), (116, qf (.putfield 40) 3 11 7 1), (119, qa (.aload_n 0) 1), (120, qf (.getfield 26) 3 11 4 1), (123, qf (.getfield 111) 3 6 0 1)]),
  (132, [(126, qa (.iload_n 1) 1), (127, qa .aaload 1), (128, qf (.getfield 115) 3 8 3 0), (131, qa .ireturn 1)])]
-- 72 TinStencilsModel.isIn(III)Z
def tb_72 : qz_B := [(14, [(0, qa (.iload_n 0) 1), (1, qa (.iload_n 1) 1), (2, qj (.if_icmp .lt 12) 3 14 [false, false, false]), (5, qa (.iload_n 0) 1), (6, qa (.iload_n 2) 1), (7, qj (.if_icmp .gt 7) 3 14 [false, false, false]), (10, qk (.iconst 1) 1 (nI 1)), (11, qj (.goto 4) 3 15 [false, false, false])]),
  (16, [(14, qm [false, false, false] (qk (.iconst 0) 1 (nI 0))), (15, qf .ireturn 1 0 0 1)])]
-- 73 TinStencilsModel.refuses(II)I
def tb_73 : qz_B := [(10, [(0, qa (.aload_n 0) 1), (1, qf (.getfield 7) 3 12 0 1), (4, qa (.iload_n 1) 1), (5, qa .dup2 1), (6, qa .iaload 1), (7, qk (.iconst 1) 1 (nI 1)), (8, qa .iadd 1), (9, qa .iastore 1)]),
  (12, [(10, qa (.iload_n 2) 1), (11, qa .ireturn 1)])]
-- 74 TinStencilsModel.says(II)V
def tb_74 : qz_B := [(11, [(0, qa (.aload_n 0) 1), (1, qf (.getfield 17) 3 12 2 1), (4, qk (.bipush 96) 2 (nI 96)), (6, qa (.iload_n 1) 1), (7, qa .iadd 1), (8, qa (.iload_n 2) 1), (9, qa .iastore 1), (10, qa .return_ 1)])]
-- 75 TinStencilsModel.blanks()V
def tb_75 : qz_B := [(16, [(0, qa (.aload_n 0) 1), (1, qf (.getfield 170) 3 12 16 0), (4, qa (.aload_n 0) 1), (5, qf (.getfield 173) 3 12 15 0), (8, qj (.if_icmp .ge 44) 3 52 [false]), (11, qa (.aload_n 0) 1), (12, qf (.getfield 61) 3 12 19 1), (15, qa (.aload_n 0) 1)]),
  (33, [(16, qf (.getfield 170) 3 12 16 0), (19, qa .baload 1), (20, qk (.bipush 32) 2 (nI 32)), (22, qj (.if_icmp .eq 17) 3 39 []), (25, qa (.aload_n 0) 1), (26, qf (.getfield 61) 3 12 19 1), (29, qa (.aload_n 0) 1), (30, qf (.getfield 170) 3 12 16 0)]),
  (46, [(33, qa .baload 1), (34, qk (.bipush 10) 2 (nI 10)), (36, qj (.if_icmp .ne 16) 3 52 [false]), (39, qa (.aload_n 0) 1), (40, qa .dup 1), (41, qf (.getfield 170) 3 12 16 0), (44, qk (.iconst 1) 1 (nI 1)), (45, qa .iadd 1)]),
  (53, [(46, qf (.putfield 170) 3 12 16 0), (49, qj (.goto (-49)) 3 0 []), (52, qa .return_ 1)])]
-- 76 TinStencilsModel.word()J
def tb_76 : qz_B := [(14, [(0, qa (.aload_n 0) 1), (1, qc (.invokevirtual 176) 3 75 1 0 [0, 1, 12]), (4, qa (.aload_n 0) 1), (5, qa (.aload_n 0) 1), (6, qf (.getfield 170) 3 12 16 0), (9, qf (.putfield 179) 3 12 20 0), (12, ql (.lconst 0) 1 (lN 0)), (13, qa (.lstore_n 1) 1)]),
  (30, [(14, qa (.aload_n 0) 1), (15, qf (.getfield 179) 3 12 20 0), (18, qa (.aload_n 0) 1), (19, qf (.getfield 173) 3 12 15 0), (22, qj (.if_icmp .ge 78) 3 100 []), (25, qa (.aload_n 0) 1), (26, qf (.getfield 61) 3 12 19 1), (29, qa (.aload_n 0) 1)]),
  (47, [(30, qf (.getfield 179) 3 12 20 0), (33, qa .baload 1), (34, qk (.bipush 97) 2 (nI 97)), (36, qj (.if_icmp .lt 64) 3 100 []), (39, qa (.aload_n 0) 1), (40, qf (.getfield 61) 3 12 19 1), (43, qa (.aload_n 0) 1), (44, qf (.getfield 179) 3 12 20 0)]),
  (62, [(47, qa .baload 1), (48, qk (.bipush 122) 2 (nI 122)), (50, qj (.if_icmp .gt 50) 3 100 []), (53, qa (.aload_n 0) 1), (54, qf (.getfield 179) 3 12 20 0), (57, qa (.aload_n 0) 1), (58, qf (.getfield 170) 3 12 16 0), (61, qa .isub 1)]),
  (76, [(62, qk (.bipush 8) 2 (nI 8)), (64, qj (.if_icmp .ge 21) 3 85 [true, false, false]), (67, qa (.lload_n 1) 1), (68, qk (.bipush 8) 2 (nI 8)), (70, qa .lshl 1), (71, qa (.aload_n 0) 1), (72, qf (.getfield 61) 3 12 19 1), (75, qa (.aload_n 0) 1)]),
  (88, [(76, qf (.getfield 179) 3 12 20 0), (79, qa .baload 1), (80, qa .i2l 1), (81, qa .lor 1), (82, qj (.goto 4) 3 86 [true, false, false]), (85, qm [true, false, false] (ql (.lconst 0) 1 (lN 0))), (86, qa (.lstore_n 1) 1), (87, qa (.aload_n 0) 1)]),
  (104, [(88, qa .dup 1), (89, qf (.getfield 179) 3 12 20 0), (92, qk (.iconst 1) 1 (nI 1)), (93, qa .iadd 1), (94, qf (.putfield 179) 3 12 20 0), (97, qj (.goto (-83)) 3 14 []), (100, qa (.aload_n 0) 1), (101, qf (.getfield 179) 3 12 20 0)]),
  (119, [(104, qa (.aload_n 0) 1), (105, qf (.getfield 170) 3 12 16 0), (108, qa .isub 1), (109, qk (.bipush 8) 2 (nI 8)), (111, qj (.if_icmp .le 7) 3 118 [false, true, true]), (114, ql (.lconst 0) 1 (lN 0)), (115, qj (.goto 4) 3 119 [false, false, false]), (118, qm [false, false, false] (qa (.lload_n 1) 1))]),
  (120, [(119, qa .lreturn 1)])]
-- 77 TinStencilsModel.takes(J)Z
def tb_77 : qz_B := [(12, [(0, qa (.aload_n 0) 1), (1, qc (.invokevirtual 182) 3 76 1 2 [2, 3, 12]), (4, qa (.lload_n 1) 1), (5, qa .lcmp 1), (6, qj (.ifCond .eq 5) 3 11 [true, false, false]), (9, qk (.iconst 0) 1 (nI 0)), (10, qm [true, false, false] (qf .ireturn 1 0 0 1)), (11, qa (.aload_n 0) 1)]),
  (21, [(12, qa (.aload_n 0) 1), (13, qf (.getfield 179) 3 12 20 0), (16, qf (.putfield 170) 3 12 16 0), (19, qk (.iconst 1) 1 (nI 1)), (20, qf .ireturn 1 0 0 1)])]
-- 78 TinStencilsModel.takesNumber(II)Z
def tb_78 : qz_B := [(14, [(0, qa (.aload_n 0) 1), (1, qc (.invokevirtual 176) 3 75 1 0 [0, 1, 12]), (4, qa (.aload_n 0) 1), (5, qf (.getfield 170) 3 12 16 0), (8, qa (.istore_n 3) 1), (9, qa (.aload_n 0) 1), (10, qk (.iconst 0) 1 (nI 0)), (11, qf (.putfield 186) 3 12 21 0)]),
  (28, [(14, qa (.iload_n 3) 1), (15, qa (.aload_n 0) 1), (16, qf (.getfield 173) 3 12 15 0), (19, qj (.if_icmp .ge 62) 3 81 []), (22, qa (.aload_n 0) 1), (23, qf (.getfield 61) 3 12 19 1), (26, qa (.iload_n 3) 1), (27, qa .baload 1)]),
  (44, [(28, qk (.bipush 48) 2 (nI 48)), (30, qj (.if_icmp .lt 51) 3 81 []), (33, qa (.aload_n 0) 1), (34, qf (.getfield 61) 3 12 19 1), (37, qa (.iload_n 3) 1), (38, qa .baload 1), (39, qk (.bipush 57) 2 (nI 57)), (41, qj (.if_icmp .gt 40) 3 81 [])]),
  (57, [(44, qa (.iload_n 3) 1), (45, qa (.aload_n 0) 1), (46, qf (.getfield 170) 3 12 16 0), (49, qa .isub 1), (50, qk (.iconst 4) 1 (nI 4)), (51, qj (.if_icmp .ge 24) 3 75 []), (54, qa (.aload_n 0) 1), (55, qk (.bipush 10) 2 (nI 10))]),
  (69, [(57, qa (.aload_n 0) 1), (58, qf (.getfield 186) 3 12 21 0), (61, qa .imul 1), (62, qa (.aload_n 0) 1), (63, qf (.getfield 61) 3 12 19 1), (66, qa (.iload_n 3) 1), (67, qa .baload 1), (68, qa .iadd 1)]),
  (86, [(69, qk (.bipush 48) 2 (nI 48)), (71, qa .isub 1), (72, qf (.putfield 186) 3 12 21 0), (75, qk (.iinc 3 1) 3 (nI 1)), (78, qj (.goto (-64)) 3 14 []), (81, qa (.iload_n 3) 1), (82, qa (.aload_n 0) 1), (83, qf (.getfield 170) 3 12 16 0)]),
  (100, [(86, qj (.if_icmp .eq 25) 3 111 [false, false, false, false]), (89, qa (.iload_n 3) 1), (90, qa (.aload_n 0) 1), (91, qf (.getfield 170) 3 12 16 0), (94, qa .isub 1), (95, qk (.iconst 4) 1 (nI 4)), (96, qj (.if_icmp .gt 15) 3 111 [false, false, false, false]), (99, qa (.aload_n 0) 1)]),
  (114, [(100, qf (.getfield 186) 3 12 21 0), (103, qa (.iload_n 1) 1), (104, qa (.iload_n 2) 1), (105, qc (.invokestatic 156) 3 72 3 1 [0, 3]), (108, qm [false, false, false, false] (qj (.ifCond .ne 5) 3 113 [true, false, false, true])), (111, qk (.iconst 0) 1 (nI 0)), (112, qm [true, false, false, true] (qf .ireturn 1 0 0 1)), (113, qa (.aload_n 0) 1)]),
  (120, [(114, qa (.iload_n 3) 1), (115, qf (.putfield 170) 3 12 16 0), (118, qk (.iconst 1) 1 (nI 1)), (119, qf .ireturn 1 0 0 1)])]
-- 79 TinStencilsModel.takesSign(I)Z
def tb_79 : qz_B := [(16, [(0, qa (.aload_n 0) 1), (1, qc (.invokevirtual 176) 3 75 1 0 [0, 1, 12]), (4, qa (.aload_n 0) 1), (5, qf (.getfield 170) 3 12 16 0), (8, qa (.aload_n 0) 1), (9, qf (.getfield 173) 3 12 15 0), (12, qj (.if_icmp .eq 16) 3 28 [false, false]), (15, qa (.aload_n 0) 1)]),
  (30, [(16, qf (.getfield 61) 3 12 19 1), (19, qa (.aload_n 0) 1), (20, qf (.getfield 170) 3 12 16 0), (23, qa .baload 1), (24, qa (.iload_n 1) 1), (25, qm [false, false] (qj (.if_icmp .eq 5) 3 30 [true, false])), (28, qk (.iconst 0) 1 (nI 0)), (29, qm [true, false] (qf .ireturn 1 0 0 1))]),
  (42, [(30, qa (.aload_n 0) 1), (31, qa .dup 1), (32, qf (.getfield 170) 3 12 16 0), (35, qk (.iconst 1) 1 (nI 1)), (36, qa .iadd 1), (37, qf (.putfield 170) 3 12 16 0), (40, qk (.iconst 1) 1 (nI 1)), (41, qf .ireturn 1 0 0 1)])]
-- 80 TinStencilsModel.draft(I)I
def tb_80 : qz_B := [(10, [(0, qa (.aload_n 0) 1), (1, qf (.getfield 17) 3 12 2 1), (4, qk (.bipush 96) 2 (nI 96)), (6, qa (.iload_n 1) 1), (7, qa .iadd 1), (8, qa .iaload 1), (9, qa .ireturn 1)])]
-- 81 TinStencilsModel.high(I)I
def tb_81 : qz_B := [(11, [(0, qa (.aload_n 0) 1), (1, qf (.getfield 17) 3 12 2 1), (4, qk (.bipush 16) 2 (nI 16)), (6, qa (.iload_n 1) 1), (7, qa .imul 1), (8, qk (.iconst 1) 1 (nI 1)), (9, qa .iadd 1), (10, qa .iaload 1)]),
  (12, [(11, qa .ireturn 1)])]
-- 82 TinStencilsModel.wide(I)I
def tb_82 : qz_B := [(11, [(0, qa (.aload_n 0) 1), (1, qf (.getfield 17) 3 12 2 1), (4, qk (.bipush 16) 2 (nI 16)), (6, qa (.iload_n 1) 1), (7, qa .imul 1), (8, qk (.iconst 0) 1 (nI 0)), (9, qa .iadd 1), (10, qa .iaload 1)]),
  (12, [(11, qa .ireturn 1)])]
-- 83 TinStencilsModel.takesSquares(II)Z
def tb_83 : qz_B := [(14, [(0, qa (.aload_n 0) 1), (1, qc (.invokevirtual 176) 3 75 1 0 [0, 1, 12]), (4, qa (.aload_n 0) 1), (5, qf (.getfield 170) 3 12 16 0), (8, qa (.istore_n 3) 1), (9, qa (.aload_n 0) 1), (10, qk (.iconst 0) 1 (nI 0)), (11, qf (.putfield 189) 3 12 23 0)]),
  (28, [(14, qa (.iload_n 3) 1), (15, qa (.aload_n 0) 1), (16, qf (.getfield 173) 3 12 15 0), (19, qj (.if_icmp .ge 94) 3 113 []), (22, qa (.aload_n 0) 1), (23, qf (.getfield 61) 3 12 19 1), (26, qa (.iload_n 3) 1), (27, qa .baload 1)]),
  (44, [(28, qk (.bipush 97) 2 (nI 97)), (30, qj (.if_icmp .lt 83) 3 113 []), (33, qa (.aload_n 0) 1), (34, qf (.getfield 61) 3 12 19 1), (37, qa (.iload_n 3) 1), (38, qa .baload 1), (39, qk (.bipush 122) 2 (nI 122)), (41, qj (.if_icmp .gt 72) 3 113 [])]),
  (59, [(44, qa (.aload_n 0) 1), (45, qf (.getfield 61) 3 12 19 1), (48, qa (.iload_n 3) 1), (49, qa .baload 1), (50, qk (.bipush 115) 2 (nI 115)), (52, qj (.if_icmp .eq 16) 3 68 []), (55, qa (.aload_n 0) 1), (56, qf (.getfield 61) 3 12 19 1)]),
  (72, [(59, qa (.iload_n 3) 1), (60, qa .baload 1), (61, qk (.bipush 116) 2 (nI 116)), (63, qj (.if_icmp .eq 5) 3 68 []), (66, qk (.iconst 0) 1 (nI 0)), (67, qf .ireturn 1 0 0 1), (68, qa (.aload_n 0) 1), (69, qf (.getfield 61) 3 12 19 1)]),
  (85, [(72, qa (.iload_n 3) 1), (73, qa .baload 1), (74, qk (.bipush 116) 2 (nI 116)), (76, qj (.if_icmp .ne 31) 3 107 []), (79, qa (.iload_n 3) 1), (80, qa (.aload_n 0) 1), (81, qf (.getfield 170) 3 12 16 0), (84, qa .isub 1)]),
  (98, [(85, qk (.bipush 20) 2 (nI 20)), (87, qj (.if_icmp .ge 20) 3 107 []), (90, qa (.aload_n 0) 1), (91, qa .dup 1), (92, qf (.getfield 189) 3 12 23 0), (95, qk (.iconst 1) 1 (nI 1)), (96, qa (.iload_n 3) 1), (97, qa (.aload_n 0) 1)]),
  (114, [(98, qf (.getfield 170) 3 12 16 0), (101, qa .isub 1), (102, qa .ishl 1), (103, qa .ior 1), (104, qf (.putfield 189) 3 12 23 0), (107, qk (.iinc 3 1) 3 (nI 1)), (110, qj (.goto (-96)) 3 14 []), (113, qa (.aload_n 0) 1)]),
  (128, [(114, qa (.iload_n 3) 1), (115, qa (.aload_n 0) 1), (116, qf (.getfield 170) 3 12 16 0), (119, qa .isub 1), (120, qf (.putfield 192) 3 12 22 0), (123, qa (.aload_n 0) 1), (124, qf (.getfield 192) 3 12 22 0), (127, qa (.iload_n 1) 1)]),
  (142, [(128, qa (.iload_n 2) 1), (129, qc (.invokestatic 156) 3 72 3 1 [0, 3]), (132, qj (.ifCond .ne 5) 3 137 [true, false, false, true]), (135, qk (.iconst 0) 1 (nI 0)), (136, qm [true, false, false, true] (qf .ireturn 1 0 0 1)), (137, qa (.aload_n 0) 1), (138, qa (.iload_n 3) 1), (139, qf (.putfield 170) 3 12 16 0)]),
  (144, [(142, qk (.iconst 1) 1 (nI 1)), (143, qf .ireturn 1 0 0 1)])]
-- 84 TinStencilsModel.at(III)I
def tb_84 : qz_B := [(11, [(0, qk (.sipush 400) 3 (nI 400)), (3, qa (.iload_n 0) 1), (4, qa .imul 1), (5, qk (.bipush 20) 2 (nI 20)), (7, qa (.iload_n 2) 1), (8, qa .imul 1), (9, qa .iadd 1), (10, qa (.iload_n 1) 1)]),
  (13, [(11, qa .iadd 1), (12, qa .ireturn 1)])]
-- 85 TinStencilsModel.row()Z
def tb_85 : qz_B := [(13, [(0, qa (.aload_n 0) 1), (1, qk (.iconst 0) 1 (nI 0)), (2, qa (.aload_n 0) 1), (3, qk (.bipush 6) 2 (nI 6)), (5, qc (.invokevirtual 160) 3 81 2 1 [0, 2, 12]), (8, qk (.iconst 1) 1 (nI 1)), (9, qa .isub 1), (10, qc (.invokevirtual 246) 3 78 3 1 [1, 4, 12])]),
  (25, [(13, qj (.ifCond .ne 5) 3 18 [true, false, false]), (16, qk (.iconst 0) 1 (nI 0)), (17, qm [true, false, false] (qf .ireturn 1 0 0 1)), (18, qa (.aload_n 0) 1), (19, qf (.getfield 186) 3 12 21 0), (22, qa (.istore_n 1) 1), (23, qa (.aload_n 0) 1), (24, qk (.iconst 1) 1 (nI 1))]),
  (40, [(25, qa (.aload_n 0) 1), (26, qk (.bipush 6) 2 (nI 6)), (28, qc (.invokevirtual 152) 3 82 2 1 [0, 2, 12]), (31, qc (.invokevirtual 259) 3 83 3 1 [1, 4, 12]), (34, qj (.ifCond .ne 5) 3 39 [true, true, false]), (37, qk (.iconst 0) 1 (nI 0)), (38, qm [true, true, false] (qf .ireturn 1 0 0 1)), (39, qk (.iconst 0) 1 (nI 0))]),
  (55, [(40, qa (.istore_n 2) 1), (41, qa (.iload_n 2) 1), (42, qa (.aload_n 0) 1), (43, qf (.getfield 192) 3 12 22 0), (46, qj (.if_icmp .ge 29) 3 75 [false, false, false]), (49, qa (.aload_n 0) 1), (50, qf (.getfield 23) 3 12 4 1), (53, qk (.bipush 6) 2 (nI 6))]),
  (67, [(55, qa (.iload_n 2) 1), (56, qa (.iload_n 1) 1), (57, qc (.invokestatic 262) 3 84 3 1 [0, 3]), (60, qa (.aload_n 0) 1), (61, qf (.getfield 189) 3 12 23 0), (64, qa (.iload_n 2) 1), (65, qa .ishr 1), (66, qk (.iconst 1) 1 (nI 1))]),
  (77, [(67, qa .iand 1), (68, qa .iastore 1), (69, qk (.iinc 2 1) 3 (nI 1)), (72, qj (.goto (-31)) 3 41 []), (75, qk (.iconst 1) 1 (nI 1)), (76, qf .ireturn 1 0 0 1)])]
-- 86 TinStencilsModel.isBridgeWord(J)Z
def tb_86 : qz_B := [(16, [(0, qa (.lload_n 0) 1), (1, ql (.ldc2_w 225) 3 (lN 8319400174365927540)), (4, qa .lcmp 1), (5, qj (.ifCond .eq 35) 3 40 [false, false]), (8, qa (.lload_n 0) 1), (9, ql (.ldc2_w 227) 3 (lN 422826697060)), (12, qa .lcmp 1), (13, qj (.ifCond .eq 27) 3 40 [false, false])]),
  (32, [(16, qa (.lload_n 0) 1), (17, ql (.ldc2_w 229) 3 (lN 109330312357234)), (20, qa .lcmp 1), (21, qj (.ifCond .eq 19) 3 40 [false, false]), (24, qa (.lload_n 0) 1), (25, ql (.ldc2_w 231) 3 (lN 1953459300)), (28, qa .lcmp 1), (29, qj (.ifCond .eq 11) 3 40 [false, false])]),
  (46, [(32, qa (.lload_n 0) 1), (33, ql (.ldc2_w 233) 3 (lN 114801865155950)), (36, qa .lcmp 1), (37, qm [false, false] (qj (.ifCond .ne 7) 3 44 [false, false])), (40, qk (.iconst 1) 1 (nI 1)), (41, qj (.goto 4) 3 45 [false, false]), (44, qm [false, false] (qk (.iconst 0) 1 (nI 0))), (45, qf .ireturn 1 0 0 1)])]
-- 87 TinStencilsModel.sideOf(J)I
def tb_87 : qz_B := [(16, [(0, qa (.lload_n 0) 1), (1, ql (.ldc2_w 235) 3 (lN 474316174440)), (4, qa .lcmp 1), (5, qj (.ifCond .ne 7) 3 12 []), (8, qk (.iconst 0) 1 (nI 0)), (9, qj (.goto 40) 3 49 [false, false]), (12, qa (.lload_n 0) 1), (13, ql (.ldc2_w 237) 3 (lN 1700885364))]),
  (32, [(16, qa .lcmp 1), (17, qj (.ifCond .ne 7) 3 24 []), (20, qk (.iconst 1) 1 (nI 1)), (21, qj (.goto 28) 3 49 [false, false]), (24, qa (.lload_n 0) 1), (25, ql (.ldc2_w 239) 3 (lN 495791207528)), (28, qa .lcmp 1), (29, qj (.ifCond .ne 7) 3 36 [])]),
  (48, [(32, qk (.iconst 2) 1 (nI 2)), (33, qj (.goto 16) 3 49 [false, false]), (36, qa (.lload_n 0) 1), (37, ql (.ldc2_w 241) 3 (lN 2003137396)), (40, qa .lcmp 1), (41, qj (.ifCond .ne 7) 3 48 [false, false]), (44, qk (.iconst 3) 1 (nI 3)), (45, qj (.goto 4) 3 49 [false, false])]),
  (50, [(48, qm [false, false] (qk (.iconst (-1)) 1 (-1))), (49, qa .ireturn 1)])]
-- 88 TinStencilsModel.isKept(J)Z
def tb_88 : qz_B := [(16, [(0, qa (.lload_n 0) 1), (1, ql (.ldc2_w 195) 3 (lN 482854663269)), (4, qa .lcmp 1), (5, qj (.ifCond .eq 98) 3 103 [false, false]), (8, qa (.lload_n 0) 1), (9, ql (.ldc2_w 197) 3 (lN 7499639)), (12, qa .lcmp 1), (13, qj (.ifCond .eq 90) 3 103 [false, false])]),
  (32, [(16, qa (.lload_n 0) 1), (17, ql (.ldc2_w 199) 3 (lN 495672455269)), (20, qa .lcmp 1), (21, qj (.ifCond .eq 82) 3 103 [false, false]), (24, qa (.lload_n 0) 1), (25, ql (.ldc2_w 201) 3 (lN 7370100)), (28, qa .lcmp 1), (29, qj (.ifCond .eq 74) 3 103 [false, false])]),
  (48, [(32, qa (.lload_n 0) 1), (33, ql (.ldc2_w 203) 3 (lN 128047779833188)), (36, qa .lcmp 1), (37, qj (.ifCond .eq 66) 3 103 [false, false]), (40, qa (.lload_n 0) 1), (41, ql (.ldc2_w 205) 3 (lN 1752132708)), (44, qa .lcmp 1), (45, qj (.ifCond .eq 58) 3 103 [false, false])]),
  (64, [(48, qa (.lload_n 0) 1), (49, ql (.ldc2_w 207) 3 (lN 512970880104)), (52, qa .lcmp 1), (53, qj (.ifCond .eq 50) 3 103 [false, false]), (56, qa (.lload_n 0) 1), (57, ql (.ldc2_w 209) 3 (lN 29807)), (60, qa .lcmp 1), (61, qj (.ifCond .eq 42) 3 103 [false, false])]),
  (80, [(64, qa (.lload_n 0) 1), (65, ql (.ldc2_w 211) 3 (lN 422827094888)), (68, qa .lcmp 1), (69, qj (.ifCond .eq 34) 3 103 [false, false]), (72, qa (.lload_n 0) 1), (73, ql (.ldc2_w 213) 3 (lN 2003132786)), (76, qa .lcmp 1), (77, qj (.ifCond .eq 26) 3 103 [false, false])]),
  (96, [(80, qa (.lload_n 0) 1), (81, ql (.ldc2_w 215) 3 (lN 108243533981541)), (84, qa .lcmp 1), (85, qj (.ifCond .eq 18) 3 103 [false, false]), (88, qa (.lload_n 0) 1), (89, qc (.invokestatic 217) 3 86 1 1 [0, 2]), (92, qj (.ifCond .ne 11) 3 103 [false, false]), (95, qa (.lload_n 0) 1)]),
  (109, [(96, qc (.invokestatic 221) 3 87 1 1 [0, 2]), (99, qk (.iconst (-1)) 1 (-1)), (100, qm [false, false] (qj (.if_icmp .eq 7) 3 107 [false, false])), (103, qk (.iconst 1) 1 (nI 1)), (104, qj (.goto 4) 3 108 [false, false]), (107, qm [false, false] (qk (.iconst 0) 1 (nI 0))), (108, qf .ireturn 1 0 0 1)])]
-- 89 TinStencilsModel.named(J)I
def tb_89 : qz_B := [(12, [(0, qk (.iconst 0) 1 (nI 0)), (1, qa (.istore_n 3) 1), (2, qa (.iload_n 3) 1), (3, qa (.aload_n 0) 1), (4, qk (.iconst 3) 1 (nI 3)), (5, qc (.invokevirtual 256) 3 80 2 1 [0, 2, 12]), (8, qj (.if_icmp .ge 28) 3 36 [false, false, false, false]), (11, qa (.aload_n 0) 1)]),
  (25, [(12, qf (.getfield 50) 3 12 13 1), (15, qk (.bipush 48) 2 (nI 48)), (17, qa (.iload_n 3) 1), (18, qa .iadd 1), (19, qa .laload 1), (20, qa (.lload_n 1) 1), (21, qa .lcmp 1), (22, qj (.ifCond .ne 8) 3 30 [])]),
  (38, [(25, qk (.bipush 48) 2 (nI 48)), (27, qa (.iload_n 3) 1), (28, qa .iadd 1), (29, qa .ireturn 1), (30, qk (.iinc 3 1) 3 (nI 1)), (33, qj (.goto (-31)) 3 2 []), (36, qk (.iconst (-1)) 1 (-1)), (37, qa .ireturn 1)])]
-- 90 TinStencilsModel.shape()Z
def tb_90 : qz_B := [(13, [(0, qk (.bipush 48) 2 (nI 48)), (2, qa (.aload_n 0) 1), (3, qk (.iconst 3) 1 (nI 3)), (4, qc (.invokevirtual 256) 3 80 2 1 [0, 2, 12]), (7, qa .iadd 1), (8, qa (.istore_n 1) 1), (9, qa (.aload_n 0) 1), (10, qc (.invokevirtual 182) 3 76 1 2 [2, 3, 12])]),
  (27, [(13, qa (.lstore_n 2) 1), (14, qa (.lload_n 2) 1), (15, ql (.lconst 0) 1 (lN 0)), (16, qa .lcmp 1), (17, qj (.ifCond .eq 29) 3 46 [false, false, false, false]), (20, qa (.lload_n 2) 1), (21, qc (.invokestatic 265) 3 88 1 1 [0, 2]), (24, qj (.ifCond .ne 22) 3 46 [false, false, false, false])]),
  (41, [(27, qa (.aload_n 0) 1), (28, qa (.lload_n 2) 1), (29, qc (.invokevirtual 268) 3 89 2 1 [1, 4, 12]), (32, qk (.iconst (-1)) 1 (-1)), (33, qj (.if_icmp .ne 13) 3 46 [false, false, false, false]), (36, qa (.aload_n 0) 1), (37, qk (.iconst 3) 1 (nI 3)), (38, qc (.invokevirtual 256) 3 80 2 1 [0, 2, 12])]),
  (56, [(41, qk (.bipush 8) 2 (nI 8)), (43, qm [false, false, false, false] (qj (.if_icmp .ne 5) 3 48 [])), (46, qk (.iconst 0) 1 (nI 0)), (47, qf .ireturn 1 0 0 1), (48, qa (.aload_n 0) 1), (49, qa (.aload_n 0) 1), (50, qf (.getfield 179) 3 12 20 0), (53, qf (.putfield 170) 3 12 16 0)]),
  (69, [(56, qa (.aload_n 0) 1), (57, qk (.iconst 1) 1 (nI 1)), (58, qk (.bipush 8) 2 (nI 8)), (60, qc (.invokevirtual 259) 3 83 3 1 [1, 4, 12]), (63, qj (.ifCond .ne 5) 3 68 []), (66, qk (.iconst 0) 1 (nI 0)), (67, qf .ireturn 1 0 0 1), (68, qa (.aload_n 0) 1)]),
  (81, [(69, qf (.getfield 50) 3 12 13 1), (72, qa (.iload_n 1) 1), (73, qa (.lload_n 2) 1), (74, qa .lastore 1), (75, qa (.aload_n 0) 1), (76, qf (.getfield 32) 3 12 7 1), (79, qa (.iload_n 1) 1), (80, qa (.aload_n 0) 1)]),
  (94, [(81, qf (.getfield 192) 3 12 22 0), (84, qa .iastore 1), (85, qa (.aload_n 0) 1), (86, qf (.getfield 38) 3 12 9 1), (89, qk (.bipush 8) 2 (nI 8)), (91, qa (.iload_n 1) 1), (92, qa .imul 1), (93, qa (.aload_n 0) 1)]),
  (106, [(94, qf (.getfield 189) 3 12 23 0), (97, qa .iastore 1), (98, qa (.aload_n 0) 1), (99, qf (.getfield 35) 3 12 8 1), (102, qa (.iload_n 1) 1), (103, qk (.iconst 1) 1 (nI 1)), (104, qa .iastore 1), (105, qa (.aload_n 0) 1)]),
  (124, [(106, qm [true, true, false, false] (qc (.invokevirtual 176) 3 75 1 0 [0, 1, 12])), (109, qa (.aload_n 0) 1), (110, qf (.getfield 170) 3 12 16 0), (113, qa (.aload_n 0) 1), (114, qf (.getfield 173) 3 12 15 0), (117, qj (.if_icmp .ge 86) 3 203 [true, false, false, false]), (120, qa (.aload_n 0) 1), (121, qf (.getfield 61) 3 12 19 1)]),
  (139, [(124, qa (.aload_n 0) 1), (125, qf (.getfield 170) 3 12 16 0), (128, qa .baload 1), (129, qk (.bipush 59) 2 (nI 59)), (131, qj (.if_icmp .eq 72) 3 203 [true, false, false, false]), (134, qa (.aload_n 0) 1), (135, qf (.getfield 35) 3 12 8 1), (138, qa (.iload_n 1) 1)]),
  (152, [(139, qa .iaload 1), (140, qk (.bipush 8) 2 (nI 8)), (142, qj (.if_icmp .eq 22) 3 164 [false, false, false, false]), (145, qa (.aload_n 0) 1), (146, qa (.aload_n 0) 1), (147, qf (.getfield 32) 3 12 7 1), (150, qa (.iload_n 1) 1), (151, qa .iaload 1)]),
  (166, [(152, qa (.aload_n 0) 1), (153, qf (.getfield 32) 3 12 7 1), (156, qa (.iload_n 1) 1), (157, qa .iaload 1), (158, qc (.invokevirtual 259) 3 83 3 1 [1, 4, 12]), (161, qm [false, false, false, false] (qj (.ifCond .ne 5) 3 166 [true, true, false, false])), (164, qk (.iconst 0) 1 (nI 0)), (165, qm [true, true, false, false] (qf .ireturn 1 0 0 1))]),
  (179, [(166, qa (.aload_n 0) 1), (167, qf (.getfield 38) 3 12 9 1), (170, qk (.bipush 8) 2 (nI 8)), (172, qa (.iload_n 1) 1), (173, qa .imul 1), (174, qa (.aload_n 0) 1), (175, qf (.getfield 35) 3 12 8 1), (178, qa (.iload_n 1) 1)]),
  (191, [(179, qa .iaload 1), (180, qa .iadd 1), (181, qa (.aload_n 0) 1), (182, qf (.getfield 189) 3 12 23 0), (185, qa .iastore 1), (186, qa (.aload_n 0) 1), (187, qf (.getfield 35) 3 12 8 1), (190, qa (.iload_n 1) 1)]),
  (203, [(191, qa .dup2 1), (192, qa .iaload 1), (193, qk (.iconst 1) 1 (nI 1)), (194, qa .iadd 1), (195, qa .iastore 1), (196, qa (.aload_n 0) 1), (197, qc (.invokevirtual 176) 3 75 1 0 [0, 1, 12]), (200, qj (.goto (-91)) 3 109 [true, true, false, false])]),
  (215, [(203, qa (.aload_n 0) 1), (204, qk (.iconst 3) 1 (nI 3)), (205, qa (.aload_n 0) 1), (206, qk (.iconst 3) 1 (nI 3)), (207, qc (.invokevirtual 256) 3 80 2 1 [0, 2, 12]), (210, qk (.iconst 1) 1 (nI 1)), (211, qa .iadd 1), (212, qc (.invokevirtual 271) 3 74 3 0 [0, 3, 12])]),
  (217, [(215, qk (.iconst 1) 1 (nI 1)), (216, qf .ireturn 1 0 0 1)])]
-- 91 TinStencilsModel.takesPlace(II)Z
def tb_91 : qz_B := [(13, [(0, qa (.aload_n 0) 1), (1, qa (.iload_n 1) 1), (2, qa (.aload_n 0) 1), (3, qk (.bipush 6) 2 (nI 6)), (5, qc (.invokevirtual 152) 3 82 2 1 [0, 2, 12]), (8, qk (.iconst 1) 1 (nI 1)), (9, qa .isub 1), (10, qc (.invokevirtual 246) 3 78 3 1 [1, 4, 12])]),
  (27, [(13, qj (.ifCond .ne 5) 3 18 [true, false, true]), (16, qk (.iconst 0) 1 (nI 0)), (17, qm [true, false, true] (qf .ireturn 1 0 0 1)), (18, qa (.aload_n 0) 1), (19, qa (.aload_n 0) 1), (20, qf (.getfield 186) 3 12 21 0), (23, qf (.putfield 250) 3 12 25 0), (26, qa (.aload_n 0) 1)]),
  (42, [(27, qa (.iload_n 2) 1), (28, qa (.aload_n 0) 1), (29, qk (.bipush 6) 2 (nI 6)), (31, qc (.invokevirtual 160) 3 81 2 1 [0, 2, 12]), (34, qk (.iconst 1) 1 (nI 1)), (35, qa .isub 1), (36, qc (.invokevirtual 246) 3 78 3 1 [1, 4, 12]), (39, qj (.ifCond .ne 5) 3 44 [true, false, false])]),
  (54, [(42, qk (.iconst 0) 1 (nI 0)), (43, qm [true, false, false] (qf .ireturn 1 0 0 1)), (44, qa (.aload_n 0) 1), (45, qa (.aload_n 0) 1), (46, qf (.getfield 186) 3 12 21 0), (49, qf (.putfield 253) 3 12 26 0), (52, qk (.iconst 1) 1 (nI 1)), (53, qf .ireturn 1 0 0 1)])]
-- 92 TinStencilsModel.has(II)Z
def tb_92 : qz_B := [(10, [(0, qa (.iload_n 0) 1), (1, qa (.iload_n 1) 1), (2, qa .ishr 1), (3, qk (.iconst 1) 1 (nI 1)), (4, qa .iand 1), (5, qk (.iconst 1) 1 (nI 1)), (6, qj (.if_icmp .ne 7) 3 13 [false, false]), (9, qk (.iconst 1) 1 (nI 1))]),
  (15, [(10, qj (.goto 4) 3 14 [false, false]), (13, qm [false, false] (qk (.iconst 0) 1 (nI 0))), (14, qf .ireturn 1 0 0 1)])]
-- 93 TinStencilsModel.turned(IIIIII)I
def tb_93 : qz_B := [(12, [(0, qa (.iload_n 0) 1), (1, qa (.istore 6) 2), (3, qa (.iload_n 1) 1), (4, qa (.istore 7) 2), (6, qa (.iload_n 2) 1), (7, qa (.istore 8) 2), (9, qa (.iload_n 3) 1), (10, qa (.istore 9) 2)]),
  (26, [(12, qk (.iconst 0) 1 (nI 0)), (13, qm [false, false, false, false, true, true, true, true, true, true, true, false, false] (qa (.istore 10) 2)), (15, qa (.iload 10) 2), (17, qa (.iload 4) 2), (19, qj (.if_icmp .ge 38) 3 57 [false, false, false, false, false, true, true, true, false, false, false, false, false]), (22, qa (.iload 9) 2), (24, qk (.iconst 1) 1 (nI 1)), (25, qa .isub 1)]),
  (41, [(26, qa (.iload 7) 2), (28, qa .isub 1), (29, qa (.istore 11) 2), (31, qa (.iload 6) 2), (33, qa (.istore 7) 2), (35, qa (.iload 11) 2), (37, qa (.istore 6) 2), (39, qa (.iload 8) 2)]),
  (59, [(41, qa (.istore 12) 2), (43, qa (.iload 9) 2), (45, qa (.istore 8) 2), (47, qa (.iload 12) 2), (49, qa (.istore 9) 2), (51, qk (.iinc 10 1) 3 (nI 1)), (54, qj (.goto (-39)) 3 15 [false, false, false, false, true, true, true, true, true, true, true, false, false]), (57, qa (.iload 5) 2)]),
  (70, [(59, qj (.ifCond .ne 8) 3 67 [false, false, false, false, false, false, false, true, false, false, false, false, false]), (62, qa (.iload 6) 2), (64, qj (.goto 5) 3 69 [false, false, false, false, false, false, false, false, false, false, false, false, false]), (67, qm [false, false, false, false, false, false, false, false, false, false, false, false, false] (qa (.iload 7) 2)), (69, qa .ireturn 1)])]
-- 94 TinStencilsModel.isWithin(III)Z
def tb_94 : qz_B := [(12, [(0, qa (.iload_n 2) 1), (1, qk (.iconst 0) 1 (nI 0)), (2, qa (.aload_n 0) 1), (3, qa (.iload_n 1) 1), (4, qc (.invokevirtual 152) 3 82 2 1 [0, 2, 12]), (7, qk (.iconst 1) 1 (nI 1)), (8, qa .isub 1), (9, qc (.invokestatic 156) 3 72 3 1 [0, 3])]),
  (24, [(12, qj (.ifCond .eq 22) 3 34 [false, false, false, false]), (15, qa (.iload_n 3) 1), (16, qk (.iconst 0) 1 (nI 0)), (17, qa (.aload_n 0) 1), (18, qa (.iload_n 1) 1), (19, qc (.invokevirtual 160) 3 81 2 1 [0, 2, 12]), (22, qk (.iconst 1) 1 (nI 1)), (23, qa .isub 1)]),
  (36, [(24, qc (.invokestatic 156) 3 72 3 1 [0, 3]), (27, qj (.ifCond .eq 7) 3 34 [false, false, false, false]), (30, qk (.iconst 1) 1 (nI 1)), (31, qj (.goto 4) 3 35 [false, false, false, false]), (34, qm [false, false, false, false] (qk (.iconst 0) 1 (nI 0))), (35, qf .ireturn 1 0 0 1)])]
-- 95 TinStencilsModel.put()Z
def tb_95 : qz_B := [(12, [(0, qa (.aload_n 0) 1), (1, qc (.invokevirtual 182) 3 76 1 2 [2, 3, 12]), (4, qa (.lstore_n 1) 1), (5, qa (.lload_n 1) 1), (6, ql (.lconst 0) 1 (lN 0)), (7, qa .lcmp 1), (8, qj (.ifCond .ne 7) 3 15 [true, true, true, false, false, false, false, false, false]), (11, qk (.iconst (-1)) 1 (-1))]),
  (26, [(12, qj (.goto 8) 3 20 [true, false, false, false, false, false, false, false, false]), (15, qa (.aload_n 0) 1), (16, qa (.lload_n 1) 1), (17, qm [true, false, false, false, false, false, false, false, false] (qc (.invokevirtual 268) 3 89 2 1 [1, 4, 12])), (20, qa (.istore_n 3) 1), (21, qa (.iload_n 3) 1), (22, qk (.iconst (-1)) 1 (-1)), (23, qj (.if_icmp .ne 5) 3 28 [true, false, false, true, false, false, false, false, false])]),
  (38, [(26, qk (.iconst 0) 1 (nI 0)), (27, qm [true, false, false, true, false, false, false, false, false] (qf .ireturn 1 0 0 1)), (28, qa (.aload_n 0) 1), (29, qa (.aload_n 0) 1), (30, qf (.getfield 179) 3 12 20 0), (33, qf (.putfield 170) 3 12 16 0), (36, qa (.aload_n 0) 1), (37, qk (.iconst 0) 1 (nI 0))]),
  (51, [(38, qk (.iconst 0) 1 (nI 0)), (39, qc (.invokevirtual 275) 3 91 3 1 [0, 3, 12]), (42, qj (.ifCond .ne 5) 3 47 [true, false, false, true, false, false, false, false, false]), (45, qk (.iconst 0) 1 (nI 0)), (46, qm [true, false, false, true, false, false, false, false, false] (qf .ireturn 1 0 0 1)), (47, qk (.iconst 0) 1 (nI 0)), (48, qa (.istore 4) 2), (50, qa (.aload_n 0) 1)]),
  (69, [(51, ql (.ldc2_w 203) 3 (lN 128047779833188)), (54, qc (.invokevirtual 278) 3 77 2 1 [0, 3, 12]), (57, qj (.ifCond .eq 20) 3 77 [true, false, false, true, true, false, false, false, false]), (60, qa (.aload_n 0) 1), (61, qk (.iconst 0) 1 (nI 0)), (62, qk (.iconst 3) 1 (nI 3)), (63, qc (.invokevirtual 246) 3 78 3 1 [1, 4, 12]), (66, qj (.ifCond .ne 5) 3 71 [true, false, false, true, false, false, false, false, false])]),
  (82, [(69, qk (.iconst 0) 1 (nI 0)), (70, qm [true, false, false, true, false, false, false, false, false] (qf .ireturn 1 0 0 1)), (71, qa (.aload_n 0) 1), (72, qf (.getfield 186) 3 12 21 0), (75, qm [true, false, false, true, true, false, false, false, false] (qa (.istore 4) 2)), (77, qk (.iconst 0) 1 (nI 0)), (78, qm [true, false, false, true, true, true, false, false, false] (qa (.istore 5) 2)), (80, qa (.iload 5) 2)]),
  (96, [(82, qa (.aload_n 0) 1), (83, qf (.getfield 35) 3 12 8 1), (86, qa (.iload_n 3) 1), (87, qa .iaload 1), (88, qj (.if_icmp .ge 138) 3 226 [false, false, false, false, false, false, false, false, false]), (91, qk (.iconst 0) 1 (nI 0)), (92, qm [true, false, false, true, true, true, true, false, false] (qa (.istore 6) 2)), (94, qa (.iload 6) 2)]),
  (111, [(96, qa (.aload_n 0) 1), (97, qf (.getfield 32) 3 12 7 1), (100, qa (.iload_n 3) 1), (101, qa .iaload 1), (102, qj (.if_icmp .ge 118) 3 220 [true, false, false, true, true, true, false, false, false]), (105, qa (.aload_n 0) 1), (106, qf (.getfield 38) 3 12 9 1), (109, qk (.bipush 8) 2 (nI 8))]),
  (125, [(111, qa (.iload_n 3) 1), (112, qa .imul 1), (113, qa (.iload 5) 2), (115, qa .iadd 1), (116, qa .iaload 1), (117, qa (.iload 6) 2), (119, qc (.invokestatic 281) 3 92 2 1 [0, 2]), (122, qj (.ifCond .ne 6) 3 128 [true, false, false, true, true, true, true, false, false])]),
  (139, [(125, qj (.goto 89) 3 214 [true, false, false, true, true, true, true, false, false]), (128, qa (.iload 6) 2), (130, qa (.iload 5) 2), (132, qa (.aload_n 0) 1), (133, qf (.getfield 32) 3 12 7 1), (136, qa (.iload_n 3) 1), (137, qa .iaload 1), (138, qa (.aload_n 0) 1)]),
  (154, [(139, qf (.getfield 35) 3 12 8 1), (142, qa (.iload_n 3) 1), (143, qa .iaload 1), (144, qa (.iload 4) 2), (146, qk (.iconst 0) 1 (nI 0)), (147, qc (.invokestatic 284) 3 93 6 1 [7, 13]), (150, qa (.aload_n 0) 1), (151, qf (.getfield 250) 3 12 25 0)]),
  (167, [(154, qa .iadd 1), (155, qa (.istore 7) 2), (157, qa (.iload 6) 2), (159, qa (.iload 5) 2), (161, qa (.aload_n 0) 1), (162, qf (.getfield 32) 3 12 7 1), (165, qa (.iload_n 3) 1), (166, qa .iaload 1)]),
  (180, [(167, qa (.aload_n 0) 1), (168, qf (.getfield 35) 3 12 8 1), (171, qa (.iload_n 3) 1), (172, qa .iaload 1), (173, qa (.iload 4) 2), (175, qk (.iconst 1) 1 (nI 1)), (176, qc (.invokestatic 284) 3 93 6 1 [7, 13]), (179, qa (.aload_n 0) 1)]),
  (196, [(180, qf (.getfield 253) 3 12 26 0), (183, qa .iadd 1), (184, qa (.istore 8) 2), (186, qa (.aload_n 0) 1), (187, qk (.bipush 6) 2 (nI 6)), (189, qa (.iload 7) 2), (191, qa (.iload 8) 2), (193, qc (.invokevirtual 288) 3 94 4 1 [0, 4, 12])]),
  (213, [(196, qj (.ifCond .eq 18) 3 214 [true, false, false, true, true, true, true, false, false]), (199, qa (.aload_n 0) 1), (200, qf (.getfield 23) 3 12 4 1), (203, qk (.bipush 6) 2 (nI 6)), (205, qa (.iload 7) 2), (207, qa (.iload 8) 2), (209, qc (.invokestatic 262) 3 84 3 1 [0, 3]), (212, qk (.iconst 1) 1 (nI 1))]),
  (228, [(213, qm [true, false, false, true, true, true, true, false, false] (qa .iastore 1)), (214, qk (.iinc 6 1) 3 (nI 1)), (217, qj (.goto (-123)) 3 94 [true, false, false, true, true, true, true, false, false]), (220, qk (.iinc 5 1) 3 (nI 1)), (223, qj (.goto (-143)) 3 80 [true, false, false, true, true, true, false, false, false]), (226, qk (.iconst 1) 1 (nI 1)), (227, qf .ireturn 1 0 0 1)])]
-- 96 TinStencilsModel.takesSide()Z
def tb_96 : qz_B := [(16, [(0, qa (.aload_n 0) 1), (1, qa (.aload_n 0) 1), (2, qc (.invokevirtual 182) 3 76 1 2 [2, 3, 12]), (5, qc (.invokestatic 221) 3 87 1 1 [0, 2]), (8, qf (.putfield 243) 3 12 24 0), (11, qa (.aload_n 0) 1), (12, qf (.getfield 243) 3 12 24 0), (15, qk (.iconst (-1)) 1 (-1))]),
  (30, [(16, qj (.if_icmp .ne 5) 3 21 []), (19, qk (.iconst 0) 1 (nI 0)), (20, qf .ireturn 1 0 0 1), (21, qa (.aload_n 0) 1), (22, qa (.aload_n 0) 1), (23, qf (.getfield 179) 3 12 20 0), (26, qf (.putfield 170) 3 12 16 0), (29, qk (.iconst 1) 1 (nI 1))]),
  (31, [(30, qf .ireturn 1 0 0 1)])]
-- 97 TinStencilsModel.hold()Z
def tb_97 : qz_B := [(12, [(0, qk (.iconst 0) 1 (nI 0)), (1, qa (.istore_n 1) 1), (2, qa (.aload_n 0) 1), (3, qc (.invokevirtual 291) 3 96 1 1 [0, 1, 12]), (6, qj (.ifCond .ne 5) 3 11 []), (9, qk (.iconst 0) 1 (nI 0)), (10, qf .ireturn 1 0 0 1), (11, qa (.iload_n 1) 1)]),
  (24, [(12, qk (.iconst 1) 1 (nI 1)), (13, qa (.aload_n 0) 1), (14, qf (.getfield 243) 3 12 24 0), (17, qa .ishl 1), (18, qa .ior 1), (19, qa (.istore_n 1) 1), (20, qa (.aload_n 0) 1), (21, qc (.invokevirtual 176) 3 75 1 0 [0, 1, 12])]),
  (40, [(24, qa (.aload_n 0) 1), (25, qf (.getfield 170) 3 12 16 0), (28, qa (.aload_n 0) 1), (29, qf (.getfield 173) 3 12 15 0), (32, qj (.if_icmp .ge 17) 3 49 []), (35, qa (.aload_n 0) 1), (36, qf (.getfield 61) 3 12 19 1), (39, qa (.aload_n 0) 1)]),
  (56, [(40, qf (.getfield 170) 3 12 16 0), (43, qa .baload 1), (44, qk (.bipush 59) 2 (nI 59)), (46, qj (.if_icmp .ne (-44)) 3 2 []), (49, qa (.aload_n 0) 1), (50, qk (.bipush 6) 2 (nI 6)), (52, qa (.iload_n 1) 1), (53, qc (.invokevirtual 271) 3 74 3 0 [0, 3, 12])]),
  (58, [(56, qk (.iconst 1) 1 (nI 1)), (57, qf .ireturn 1 0 0 1)])]
-- 98 TinStencilsModel.worthTold()Z
def tb_98 : qz_B := [(12, [(0, qa (.aload_n 0) 1), (1, qk (.iconst 0) 1 (nI 0)), (2, qk (.iconst 0) 1 (nI 0)), (3, qc (.invokevirtual 275) 3 91 3 1 [0, 3, 12]), (6, qj (.ifCond .ne 5) 3 11 [true, false, false, false, false]), (9, qk (.iconst 0) 1 (nI 0)), (10, qm [true, false, false, false, false] (qf .ireturn 1 0 0 1)), (11, qa (.aload_n 0) 1)]),
  (28, [(12, qf (.getfield 250) 3 12 25 0), (15, qa (.istore_n 1) 1), (16, qa (.aload_n 0) 1), (17, qf (.getfield 253) 3 12 26 0), (20, qa (.istore_n 2) 1), (21, qa (.aload_n 0) 1), (22, ql (.ldc2_w 209) 3 (lN 29807)), (25, qc (.invokevirtual 278) 3 77 2 1 [0, 3, 12])]),
  (42, [(28, qj (.ifCond .eq 22) 3 50 [false, false, false, false, false]), (31, qa (.aload_n 0) 1), (32, qa (.iload_n 1) 1), (33, qa (.iload_n 2) 1), (34, qc (.invokevirtual 275) 3 91 3 1 [0, 3, 12]), (37, qj (.ifCond .eq 13) 3 50 [false, false, false, false, false]), (40, qa (.aload_n 0) 1), (41, qk (.iconst 0) 1 (nI 0))]),
  (55, [(42, qk (.bipush 99) 2 (nI 99)), (44, qc (.invokevirtual 246) 3 78 3 1 [1, 4, 12]), (47, qm [false, false, false, false, false] (qj (.ifCond .ne 5) 3 52 [true, true, true, false, false])), (50, qk (.iconst 0) 1 (nI 0)), (51, qm [true, true, true, false, false] (qf .ireturn 1 0 0 1)), (52, qa (.iload_n 2) 1), (53, qm [true, true, false, true, false] (qa (.istore_n 3) 1)), (54, qa (.iload_n 3) 1)]),
  (71, [(55, qa (.aload_n 0) 1), (56, qf (.getfield 253) 3 12 26 0), (59, qj (.if_icmp .gt 44) 3 103 [false, false, false, false, false]), (62, qa (.iload_n 1) 1), (63, qm [true, true, false, true, true] (qa (.istore 4) 2)), (65, qa (.iload 4) 2), (67, qa (.aload_n 0) 1), (68, qf (.getfield 250) 3 12 25 0)]),
  (87, [(71, qj (.if_icmp .gt 26) 3 97 [true, true, false, true, false]), (74, qa (.aload_n 0) 1), (75, qf (.getfield 26) 3 12 5 1), (78, qk (.bipush 6) 2 (nI 6)), (80, qa (.iload 4) 2), (82, qa (.iload_n 3) 1), (83, qc (.invokestatic 262) 3 84 3 1 [0, 3]), (86, qa (.aload_n 0) 1)]),
  (105, [(87, qf (.getfield 186) 3 12 21 0), (90, qa .iastore 1), (91, qk (.iinc 4 1) 3 (nI 1)), (94, qj (.goto (-29)) 3 65 [true, true, false, true, true]), (97, qk (.iinc 3 1) 3 (nI 1)), (100, qj (.goto (-46)) 3 54 [true, true, false, true, false]), (103, qk (.iconst 1) 1 (nI 1)), (104, qf .ireturn 1 0 0 1)])]
-- 99 TinStencilsModel.numberTold(II)Z
def tb_99 : qz_B := [(12, [(0, qa (.aload_n 0) 1), (1, qk (.iconst 0) 1 (nI 0)), (2, qa (.iload_n 2) 1), (3, qc (.invokevirtual 246) 3 78 3 1 [1, 4, 12]), (6, qj (.ifCond .ne 5) 3 11 [true, true, false]), (9, qk (.iconst 0) 1 (nI 0)), (10, qm [true, true, false] (qf .ireturn 1 0 0 1)), (11, qa (.aload_n 0) 1)]),
  (22, [(12, qa (.iload_n 1) 1), (13, qa (.aload_n 0) 1), (14, qf (.getfield 186) 3 12 21 0), (17, qc (.invokevirtual 271) 3 74 3 0 [0, 3, 12]), (20, qk (.iconst 1) 1 (nI 1)), (21, qf .ireturn 1 0 0 1)])]
-- 100 TinStencilsModel.east(I)I
def tb_100 : qz_B := [(14, [(0, qa (.iload_n 0) 1), (1, qk (.iconst 1) 1 (nI 1)), (2, qj (.if_icmp .ne 7) 3 9 []), (5, qk (.iconst 1) 1 (nI 1)), (6, qj (.goto 13) 3 19 [false]), (9, qa (.iload_n 0) 1), (10, qk (.iconst 3) 1 (nI 3)), (11, qj (.if_icmp .ne 7) 3 18 [false])]),
  (20, [(14, qk (.iconst (-1)) 1 (-1)), (15, qj (.goto 4) 3 19 [false]), (18, qm [false] (qk (.iconst 0) 1 (nI 0))), (19, qa .ireturn 1)])]
-- 101 TinStencilsModel.south(I)I
def tb_101 : qz_B := [(14, [(0, qa (.iload_n 0) 1), (1, qk (.iconst 2) 1 (nI 2)), (2, qj (.if_icmp .ne 7) 3 9 []), (5, qk (.iconst 1) 1 (nI 1)), (6, qj (.goto 12) 3 18 [false]), (9, qa (.iload_n 0) 1), (10, qj (.ifCond .ne 7) 3 17 [false]), (13, qk (.iconst (-1)) 1 (-1))]),
  (19, [(14, qj (.goto 4) 3 18 [false]), (17, qm [false] (qk (.iconst 0) 1 (nI 0))), (18, qa .ireturn 1)])]
-- 102 TinStencilsModel.lays(IIIIII)V
def tb_102 : qz_B := [(15, [(0, qa (.iload 5) 2), (2, qm [true, true, true, true, true, false, true, true] (qa (.istore 7) 2)), (4, qa (.iload 7) 2), (6, qa (.iload 6) 2), (8, qj (.if_icmp .gt 78) 3 86 [false, false, false, false, false, false, false, false]), (11, qa (.aload_n 0) 1), (12, qa (.iload_n 2) 1), (13, qa (.iload 7) 2)]),
  (29, [(15, qa (.iload 4) 2), (17, qc (.invokestatic 295) 3 100 1 1 [0, 1]), (20, qa .imul 1), (21, qa .iadd 1), (22, qf (.putfield 298) 3 12 27 0), (25, qa (.aload_n 0) 1), (26, qa (.iload_n 3) 1), (27, qa (.iload 7) 2)]),
  (43, [(29, qa (.iload 4) 2), (31, qc (.invokestatic 301) 3 101 1 1 [0, 1]), (34, qa .imul 1), (35, qa .iadd 1), (36, qf (.putfield 304) 3 12 28 0), (39, qa (.aload_n 0) 1), (40, qk (.bipush 6) 2 (nI 6)), (42, qa (.aload_n 0) 1)]),
  (62, [(43, qf (.getfield 298) 3 12 27 0), (46, qa (.aload_n 0) 1), (47, qf (.getfield 304) 3 12 28 0), (50, qc (.invokevirtual 288) 3 94 4 1 [0, 4, 12]), (53, qj (.ifCond .eq 27) 3 80 [true, true, true, true, true, false, true, true]), (56, qa (.aload_n 0) 1), (57, qf (.getfield 29) 3 12 6 1), (60, qk (.bipush 6) 2 (nI 6))]),
  (76, [(62, qa (.aload_n 0) 1), (63, qf (.getfield 298) 3 12 27 0), (66, qa (.aload_n 0) 1), (67, qf (.getfield 304) 3 12 28 0), (70, qc (.invokestatic 262) 3 84 3 1 [0, 3]), (73, qa .dup2 1), (74, qa .iaload 1), (75, qk (.iconst 1) 1 (nI 1))]),
  (87, [(76, qa (.iload_n 1) 1), (77, qa .ishl 1), (78, qa .ior 1), (79, qm [true, true, true, true, true, false, true, true] (qa .iastore 1)), (80, qk (.iinc 7 1) 3 (nI 1)), (83, qj (.goto (-79)) 3 4 [true, true, true, true, true, false, true, true]), (86, qa .return_ 1)])]
-- 103 TinStencilsModel.cornerTold(I)Z
def tb_103 : qz_B := [(16, [(0, qa (.aload_n 0) 1), (1, qk (.iconst 0) 1 (nI 0)), (2, qk (.iconst 0) 1 (nI 0)), (3, qc (.invokevirtual 275) 3 91 3 1 [0, 3, 12]), (6, qj (.ifCond .eq 20) 3 26 [false, false, false, false]), (9, qa (.aload_n 0) 1), (10, qc (.invokevirtual 291) 3 96 1 1 [0, 1, 12]), (13, qj (.ifCond .eq 13) 3 26 [false, false, false, false])]),
  (29, [(16, qa (.aload_n 0) 1), (17, qk (.iconst 1) 1 (nI 1)), (18, qk (.bipush 20) 2 (nI 20)), (20, qc (.invokevirtual 246) 3 78 3 1 [1, 4, 12]), (23, qm [false, false, false, false] (qj (.ifCond .ne 5) 3 28 [true, true, false, false])), (26, qk (.iconst 0) 1 (nI 0)), (27, qm [true, true, false, false] (qf .ireturn 1 0 0 1)), (28, qa (.aload_n 0) 1)]),
  (43, [(29, qa (.iload_n 1) 1), (30, qa (.aload_n 0) 1), (31, qf (.getfield 250) 3 12 25 0), (34, qa (.aload_n 0) 1), (35, qf (.getfield 253) 3 12 26 0), (38, qa (.aload_n 0) 1), (39, qf (.getfield 243) 3 12 24 0), (42, qk (.iconst 0) 1 (nI 0))]),
  (57, [(43, qa (.aload_n 0) 1), (44, qf (.getfield 186) 3 12 21 0), (47, qk (.iconst 1) 1 (nI 1)), (48, qa .isub 1), (49, qc (.invokevirtual 307) 3 102 7 0 [1, 8, 12]), (52, qa (.aload_n 0) 1), (53, qf (.getfield 298) 3 12 27 0), (56, qa (.istore_n 2) 1)]),
  (71, [(57, qa (.aload_n 0) 1), (58, qf (.getfield 304) 3 12 28 0), (61, qa (.istore_n 3) 1), (62, qa (.aload_n 0) 1), (63, qc (.invokevirtual 291) 3 96 1 1 [0, 1, 12]), (66, qj (.ifCond .eq 13) 3 79 [false, false, false, false]), (69, qa (.aload_n 0) 1), (70, qk (.iconst 1) 1 (nI 1))]),
  (84, [(71, qk (.bipush 20) 2 (nI 20)), (73, qc (.invokevirtual 246) 3 78 3 1 [1, 4, 12]), (76, qm [false, false, false, false] (qj (.ifCond .ne 5) 3 81 [])), (79, qk (.iconst 0) 1 (nI 0)), (80, qf .ireturn 1 0 0 1), (81, qa (.aload_n 0) 1), (82, qa (.iload_n 1) 1), (83, qa (.iload_n 2) 1)]),
  (98, [(84, qa (.iload_n 3) 1), (85, qa (.aload_n 0) 1), (86, qf (.getfield 243) 3 12 24 0), (89, qk (.iconst 1) 1 (nI 1)), (90, qa (.aload_n 0) 1), (91, qf (.getfield 186) 3 12 21 0), (94, qc (.invokevirtual 307) 3 102 7 0 [1, 8, 12]), (97, qa (.aload_n 0) 1)]),
  (110, [(98, qf (.getfield 47) 3 12 12 1), (101, qk (.bipush 72) 2 (nI 72)), (103, qa (.iload_n 1) 1), (104, qa .iadd 1), (105, qk (.bipush 80) 2 (nI 80)), (107, qa .iastore 1), (108, qk (.iconst 1) 1 (nI 1)), (109, qf .ireturn 1 0 0 1)])]
-- 104 TinStencilsModel.unit(Z)I
def tb_104 : qz_B := [(10, [(0, qa (.iload_n 0) 1), (1, qj (.ifCond .eq 7) 3 8 [false]), (4, qk (.iconst 1) 1 (nI 1)), (5, qj (.goto 4) 3 9 [false]), (8, qm [false] (qk (.iconst 0) 1 (nI 0))), (9, qa .ireturn 1)])]
-- 105 TinStencilsModel.countBridge(IIZ)I
def tb_105 : qz_B := [(15, [(0, qk (.iconst 0) 1 (nI 0)), (1, qa (.istore 4) 2), (3, qk (.sipush 400) 3 (nI 400)), (6, qa (.iload_n 1) 1), (7, qa .imul 1), (8, qa (.istore 5) 2), (10, qa (.iload 5) 2), (12, qk (.sipush 400) 3 (nI 400))]),
  (30, [(15, qa (.iload_n 1) 1), (16, qa .imul 1), (17, qk (.sipush 400) 3 (nI 400)), (20, qa .iadd 1), (21, qj (.if_icmp .ge 51) 3 72 [false, false, false, false, true, false]), (24, qa (.iload 4) 2), (26, qa (.aload_n 0) 1), (27, qf (.getfield 29) 3 12 6 1)]),
  (45, [(30, qa (.iload 5) 2), (32, qa .iaload 1), (33, qa (.iload_n 2) 1), (34, qc (.invokestatic 281) 3 92 2 1 [0, 2]), (37, qj (.ifCond .eq 22) 3 59 [true, true, true, true, false, true]), (40, qa (.iload_n 3) 1), (41, qj (.ifCond .eq 14) 3 55 [true, true, true, true, false, true]), (44, qa (.aload_n 0) 1)]),
  (60, [(45, qf (.getfield 23) 3 12 4 1), (48, qa (.iload 5) 2), (50, qa .iaload 1), (51, qk (.iconst 1) 1 (nI 1)), (52, qm [true, true, true, true, false, true] (qj (.if_icmp .ne 7) 3 59 [true, true, true, true, false, true])), (55, qk (.iconst 1) 1 (nI 1)), (56, qj (.goto 4) 3 60 [true, true, true, true, false, true]), (59, qm [true, true, true, true, false, true] (qk (.iconst 0) 1 (nI 0)))]),
  (75, [(60, qc (.invokestatic 319) 3 104 1 1 [0, 1]), (63, qa .iadd 1), (64, qa (.istore 4) 2), (66, qk (.iinc 5 1) 3 (nI 1)), (69, qj (.goto (-59)) 3 10 []), (72, qa (.iload 4) 2), (74, qa .ireturn 1)])]
-- 106 TinStencilsModel.squaresTold(I)Z
def tb_106 : qz_B := [(12, [(0, qk (.iconst 0) 1 (nI 0)), (1, qa (.istore_n 2) 1), (2, qa (.aload_n 0) 1), (3, qk (.iconst 0) 1 (nI 0)), (4, qk (.iconst 0) 1 (nI 0)), (5, qc (.invokevirtual 275) 3 91 3 1 [0, 3, 12]), (8, qj (.ifCond .ne 5) 3 13 []), (11, qk (.iconst 0) 1 (nI 0))]),
  (27, [(12, qf .ireturn 1 0 0 1), (13, qa (.aload_n 0) 1), (14, qf (.getfield 29) 3 12 6 1), (17, qk (.bipush 6) 2 (nI 6)), (19, qa (.aload_n 0) 1), (20, qf (.getfield 250) 3 12 25 0), (23, qa (.aload_n 0) 1), (24, qf (.getfield 253) 3 12 26 0)]),
  (37, [(27, qc (.invokestatic 262) 3 84 3 1 [0, 3]), (30, qa .dup2 1), (31, qa .iaload 1), (32, qk (.iconst 1) 1 (nI 1)), (33, qa (.iload_n 1) 1), (34, qa .ishl 1), (35, qa .ior 1), (36, qa .iastore 1)]),
  (55, [(37, qk (.iinc 2 1) 3 (nI 1)), (40, qa (.iload_n 2) 1), (41, qk (.bipush 8) 2 (nI 8)), (43, qj (.if_icmp .ge 12) 3 55 [true, true, false]), (46, qa (.aload_n 0) 1), (47, qk (.bipush 44) 2 (nI 44)), (49, qc (.invokevirtual 311) 3 79 2 1 [0, 2, 12]), (52, qm [true, true, false] (qj (.ifCond .ne (-50)) 3 2 []))]),
  (68, [(55, qa (.aload_n 0) 1), (56, qf (.getfield 47) 3 12 12 1), (59, qk (.bipush 72) 2 (nI 72)), (61, qa (.iload_n 1) 1), (62, qa .iadd 1), (63, qk (.bipush 60) 2 (nI 60)), (65, qa (.aload_n 0) 1), (66, qk (.bipush 6) 2 (nI 6))]),
  (77, [(68, qa (.iload_n 1) 1), (69, qk (.iconst 0) 1 (nI 0)), (70, qc (.invokevirtual 315) 3 105 4 1 [2, 6, 12]), (73, qa .imul 1), (74, qa .iastore 1), (75, qk (.iconst 1) 1 (nI 1)), (76, qf .ireturn 1 0 0 1)])]
-- 107 TinStencilsModel.straight(IZ)Z
def tb_107 : qz_B := [(16, [(0, qa (.aload_n 0) 1), (1, qk (.iconst 0) 1 (nI 0)), (2, qk (.iconst 0) 1 (nI 0)), (3, qc (.invokevirtual 275) 3 91 3 1 [0, 3, 12]), (6, qj (.ifCond .eq 20) 3 26 [false, false, false, false, false, false, false, false]), (9, qa (.aload_n 0) 1), (10, qc (.invokevirtual 291) 3 96 1 1 [0, 1, 12]), (13, qj (.ifCond .eq 13) 3 26 [false, false, false, false, false, false, false, false])]),
  (29, [(16, qa (.aload_n 0) 1), (17, qk (.iconst 1) 1 (nI 1)), (18, qk (.bipush 20) 2 (nI 20)), (20, qc (.invokevirtual 246) 3 78 3 1 [1, 4, 12]), (23, qm [false, false, false, false, false, false, false, false] (qj (.ifCond .ne 5) 3 28 [true, true, true, false, false, false, false, false])), (26, qk (.iconst 0) 1 (nI 0)), (27, qm [true, true, true, false, false, false, false, false] (qf .ireturn 1 0 0 1)), (28, qa (.aload_n 0) 1)]),
  (43, [(29, qf (.getfield 243) 3 12 24 0), (32, qa (.istore_n 3) 1), (33, qa (.aload_n 0) 1), (34, qf (.getfield 186) 3 12 21 0), (37, qa (.istore 4) 2), (39, qk (.iconst 1) 1 (nI 1)), (40, qa (.istore 5) 2), (42, qa (.iload_n 2) 1)]),
  (57, [(43, qj (.ifCond .eq 20) 3 63 [true, true, false, true, true, true, false, false]), (46, qa (.aload_n 0) 1), (47, qk (.iconst 2) 1 (nI 2)), (48, qk (.iconst 4) 1 (nI 4)), (49, qc (.invokevirtual 246) 3 78 3 1 [1, 4, 12]), (52, qj (.ifCond .ne 5) 3 57 [true, true, false, true, true, false, false, false]), (55, qk (.iconst 0) 1 (nI 0)), (56, qm [true, true, false, true, true, false, false, false] (qf .ireturn 1 0 0 1))]),
  (68, [(57, qa (.aload_n 0) 1), (58, qf (.getfield 186) 3 12 21 0), (61, qm [true, true, false, true, true, true, false, false] (qa (.istore 5) 2)), (63, qa (.iload_n 3) 1), (64, qk (.iconst 1) 1 (nI 1)), (65, qa .iadd 1), (66, qk (.iconst 4) 1 (nI 4)), (67, qa .irem 1)]),
  (82, [(68, qa (.istore 6) 2), (70, qk (.iconst 0) 1 (nI 0)), (71, qm [true, true, false, true, true, true, true, true] (qa (.istore 7) 2)), (73, qa (.iload 7) 2), (75, qa (.iload 5) 2), (77, qj (.if_icmp .ge 46) 3 123 [true, true, false, false, false, true, false, false]), (80, qa (.aload_n 0) 1), (81, qa (.iload_n 1) 1)]),
  (96, [(82, qa (.aload_n 0) 1), (83, qf (.getfield 250) 3 12 25 0), (86, qa (.iload 7) 2), (88, qa (.iload 6) 2), (90, qc (.invokestatic 295) 3 100 1 1 [0, 1]), (93, qa .imul 1), (94, qa .iadd 1), (95, qa (.aload_n 0) 1)]),
  (110, [(96, qf (.getfield 253) 3 12 26 0), (99, qa (.iload 7) 2), (101, qa (.iload 6) 2), (103, qc (.invokestatic 301) 3 101 1 1 [0, 1]), (106, qa .imul 1), (107, qa .iadd 1), (108, qa (.iload_n 3) 1), (109, qk (.iconst 0) 1 (nI 0))]),
  (127, [(110, qa (.iload 4) 2), (112, qk (.iconst 1) 1 (nI 1)), (113, qa .isub 1), (114, qc (.invokevirtual 307) 3 102 7 0 [1, 8, 12]), (117, qk (.iinc 7 1) 3 (nI 1)), (120, qj (.goto (-47)) 3 73 [true, true, false, true, true, true, true, true]), (123, qa (.aload_n 0) 1), (124, qf (.getfield 47) 3 12 12 1)]),
  (138, [(127, qk (.bipush 72) 2 (nI 72)), (129, qa (.iload_n 1) 1), (130, qa .iadd 1), (131, qk (.bipush 100) 2 (nI 100)), (133, qa (.iload 5) 2), (135, qa .imul 1), (136, qa .iastore 1), (137, qk (.iconst 1) 1 (nI 1))]),
  (139, [(138, qf .ireturn 1 0 0 1)])]
-- 108 TinStencilsModel.bridgeTold()Z
def tb_108 : qz_B := [(16, [(0, qa (.aload_n 0) 1), (1, qk (.iconst 4) 1 (nI 4)), (2, qc (.invokevirtual 256) 3 80 2 1 [0, 2, 12]), (5, qa (.istore_n 1) 1), (6, qa (.aload_n 0) 1), (7, ql (.ldc2_w 225) 3 (lN 8319400174365927540)), (10, qc (.invokevirtual 278) 3 77 2 1 [0, 3, 12]), (13, qj (.ifCond .eq 7) 3 20 [true, true, false, false])]),
  (34, [(16, qk (.iconst 0) 1 (nI 0)), (17, qj (.goto 46) 3 63 [true, true, false, false]), (20, qa (.aload_n 0) 1), (21, ql (.ldc2_w 227) 3 (lN 422826697060)), (24, qc (.invokevirtual 278) 3 77 2 1 [0, 3, 12]), (27, qj (.ifCond .eq 7) 3 34 [true, true, false, false]), (30, qk (.iconst 1) 1 (nI 1)), (31, qj (.goto 32) 3 63 [true, true, false, false])]),
  (52, [(34, qa (.aload_n 0) 1), (35, ql (.ldc2_w 229) 3 (lN 109330312357234)), (38, qc (.invokevirtual 278) 3 77 2 1 [0, 3, 12]), (41, qj (.ifCond .eq 7) 3 48 [true, true, false, false]), (44, qk (.iconst 2) 1 (nI 2)), (45, qj (.goto 18) 3 63 [true, true, false, false]), (48, qa (.aload_n 0) 1), (49, ql (.ldc2_w 231) 3 (lN 1953459300))]),
  (66, [(52, qc (.invokevirtual 278) 3 77 2 1 [0, 3, 12]), (55, qj (.ifCond .eq 7) 3 62 [true, true, false, false]), (58, qk (.iconst 3) 1 (nI 3)), (59, qj (.goto 4) 3 63 [true, true, false, false]), (62, qm [true, true, false, false] (qk (.iconst (-1)) 1 (-1))), (63, qa (.istore_n 2) 1), (64, qa (.iload_n 2) 1), (65, qk (.iconst (-1)) 1 (-1))]),
  (78, [(66, qj (.if_icmp .ne 5) 3 71 [true, true, true, false]), (69, qk (.iconst 0) 1 (nI 0)), (70, qm [true, true, true, false] (qf .ireturn 1 0 0 1)), (71, qa (.iload_n 2) 1), (72, qk (.iconst 2) 1 (nI 2)), (73, qj (.if_icmp .ne 11) 3 84 [true, true, true, false]), (76, qa (.aload_n 0) 1), (77, qa (.iload_n 1) 1)]),
  (94, [(78, qc (.invokevirtual 323) 3 103 2 1 [2, 4, 12]), (81, qj (.goto 31) 3 112 [true, true, true, false]), (84, qa (.iload_n 2) 1), (85, qk (.iconst 3) 1 (nI 3)), (86, qj (.if_icmp .ne 11) 3 97 [true, true, true, false]), (89, qa (.aload_n 0) 1), (90, qa (.iload_n 1) 1), (91, qc (.invokevirtual 326) 3 106 2 1 [1, 3, 12])]),
  (108, [(94, qj (.goto 18) 3 112 [true, true, true, false]), (97, qa (.aload_n 0) 1), (98, qa (.iload_n 1) 1), (99, qa (.iload_n 2) 1), (100, qk (.iconst 1) 1 (nI 1)), (101, qj (.if_icmp .ne 7) 3 108 [true, true, true, false]), (104, qk (.iconst 1) 1 (nI 1)), (105, qj (.goto 4) 3 109 [true, true, true, false])]),
  (120, [(108, qm [true, true, true, false] (qk (.iconst 0) 1 (nI 0))), (109, qm [true, true, true, false] (qc (.invokevirtual 329) 3 107 3 1 [5, 8, 12])), (112, qa (.istore_n 3) 1), (113, qa (.iload_n 3) 1), (114, qj (.ifCond .ne 5) 3 119 [true, true, true, false]), (117, qk (.iconst 0) 1 (nI 0)), (118, qm [true, true, true, false] (qf .ireturn 1 0 0 1)), (119, qa (.aload_n 0) 1)]),
  (133, [(120, qf (.getfield 41) 3 12 10 1), (123, qk (.bipush 72) 2 (nI 72)), (125, qa (.iload_n 1) 1), (126, qa .iadd 1), (127, qa (.iload_n 2) 1), (128, qa .iastore 1), (129, qa (.aload_n 0) 1), (130, qf (.getfield 44) 3 12 11 1)]),
  (148, [(133, qk (.bipush 72) 2 (nI 72)), (135, qa (.iload_n 1) 1), (136, qa .iadd 1), (137, qa (.aload_n 0) 1), (138, ql (.ldc2_w 233) 3 (lN 114801865155950)), (141, qc (.invokevirtual 278) 3 77 2 1 [0, 3, 12]), (144, qc (.invokestatic 319) 3 104 1 1 [0, 1]), (147, qa .iastore 1)]),
  (158, [(148, qa (.aload_n 0) 1), (149, qk (.iconst 4) 1 (nI 4)), (150, qa (.iload_n 1) 1), (151, qk (.iconst 1) 1 (nI 1)), (152, qa .iadd 1), (153, qc (.invokevirtual 271) 3 74 3 0 [0, 3, 12]), (156, qk (.iconst 1) 1 (nI 1)), (157, qf .ireturn 1 0 0 1)])]
-- 109 TinStencilsModel.statement()Z
def tb_109 : qz_B := [(16, [(0, qa (.aload_n 0) 1), (1, ql (.ldc2_w 197) 3 (lN 7499639)), (4, qc (.invokevirtual 278) 3 77 2 1 [0, 3, 12]), (7, qj (.ifCond .eq 8) 3 15 []), (10, qa (.aload_n 0) 1), (11, qc (.invokevirtual 333) 3 85 1 1 [2, 3, 12]), (14, qf .ireturn 1 0 0 1), (15, qa (.aload_n 0) 1)]),
  (34, [(16, ql (.ldc2_w 199) 3 (lN 495672455269)), (19, qc (.invokevirtual 278) 3 77 2 1 [0, 3, 12]), (22, qj (.ifCond .eq 8) 3 30 []), (25, qa (.aload_n 0) 1), (26, qc (.invokevirtual 336) 3 90 1 1 [3, 4, 12]), (29, qf .ireturn 1 0 0 1), (30, qa (.aload_n 0) 1), (31, ql (.ldc2_w 201) 3 (lN 7370100))]),
  (52, [(34, qc (.invokevirtual 278) 3 77 2 1 [0, 3, 12]), (37, qj (.ifCond .eq 8) 3 45 []), (40, qa (.aload_n 0) 1), (41, qc (.invokevirtual 339) 3 95 1 1 [8, 9, 12]), (44, qf .ireturn 1 0 0 1), (45, qa (.aload_n 0) 1), (46, ql (.ldc2_w 205) 3 (lN 1752132708)), (49, qc (.invokevirtual 278) 3 77 2 1 [0, 3, 12])]),
  (70, [(52, qj (.ifCond .eq 8) 3 60 []), (55, qa (.aload_n 0) 1), (56, qc (.invokevirtual 342) 3 97 1 1 [1, 2, 12]), (59, qf .ireturn 1 0 0 1), (60, qa (.aload_n 0) 1), (61, ql (.ldc2_w 207) 3 (lN 512970880104)), (64, qc (.invokevirtual 278) 3 77 2 1 [0, 3, 12]), (67, qj (.ifCond .eq 8) 3 75 [])]),
  (86, [(70, qa (.aload_n 0) 1), (71, qc (.invokevirtual 345) 3 98 1 1 [4, 5, 12]), (74, qf .ireturn 1 0 0 1), (75, qa (.aload_n 0) 1), (76, ql (.ldc2_w 211) 3 (lN 422827094888)), (79, qc (.invokevirtual 278) 3 77 2 1 [0, 3, 12]), (82, qj (.ifCond .eq 13) 3 95 []), (85, qa (.aload_n 0) 1)]),
  (105, [(86, qk (.bipush 7) 2 (nI 7)), (88, qk (.sipush 400) 3 (nI 400)), (91, qc (.invokevirtual 348) 3 99 3 1 [0, 3, 12]), (94, qf .ireturn 1 0 0 1), (95, qa (.aload_n 0) 1), (96, ql (.ldc2_w 213) 3 (lN 2003132786)), (99, qc (.invokevirtual 278) 3 77 2 1 [0, 3, 12]), (102, qj (.ifCond .eq 13) 3 115 [])]),
  (120, [(105, qa (.aload_n 0) 1), (106, qk (.bipush 8) 2 (nI 8)), (108, qk (.sipush 999) 3 (nI 999)), (111, qc (.invokevirtual 348) 3 99 3 1 [0, 3, 12]), (114, qf .ireturn 1 0 0 1), (115, qa (.aload_n 0) 1), (116, qk (.iconst 4) 1 (nI 4)), (117, qc (.invokevirtual 256) 3 80 2 1 [0, 2, 12])]),
  (139, [(120, qk (.bipush 12) 2 (nI 12)), (122, qj (.if_icmp .ge 24) 3 146 [false]), (125, qa (.aload_n 0) 1), (126, ql (.ldc2_w 215) 3 (lN 108243533981541)), (129, qc (.invokevirtual 278) 3 77 2 1 [0, 3, 12]), (132, qj (.ifCond .eq 14) 3 146 [false]), (135, qa (.aload_n 0) 1), (136, qc (.invokevirtual 351) 3 108 1 1 [3, 4, 12])]),
  (148, [(139, qj (.ifCond .eq 7) 3 146 [false]), (142, qk (.iconst 1) 1 (nI 1)), (143, qj (.goto 4) 3 147 [false]), (146, qm [false] (qk (.iconst 0) 1 (nI 0))), (147, qf .ireturn 1 0 0 1)])]
-- 110 TinStencilsModel.plateTold()Z
def tb_110 : qz_B := [(11, [(0, qk (.iconst 0) 1 (nI 0)), (1, qa (.istore_n 1) 1), (2, qa (.iload_n 1) 1), (3, qk (.bipush 16) 2 (nI 16)), (5, qj (.if_icmp .ge 15) 3 20 [true, false]), (8, qa (.aload_n 0) 1), (9, qa (.iload_n 1) 1), (10, qk (.iconst 0) 1 (nI 0))]),
  (31, [(11, qc (.invokevirtual 271) 3 74 3 0 [0, 3, 12]), (14, qk (.iinc 1 1) 3 (nI 1)), (17, qj (.goto (-15)) 3 2 []), (20, qa (.aload_n 0) 1), (21, ql (.ldc2_w 195) 3 (lN 482854663269)), (24, qc (.invokevirtual 278) 3 77 2 1 [0, 3, 12]), (27, qj (.ifCond .eq 13) 3 40 [false, false]), (30, qa (.aload_n 0) 1)]),
  (44, [(31, qk (.iconst 1) 1 (nI 1)), (32, qk (.bipush 20) 2 (nI 20)), (34, qc (.invokevirtual 246) 3 78 3 1 [1, 4, 12]), (37, qm [false, false] (qj (.ifCond .ne 5) 3 42 [true, false])), (40, qk (.iconst 0) 1 (nI 0)), (41, qm [true, false] (qf .ireturn 1 0 0 1)), (42, qa (.aload_n 0) 1), (43, qk (.iconst 0) 1 (nI 0))]),
  (61, [(44, qa (.aload_n 0) 1), (45, qf (.getfield 186) 3 12 21 0), (48, qc (.invokevirtual 271) 3 74 3 0 [0, 3, 12]), (51, qa (.aload_n 0) 1), (52, qk (.iconst 1) 1 (nI 1)), (53, qk (.bipush 20) 2 (nI 20)), (55, qc (.invokevirtual 246) 3 78 3 1 [1, 4, 12]), (58, qj (.ifCond .ne 5) 3 63 [true, false])]),
  (73, [(61, qk (.iconst 0) 1 (nI 0)), (62, qm [true, false] (qf .ireturn 1 0 0 1)), (63, qa (.aload_n 0) 1), (64, qk (.iconst 1) 1 (nI 1)), (65, qa (.aload_n 0) 1), (66, qf (.getfield 186) 3 12 21 0), (69, qc (.invokevirtual 271) 3 74 3 0 [0, 3, 12]), (72, qa (.aload_n 0) 1)]),
  (91, [(73, qk (.bipush 6) 2 (nI 6)), (75, qk (.bipush 15) 2 (nI 15)), (77, qc (.invokevirtual 271) 3 74 3 0 [0, 3, 12]), (80, qk (.sipush 2400) 3 (nI 2400)), (83, qa (.istore_n 1) 1), (84, qa (.iload_n 1) 1), (85, qk (.sipush 2800) 3 (nI 2800)), (88, qj (.if_icmp .ge 30) 3 118 [true, false])]),
  (103, [(91, qa (.aload_n 0) 1), (92, qf (.getfield 23) 3 12 4 1), (95, qa (.iload_n 1) 1), (96, qk (.iconst 0) 1 (nI 0)), (97, qa .iastore 1), (98, qa (.aload_n 0) 1), (99, qf (.getfield 26) 3 12 5 1), (102, qa (.iload_n 1) 1)]),
  (115, [(103, qk (.iconst 1) 1 (nI 1)), (104, qa .iastore 1), (105, qa (.aload_n 0) 1), (106, qf (.getfield 29) 3 12 6 1), (109, qa (.iload_n 1) 1), (110, qk (.iconst 0) 1 (nI 0)), (111, qa .iastore 1), (112, qk (.iinc 1 1) 3 (nI 1))]),
  (130, [(115, qj (.goto (-31)) 3 84 []), (118, qa (.aload_n 0) 1), (119, qk (.bipush 59) 2 (nI 59)), (121, qc (.invokevirtual 311) 3 79 2 1 [0, 2, 12]), (124, qj (.ifCond .ne 5) 3 129 [true, false]), (127, qk (.iconst 0) 1 (nI 0)), (128, qm [true, false] (qf .ireturn 1 0 0 1)), (129, qa (.aload_n 0) 1)]),
  (146, [(130, qm [true, false] (qc (.invokevirtual 176) 3 75 1 0 [0, 1, 12])), (133, qa (.aload_n 0) 1), (134, qf (.getfield 170) 3 12 16 0), (137, qa (.aload_n 0) 1), (138, qf (.getfield 173) 3 12 15 0), (141, qj (.if_icmp .ge 50) 3 191 [true, false]), (144, qa (.aload_n 0) 1), (145, qk (.iconst 2) 1 (nI 2))]),
  (164, [(146, qc (.invokevirtual 256) 3 80 2 1 [0, 2, 12]), (149, qk (.bipush 60) 2 (nI 60)), (151, qj (.if_icmp .eq 19) 3 170 [false, false]), (154, qa (.aload_n 0) 1), (155, qc (.invokevirtual 354) 3 109 1 1 [0, 1, 12]), (158, qj (.ifCond .eq 12) 3 170 [false, false]), (161, qa (.aload_n 0) 1), (162, qk (.bipush 59) 2 (nI 59))]),
  (176, [(164, qc (.invokevirtual 311) 3 79 2 1 [0, 2, 12]), (167, qm [false, false] (qj (.ifCond .ne 5) 3 172 [true, false])), (170, qk (.iconst 0) 1 (nI 0)), (171, qm [true, false] (qf .ireturn 1 0 0 1)), (172, qa (.aload_n 0) 1), (173, qk (.iconst 2) 1 (nI 2)), (174, qa (.aload_n 0) 1), (175, qk (.iconst 2) 1 (nI 2))]),
  (192, [(176, qc (.invokevirtual 256) 3 80 2 1 [0, 2, 12]), (179, qk (.iconst 1) 1 (nI 1)), (180, qa .iadd 1), (181, qc (.invokevirtual 271) 3 74 3 0 [0, 3, 12]), (184, qa (.aload_n 0) 1), (185, qc (.invokevirtual 176) 3 75 1 0 [0, 1, 12]), (188, qj (.goto (-55)) 3 133 [true, false]), (191, qa (.aload_n 0) 1)]),
  (202, [(192, qk (.iconst 5) 1 (nI 5)), (193, qk (.iconst 1) 1 (nI 1)), (194, qa (.aload_n 0) 1), (195, qk (.iconst 4) 1 (nI 4)), (196, qc (.invokevirtual 256) 3 80 2 1 [0, 2, 12]), (199, qa .ishl 1), (200, qk (.iconst 1) 1 (nI 1)), (201, qa .isub 1)]),
  (207, [(202, qc (.invokevirtual 271) 3 74 3 0 [0, 3, 12]), (205, qk (.iconst 1) 1 (nI 1)), (206, qf .ireturn 1 0 0 1)])]
-- 111 TinStencilsModel.takesOver(I)V
def tb_111 : qz_B := [(10, [(0, qa (.aload_n 0) 1), (1, qf (.getfield 20) 3 12 3 1), (4, qa (.iload_n 1) 1), (5, qk (.iconst 1) 1 (nI 1)), (6, qa .iastore 1), (7, qk (.iconst 0) 1 (nI 0)), (8, qm [true, true, true, false] (qa (.istore_n 2) 1)), (9, qa (.iload_n 2) 1)]),
  (24, [(10, qk (.bipush 16) 2 (nI 16)), (12, qj (.if_icmp .ge 25) 3 37 [true, true, false, false]), (15, qa (.aload_n 0) 1), (16, qf (.getfield 17) 3 12 2 1), (19, qk (.bipush 16) 2 (nI 16)), (21, qa (.iload_n 1) 1), (22, qa .imul 1), (23, qa (.iload_n 2) 1)]),
  (38, [(24, qa .iadd 1), (25, qa (.aload_n 0) 1), (26, qa (.iload_n 2) 1), (27, qc (.invokevirtual 256) 3 80 2 1 [0, 2, 12]), (30, qa .iastore 1), (31, qk (.iinc 2 1) 3 (nI 1)), (34, qj (.goto (-25)) 3 9 [true, true, true, false]), (37, qk (.iconst 0) 1 (nI 0))]),
  (54, [(38, qm [true, true, true, false] (qa (.istore_n 2) 1)), (39, qa (.iload_n 2) 1), (40, qk (.sipush 400) 3 (nI 400)), (43, qj (.if_icmp .ge 75) 3 118 [true, true, false, false]), (46, qa (.aload_n 0) 1), (47, qf (.getfield 23) 3 12 4 1), (50, qk (.sipush 400) 3 (nI 400)), (53, qa (.iload_n 1) 1)]),
  (66, [(54, qa .imul 1), (55, qa (.iload_n 2) 1), (56, qa .iadd 1), (57, qa (.aload_n 0) 1), (58, qf (.getfield 23) 3 12 4 1), (61, qk (.sipush 2400) 3 (nI 2400)), (64, qa (.iload_n 2) 1), (65, qa .iadd 1)]),
  (78, [(66, qa .iaload 1), (67, qa .iastore 1), (68, qa (.aload_n 0) 1), (69, qf (.getfield 26) 3 12 5 1), (72, qk (.sipush 400) 3 (nI 400)), (75, qa (.iload_n 1) 1), (76, qa .imul 1), (77, qa (.iload_n 2) 1)]),
  (90, [(78, qa .iadd 1), (79, qa (.aload_n 0) 1), (80, qf (.getfield 26) 3 12 5 1), (83, qk (.sipush 2400) 3 (nI 2400)), (86, qa (.iload_n 2) 1), (87, qa .iadd 1), (88, qa .iaload 1), (89, qa .iastore 1)]),
  (102, [(90, qa (.aload_n 0) 1), (91, qf (.getfield 29) 3 12 6 1), (94, qk (.sipush 400) 3 (nI 400)), (97, qa (.iload_n 1) 1), (98, qa .imul 1), (99, qa (.iload_n 2) 1), (100, qa .iadd 1), (101, qa (.aload_n 0) 1)]),
  (118, [(102, qf (.getfield 29) 3 12 6 1), (105, qk (.sipush 2400) 3 (nI 2400)), (108, qa (.iload_n 2) 1), (109, qa .iadd 1), (110, qa .iaload 1), (111, qa .iastore 1), (112, qk (.iinc 2 1) 3 (nI 1)), (115, qj (.goto (-76)) 3 39 [true, true, true, false])]),
  (132, [(118, qk (.iconst 0) 1 (nI 0)), (119, qm [true, true, true, false] (qa (.istore_n 2) 1)), (120, qa (.iload_n 2) 1), (121, qk (.bipush 8) 2 (nI 8)), (123, qj (.if_icmp .ge 93) 3 216 [true, true, false, false]), (126, qa (.aload_n 0) 1), (127, qf (.getfield 32) 3 12 7 1), (130, qk (.bipush 8) 2 (nI 8))]),
  (143, [(132, qa (.iload_n 1) 1), (133, qa .imul 1), (134, qa (.iload_n 2) 1), (135, qa .iadd 1), (136, qa (.aload_n 0) 1), (137, qf (.getfield 32) 3 12 7 1), (140, qk (.bipush 48) 2 (nI 48)), (142, qa (.iload_n 2) 1)]),
  (154, [(143, qa .iadd 1), (144, qa .iaload 1), (145, qa .iastore 1), (146, qa (.aload_n 0) 1), (147, qf (.getfield 35) 3 12 8 1), (150, qk (.bipush 8) 2 (nI 8)), (152, qa (.iload_n 1) 1), (153, qa .imul 1)]),
  (165, [(154, qa (.iload_n 2) 1), (155, qa .iadd 1), (156, qa (.aload_n 0) 1), (157, qf (.getfield 35) 3 12 8 1), (160, qk (.bipush 48) 2 (nI 48)), (162, qa (.iload_n 2) 1), (163, qa .iadd 1), (164, qa .iaload 1)]),
  (178, [(165, qa .iastore 1), (166, qk (.iconst 0) 1 (nI 0)), (167, qa (.istore_n 3) 1), (168, qa (.iload_n 3) 1), (169, qk (.bipush 8) 2 (nI 8)), (171, qj (.if_icmp .ge 39) 3 210 [true, true, true, false]), (174, qa (.aload_n 0) 1), (175, qf (.getfield 38) 3 12 9 1)]),
  (188, [(178, qk (.bipush 8) 2 (nI 8)), (180, qk (.bipush 8) 2 (nI 8)), (182, qa (.iload_n 1) 1), (183, qa .imul 1), (184, qa (.iload_n 2) 1), (185, qa .iadd 1), (186, qa .imul 1), (187, qa (.iload_n 3) 1)]),
  (200, [(188, qa .iadd 1), (189, qa (.aload_n 0) 1), (190, qf (.getfield 38) 3 12 9 1), (193, qk (.bipush 8) 2 (nI 8)), (195, qk (.bipush 48) 2 (nI 48)), (197, qa (.iload_n 2) 1), (198, qa .iadd 1), (199, qa .imul 1)]),
  (216, [(200, qa (.iload_n 3) 1), (201, qa .iadd 1), (202, qa .iaload 1), (203, qa .iastore 1), (204, qk (.iinc 3 1) 3 (nI 1)), (207, qj (.goto (-39)) 3 168 []), (210, qk (.iinc 2 1) 3 (nI 1)), (213, qj (.goto (-93)) 3 120 [true, true, true, false])]),
  (230, [(216, qk (.iconst 0) 1 (nI 0)), (217, qm [true, true, true, false] (qa (.istore_n 2) 1)), (218, qa (.iload_n 2) 1), (219, qk (.bipush 12) 2 (nI 12)), (221, qj (.if_icmp .ge 69) 3 290 [false, false, false, false]), (224, qa (.aload_n 0) 1), (225, qf (.getfield 41) 3 12 10 1), (228, qk (.bipush 12) 2 (nI 12))]),
  (241, [(230, qa (.iload_n 1) 1), (231, qa .imul 1), (232, qa (.iload_n 2) 1), (233, qa .iadd 1), (234, qa (.aload_n 0) 1), (235, qf (.getfield 41) 3 12 10 1), (238, qk (.bipush 72) 2 (nI 72)), (240, qa (.iload_n 2) 1)]),
  (252, [(241, qa .iadd 1), (242, qa .iaload 1), (243, qa .iastore 1), (244, qa (.aload_n 0) 1), (245, qf (.getfield 44) 3 12 11 1), (248, qk (.bipush 12) 2 (nI 12)), (250, qa (.iload_n 1) 1), (251, qa .imul 1)]),
  (263, [(252, qa (.iload_n 2) 1), (253, qa .iadd 1), (254, qa (.aload_n 0) 1), (255, qf (.getfield 44) 3 12 11 1), (258, qk (.bipush 72) 2 (nI 72)), (260, qa (.iload_n 2) 1), (261, qa .iadd 1), (262, qa .iaload 1)]),
  (274, [(263, qa .iastore 1), (264, qa (.aload_n 0) 1), (265, qf (.getfield 47) 3 12 12 1), (268, qk (.bipush 12) 2 (nI 12)), (270, qa (.iload_n 1) 1), (271, qa .imul 1), (272, qa (.iload_n 2) 1), (273, qa .iadd 1)]),
  (287, [(274, qa (.aload_n 0) 1), (275, qf (.getfield 47) 3 12 12 1), (278, qk (.bipush 72) 2 (nI 72)), (280, qa (.iload_n 2) 1), (281, qa .iadd 1), (282, qa .iaload 1), (283, qa .iastore 1), (284, qk (.iinc 2 1) 3 (nI 1))]),
  (291, [(287, qj (.goto (-69)) 3 218 [true, true, true, false]), (290, qa .return_ 1)])]
-- 112 TinStencilsModel.plate(II)I
def tb_112 : qz_B := [(12, [(0, qa (.iload_n 1) 1), (1, qk (.iconst 0) 1 (nI 0)), (2, qk (.iconst 5) 1 (nI 5)), (3, qc (.invokestatic 156) 3 72 3 1 [0, 3]), (6, qj (.ifCond .eq 15) 3 21 [true, false, false, false]), (9, qa (.iload_n 2) 1), (10, qk (.iconst 0) 1 (nI 0)), (11, qa (.aload_n 0) 1)]),
  (29, [(12, qf (.getfield 163) 3 12 14 0), (15, qc (.invokestatic 156) 3 72 3 1 [0, 3]), (18, qm [true, false, false, false] (qj (.ifCond .ne 11) 3 29 [true, true, true, false])), (21, qa (.aload_n 0) 1), (22, qk (.iconst 0) 1 (nI 0)), (23, qk (.bipush (-2)) 2 (-2)), (25, qc (.invokevirtual 357) 3 73 3 1 [0, 3, 12]), (28, qm [true, true, true, false] (qa .ireturn 1))]),
  (41, [(29, qk (.iconst 0) 1 (nI 0)), (30, qa (.istore_n 3) 1), (31, qa (.iload_n 3) 1), (32, qa (.iload_n 2) 1), (33, qj (.if_icmp .ge 21) 3 54 [true, true, true, false]), (36, qa (.aload_n 0) 1), (37, qf (.getfield 61) 3 12 19 1), (40, qa (.iload_n 3) 1)]),
  (55, [(41, qa (.aload_n 0) 1), (42, qf (.getfield 57) 3 12 18 1), (45, qa (.iload_n 3) 1), (46, qa .baload 1), (47, qa .bastore 1), (48, qk (.iinc 3 1) 3 (nI 1)), (51, qj (.goto (-20)) 3 31 []), (54, qa (.aload_n 0) 1)]),
  (69, [(55, qa (.iload_n 2) 1), (56, qf (.putfield 173) 3 12 15 0), (59, qa (.aload_n 0) 1), (60, qk (.iconst 0) 1 (nI 0)), (61, qf (.putfield 163) 3 12 14 0), (64, qa (.aload_n 0) 1), (65, qk (.iconst 0) 1 (nI 0)), (66, qf (.putfield 170) 3 12 16 0)]),
  (83, [(69, qa (.aload_n 0) 1), (70, qc (.invokevirtual 361) 3 110 1 1 [1, 2, 12]), (73, qa (.istore_n 3) 1), (74, qa (.iload_n 3) 1), (75, qj (.ifCond .ne 7) 3 82 [true, true, false, true]), (78, qa (.aload_n 0) 1), (79, qm [true, true, false, true] (qc (.invokevirtual 176) 3 75 1 0 [0, 1, 12])), (82, qa (.aload_n 0) 1)]),
  (99, [(83, qa (.iload_n 3) 1), (84, qj (.ifCond .eq 7) 3 91 [true, true, false, true]), (87, qk (.iconst (-1)) 1 (-1)), (88, qj (.goto 7) 3 95 [true, true, false, true]), (91, qa (.aload_n 0) 1), (92, qm [true, true, false, true] (qf (.getfield 170) 3 12 16 0)), (95, qf (.putfield 54) 3 12 17 0), (98, qa (.iload_n 3) 1)]),
  (111, [(99, qj (.ifCond .ne 10) 3 109 [true, true, false, false]), (102, qa (.aload_n 0) 1), (103, qk (.iconst 2) 1 (nI 2)), (104, qk (.iconst (-1)) 1 (-1)), (105, qc (.invokevirtual 357) 3 73 3 1 [0, 3, 12]), (108, qm [true, true, false, false] (qa .ireturn 1)), (109, qa (.aload_n 0) 1), (110, qa (.iload_n 1) 1)]),
  (124, [(111, qc (.invokevirtual 364) 3 111 2 0 [2, 4, 12]), (114, qa (.aload_n 0) 1), (115, qf (.getfield 17) 3 12 2 1), (118, qk (.bipush 16) 2 (nI 16)), (120, qa (.iload_n 1) 1), (121, qa .imul 1), (122, qk (.iconst 2) 1 (nI 2)), (123, qa .iadd 1)]),
  (126, [(124, qa .iaload 1), (125, qa .ireturn 1)])]
-- 113 TinStencils.fault()I
def tb_113 : qz_B := [(5, [(0, qa (.aload_n 0) 1), (1, qf (.getfield 17) 3 11 2 0), (4, qa .ireturn 1)])]
-- 114 TinStencilsModel.fault()I
def tb_114 : qz_B := [(5, [(0, qa (.aload_n 0) 1), (1, qf (.getfield 54) 3 12 17 0), (4, qa .ireturn 1)])]
-- 115 TinStencils.toldSheet(I)LTinStencils$Sheet;
def tb_115 : qz_B := [(17, [(0, qa (.iload_n 1) 1), (1, qj (.ifCond .lt 24) 3 25 [false, false]), (4, qa (.iload_n 1) 1), (5, qk (.bipush 6) 2 (nI 6)), (7, qj (.if_icmp .ge 18) 3 25 [false, false]), (10, qa (.aload_n 0) 1), (11, qf (.getfield 26) 3 11 4 1), (14, qf (.getfield 111) 3 6 0 1)]),
  (31, [(17, qa (.iload_n 1) 1), (18, qa .aaload 1), (19, qf (.getfield 331) 3 8 0 0), (22, qm [false, false] (qj (.ifCond .ne 5) 3 27 [])), (25, qa .aconst_null 1), (26, qa .areturn 1), (27, qa (.aload_n 0) 1), (28, qf (.getfield 26) 3 11 4 1)]),
  (37, [(31, qf (.getfield 111) 3 6 0 1), (34, qa (.iload_n 1) 1), (35, qa .aaload 1), (36, qa .areturn 1)])]
-- 116 TinStencils$Sheet.fullRow(I)I
def tb_116 : qz_B := [(14, [(0, qa (.iload_n 1) 1), (1, qj (.ifCond .lt 22) 3 23 [false, false]), (4, qa (.iload_n 1) 1), (5, qa (.aload_n 0) 1), (6, qf (.getfield 19) 3 8 2 0), (9, qj (.if_icmp .ge 14) 3 23 [false, false]), (12, qk (.iconst 1) 1 (nI 1)), (13, qa (.aload_n 0) 1)]),
  (25, [(14, qf (.getfield 15) 3 8 1 0), (17, qa .ishl 1), (18, qk (.iconst 1) 1 (nI 1)), (19, qa .isub 1), (20, qj (.goto 4) 3 24 [false, false]), (23, qm [false, false] (qk (.iconst 0) 1 (nI 0))), (24, qa .ireturn 1)])]
-- 117 TinStencils$Sheet.tinRow(II)I
def tb_117 : qz_B := [(12, [(0, qa (.aload_n 0) 1), (1, qa (.iload_n 1) 1), (2, qc (.invokevirtual 83) 3 116 2 1 [0, 2, 8]), (5, qa (.aload_n 0) 1), (6, qf (.getfield 34) 3 8 7 1), (9, qa (.iload_n 1) 1), (10, qa .iaload 1), (11, qk (.iconst (-1)) 1 (-1))]),
  (24, [(12, qa .ixor 1), (13, qa .iand 1), (14, qa (.istore_n 3) 1), (15, qk (.iconst 0) 1 (nI 0)), (16, qa (.istore 4) 2), (18, qa (.iload 4) 2), (20, qa (.aload_n 0) 1), (21, qf (.getfield 44) 3 8 9 1)]),
  (39, [(24, qf (.getfield 87) 3 0 0 0), (27, qj (.if_icmp .ge 36) 3 63 [false, false, false, true, false]), (30, qa (.iload_n 2) 1), (31, qa (.iload 4) 2), (33, qa .ishr 1), (34, qk (.iconst 1) 1 (nI 1)), (35, qa .iand 1), (36, qj (.ifCond .eq 21) 3 57 [])]),
  (53, [(39, qa (.iload_n 3) 1), (40, qa (.aload_n 0) 1), (41, qf (.getfield 44) 3 8 9 1), (44, qf (.getfield 90) 3 0 5 1), (47, qa (.iload 4) 2), (49, qk (.bipush 20) 2 (nI 20)), (51, qa .imul 1), (52, qa (.iload_n 1) 1)]),
  (65, [(53, qa .iadd 1), (54, qa .iaload 1), (55, qa .ior 1), (56, qa (.istore_n 3) 1), (57, qk (.iinc 4 1) 3 (nI 1)), (60, qj (.goto (-42)) 3 18 []), (63, qa (.iload_n 3) 1), (64, qa .ireturn 1)])]
-- 118 TinStencils$Sheet.tinSquares(I)I
def tb_118 : qz_B := [(12, [(0, qk (.iconst 0) 1 (nI 0)), (1, qa (.istore_n 2) 1), (2, qk (.iconst 0) 1 (nI 0)), (3, qa (.istore_n 3) 1), (4, qa (.iload_n 3) 1), (5, qa (.aload_n 0) 1), (6, qf (.getfield 19) 3 8 2 0), (9, qj (.if_icmp .ge 21) 3 30 [false, false, true, false])]),
  (24, [(12, qa (.iload_n 2) 1), (13, qa (.aload_n 0) 1), (14, qa (.iload_n 3) 1), (15, qa (.iload_n 1) 1), (16, qc (.invokevirtual 96) 3 117 3 1 [2, 5, 8]), (19, qc (.invokestatic 100) 3 62 1 1 [0, 1]), (22, qa .iadd 1), (23, qa (.istore_n 2) 1)]),
  (32, [(24, qk (.iinc 3 1) 3 (nI 1)), (27, qj (.goto (-23)) 3 4 []), (30, qa (.iload_n 2) 1), (31, qa .ireturn 1)])]
-- 119 TinStencils.sheet(II)I
def tb_119 : qz_B := [(12, [(0, qa (.aload_n 0) 1), (1, qa (.iload_n 1) 1), (2, qc (.invokevirtual 118) 3 115 2 3 [0, 2, 11]), (5, qa (.astore_n 3) 1), (6, qa (.aload_n 3) 1), (7, qj (.ifnonnull 5) 3 12 [false, false, true, true]), (10, qk (.iconst (-1)) 1 (-1)), (11, qm [false, false, true, true] (qa .ireturn 1))]),
  (78, [(12, qa (.iload_n 2) 1), (13, qs (.tableswitch 118 0 9 #[55, 60, 65, 70, 75, 83, 91, 96, 101, 106]) 55 131 0 [false, false, false, true] [68, 73, 78, 83, 88, 96, 104, 109, 114, 119]), (68, qa (.aload_n 3) 1), (69, qf (.getfield 122) 3 8 1 0), (72, qm [false, false, false, true] (qa .ireturn 1)), (73, qa (.aload_n 3) 1), (74, qf (.getfield 125) 3 8 2 0), (77, qm [false, false, false, true] (qa .ireturn 1))]),
  (92, [(78, qa (.aload_n 3) 1), (79, qf (.getfield 115) 3 8 3 0), (82, qm [false, false, false, true] (qa .ireturn 1)), (83, qa (.aload_n 3) 1), (84, qf (.getfield 128) 3 8 10 0), (87, qm [false, false, false, true] (qa .ireturn 1)), (88, qa (.aload_n 3) 1), (89, qf (.getfield 131) 3 8 9 1)]),
  (108, [(92, qf (.getfield 135) 3 0 0 0), (95, qm [false, false, false, true] (qa .ireturn 1)), (96, qa (.aload_n 3) 1), (97, qf (.getfield 131) 3 8 9 1), (100, qf (.getfield 140) 3 0 1 0), (103, qm [false, false, false, true] (qa .ireturn 1)), (104, qa (.aload_n 3) 1), (105, qf (.getfield 143) 3 8 4 0)]),
  (120, [(108, qm [false, false, false, true] (qa .ireturn 1)), (109, qa (.aload_n 3) 1), (110, qf (.getfield 146) 3 8 5 0), (113, qm [false, false, false, true] (qa .ireturn 1)), (114, qa (.aload_n 3) 1), (115, qf (.getfield 149) 3 8 6 0), (118, qm [false, false, false, true] (qa .ireturn 1)), (119, qa (.aload_n 3) 1)]),
  (133, [(120, qa (.aload_n 3) 1), (121, qf (.getfield 131) 3 8 9 1), (124, qf (.getfield 140) 3 0 1 0), (127, qc (.invokevirtual 152) 3 118 2 1 [2, 4, 8]), (130, qm [false, false, false, false] (qa .ireturn 1)), (131, qk (.iconst (-1)) 1 (-1)), (132, qa .ireturn 1)])]
-- 120 TinStencilsModel.isSheet(I)Z
def tb_120 : qz_B := [(14, [(0, qa (.iload_n 1) 1), (1, qk (.iconst 0) 1 (nI 0)), (2, qk (.iconst 5) 1 (nI 5)), (3, qc (.invokestatic 156) 3 72 3 1 [0, 3]), (6, qj (.ifCond .eq 17) 3 23 [false, false]), (9, qa (.aload_n 0) 1), (10, qf (.getfield 20) 3 12 3 1), (13, qa (.iload_n 1) 1)]),
  (25, [(14, qa .iaload 1), (15, qk (.iconst 1) 1 (nI 1)), (16, qj (.if_icmp .ne 7) 3 23 [false, false]), (19, qk (.iconst 1) 1 (nI 1)), (20, qj (.goto 4) 3 24 [false, false]), (23, qm [false, false] (qk (.iconst 0) 1 (nI 0))), (24, qf .ireturn 1 0 0 1)])]
-- 121 TinStencilsModel.bridgesIn(I)I
def tb_121 : qz_B := [(11, [(0, qa (.aload_n 0) 1), (1, qf (.getfield 17) 3 12 2 1), (4, qk (.bipush 16) 2 (nI 16)), (6, qa (.iload_n 1) 1), (7, qa .imul 1), (8, qk (.iconst 5) 1 (nI 5)), (9, qa .iadd 1), (10, qa .iaload 1)]),
  (12, [(11, qa .ireturn 1)])]
-- 122 TinStencilsModel.isTin(IIII)Z
def tb_122 : qz_B := [(14, [(0, qa (.aload_n 0) 1), (1, qf (.getfield 23) 3 12 4 1), (4, qa (.iload_n 1) 1), (5, qa (.iload_n 2) 1), (6, qa (.iload_n 3) 1), (7, qc (.invokestatic 262) 3 84 3 1 [0, 3]), (10, qa .iaload 1), (11, qj (.ifCond .eq 20) 3 31 [false, false, false, false, false])]),
  (27, [(14, qa (.aload_n 0) 1), (15, qf (.getfield 29) 3 12 6 1), (18, qa (.iload_n 1) 1), (19, qa (.iload_n 2) 1), (20, qa (.iload_n 3) 1), (21, qc (.invokestatic 262) 3 84 3 1 [0, 3]), (24, qa .iaload 1), (25, qa (.iload 4) 2)]),
  (37, [(27, qa .iand 1), (28, qm [false, false, false, false, false] (qj (.ifCond .eq 7) 3 35 [false, false, false, false, false])), (31, qk (.iconst 1) 1 (nI 1)), (32, qj (.goto 4) 3 36 [false, false, false, false, false]), (35, qm [false, false, false, false, false] (qk (.iconst 0) 1 (nI 0))), (36, qf .ireturn 1 0 0 1)])]
-- 123 TinStencilsModel.tins(II)V
def tb_123 : qz_B := [(14, [(0, qk (.iconst 0) 1 (nI 0)), (1, qa (.istore_n 3) 1), (2, qa (.iload_n 3) 1), (3, qk (.sipush 400) 3 (nI 400)), (6, qj (.if_icmp .ge 56) 3 62 [false, false, false, false]), (9, qa (.aload_n 0) 1), (10, qf (.getfield 64) 3 12 29 1), (13, qa (.iload_n 3) 1)]),
  (24, [(14, qa (.aload_n 0) 1), (15, qa (.iload_n 1) 1), (16, qa (.iload_n 3) 1), (17, qk (.bipush 20) 2 (nI 20)), (19, qa .irem 1), (20, qa (.iload_n 3) 1), (21, qk (.bipush 20) 2 (nI 20)), (23, qa .idiv 1)]),
  (37, [(24, qc (.invokevirtual 288) 3 94 4 1 [0, 4, 12]), (27, qj (.ifCond .eq 24) 3 51 []), (30, qa (.aload_n 0) 1), (31, qa (.iload_n 1) 1), (32, qa (.iload_n 3) 1), (33, qk (.bipush 20) 2 (nI 20)), (35, qa .irem 1), (36, qa (.iload_n 3) 1)]),
  (52, [(37, qk (.bipush 20) 2 (nI 20)), (39, qa .idiv 1), (40, qa (.iload_n 2) 1), (41, qc (.invokevirtual 367) 3 122 5 1 [0, 5, 12]), (44, qj (.ifCond .eq 7) 3 51 []), (47, qk (.iconst 1) 1 (nI 1)), (48, qj (.goto 4) 3 52 []), (51, qk (.iconst 0) 1 (nI 0))]),
  (63, [(52, qc (.invokestatic 319) 3 104 1 1 [0, 1]), (55, qa .iastore 1), (56, qk (.iinc 3 1) 3 (nI 1)), (59, qj (.goto (-57)) 3 2 []), (62, qa .return_ 1)])]
-- 124 TinStencilsModel.tinMany()I
def tb_124 : qz_B := [(12, [(0, qk (.iconst 0) 1 (nI 0)), (1, qa (.istore_n 1) 1), (2, qk (.iconst 0) 1 (nI 0)), (3, qa (.istore_n 2) 1), (4, qa (.iload_n 2) 1), (5, qk (.sipush 400) 3 (nI 400)), (8, qj (.if_icmp .ge 18) 3 26 [false, true, false]), (11, qa (.iload_n 1) 1)]),
  (26, [(12, qa (.aload_n 0) 1), (13, qf (.getfield 64) 3 12 29 1), (16, qa (.iload_n 2) 1), (17, qa .iaload 1), (18, qa .iadd 1), (19, qa (.istore_n 1) 1), (20, qk (.iinc 2 1) 3 (nI 1)), (23, qj (.goto (-19)) 3 4 [])]),
  (28, [(26, qa (.iload_n 1) 1), (27, qa .ireturn 1)])]
-- 125 TinStencilsModel.sheet(II)I
def tb_125 : qz_B := [(15, [(0, qa (.aload_n 0) 1), (1, qa (.iload_n 1) 1), (2, qc (.invokevirtual 402) 3 120 2 1 [0, 2, 12]), (5, qj (.ifCond .eq 13) 3 18 [false, false, false]), (8, qa (.iload_n 2) 1), (9, qk (.iconst 0) 1 (nI 0)), (10, qk (.bipush 9) 2 (nI 9)), (12, qc (.invokestatic 156) 3 72 3 1 [0, 3])]),
  (30, [(15, qm [false, false, false] (qj (.ifCond .ne 5) 3 20 [])), (18, qk (.iconst (-1)) 1 (-1)), (19, qa .ireturn 1), (20, qa (.iload_n 2) 1), (21, qk (.bipush 9) 2 (nI 9)), (23, qj (.if_icmp .ge 15) 3 38 [true, true, false]), (26, qa (.aload_n 0) 1), (27, qf (.getfield 17) 3 12 2 1)]),
  (39, [(30, qk (.bipush 16) 2 (nI 16)), (32, qa (.iload_n 1) 1), (33, qa .imul 1), (34, qa (.iload_n 2) 1), (35, qa .iadd 1), (36, qa .iaload 1), (37, qm [true, true, false] (qa .ireturn 1)), (38, qa (.aload_n 0) 1)]),
  (53, [(39, qa (.iload_n 1) 1), (40, qa (.aload_n 0) 1), (41, qa (.iload_n 1) 1), (42, qc (.invokevirtual 405) 3 121 2 1 [0, 2, 12]), (45, qc (.invokevirtual 383) 3 123 3 0 [1, 4, 12]), (48, qa (.aload_n 0) 1), (49, qc (.invokevirtual 389) 3 124 1 1 [2, 3, 12]), (52, qa .ireturn 1)])]
-- 126 TinStencils$Sheet.rimRow(I)I
def tb_126 : qz_B := [(12, [(0, qk (.iconst 0) 1 (nI 0)), (1, qa (.istore_n 2) 1), (2, qa (.aload_n 0) 1), (3, qf (.getfield 25) 3 8 4 0), (6, qk (.iconst 1) 1 (nI 1)), (7, qa .iand 1), (8, qj (.ifCond .eq 7) 3 15 []), (11, qa (.iload_n 1) 1)]),
  (26, [(12, qj (.ifCond .eq 22) 3 34 [true, true, false]), (15, qa (.aload_n 0) 1), (16, qf (.getfield 25) 3 8 4 0), (19, qk (.iconst 4) 1 (nI 4)), (20, qa .iand 1), (21, qj (.ifCond .eq 22) 3 43 []), (24, qa (.iload_n 1) 1), (25, qa (.aload_n 0) 1)]),
  (40, [(26, qf (.getfield 19) 3 8 2 0), (29, qk (.iconst 1) 1 (nI 1)), (30, qa .isub 1), (31, qm [true, true, false] (qj (.if_icmp .ne 12) 3 43 [])), (34, qk (.iconst 1) 1 (nI 1)), (35, qa (.aload_n 0) 1), (36, qf (.getfield 15) 3 8 1 0), (39, qa .ishl 1)]),
  (52, [(40, qk (.iconst 1) 1 (nI 1)), (41, qa .isub 1), (42, qa (.istore_n 2) 1), (43, qa (.aload_n 0) 1), (44, qf (.getfield 25) 3 8 4 0), (47, qk (.iconst 2) 1 (nI 2)), (48, qa .iand 1), (49, qj (.ifCond .eq 14) 3 63 [])]),
  (62, [(52, qa (.iload_n 2) 1), (53, qk (.iconst 1) 1 (nI 1)), (54, qa (.aload_n 0) 1), (55, qf (.getfield 15) 3 8 1 0), (58, qk (.iconst 1) 1 (nI 1)), (59, qa .isub 1), (60, qa .ishl 1), (61, qa .ior 1)]),
  (75, [(62, qa (.istore_n 2) 1), (63, qa (.aload_n 0) 1), (64, qf (.getfield 25) 3 8 4 0), (67, qk (.bipush 8) 2 (nI 8)), (69, qa .iand 1), (70, qj (.ifCond .eq 7) 3 77 []), (73, qa (.iload_n 2) 1), (74, qk (.iconst 1) 1 (nI 1))]),
  (85, [(75, qa .ior 1), (76, qa (.istore_n 2) 1), (77, qa (.iload_n 2) 1), (78, qa (.aload_n 0) 1), (79, qa (.iload_n 1) 1), (80, qc (.invokevirtual 83) 3 116 2 1 [0, 2, 8]), (83, qa .iand 1), (84, qa .ireturn 1)])]
-- 127 TinStencils$Hanging.alongRow(II)I
def tb_127 : qz_B := [(10, [(0, qa (.iload_n 0) 1), (1, qa (.istore_n 2) 1), (2, qa (.iload_n 0) 1), (3, qa (.istore_n 3) 1), (4, qa (.iload_n 1) 1), (5, qa (.istore 4) 2), (7, qa (.iload_n 1) 1), (8, qa (.istore 5) 2)]),
  (24, [(10, qk (.iconst 1) 1 (nI 1)), (11, qm [false, false, true, true, true, true, true] (qa (.istore 6) 2)), (13, qa (.iload 6) 2), (15, qk (.bipush 20) 2 (nI 20)), (17, qj (.if_icmp .ge 52) 3 69 [false, false, true, true, false, false, false]), (20, qa (.iload_n 2) 1), (21, qa (.iload 4) 2), (23, qa (.iload_n 2) 1)]),
  (36, [(24, qa (.iload 6) 2), (26, qa .ishl 1), (27, qa .iand 1), (28, qa .ior 1), (29, qa (.istore_n 2) 1), (30, qa (.iload 4) 2), (32, qa (.iload 4) 2), (34, qa (.iload 6) 2)]),
  (47, [(36, qa .ishl 1), (37, qa .iand 1), (38, qa (.istore 4) 2), (40, qa (.iload_n 3) 1), (41, qa (.iload 5) 2), (43, qa (.iload_n 3) 1), (44, qa (.iload 6) 2), (46, qa .ishr 1)]),
  (58, [(47, qa .iand 1), (48, qa .ior 1), (49, qa (.istore_n 3) 1), (50, qa (.iload 5) 2), (52, qa (.iload 5) 2), (54, qa (.iload 6) 2), (56, qa .ishr 1), (57, qa .iand 1)]),
  (71, [(58, qa (.istore 5) 2), (60, qa (.iload 6) 2), (62, qk (.iconst 2) 1 (nI 2)), (63, qa .imul 1), (64, qa (.istore 6) 2), (66, qj (.goto (-53)) 3 13 [false, false, true, true, true, true, true]), (69, qa (.iload_n 2) 1), (70, qa (.iload_n 3) 1)]),
  (73, [(71, qa .ior 1), (72, qa .ireturn 1)])]
-- 128 TinStencils$Hanging.pull(II)Z
def tb_128 : qz_B := [(12, [(0, qa (.aload_n 0) 1), (1, qf (.getfield 15) 3 3 1 1), (4, qa (.iload_n 2) 1), (5, qa .iaload 1), (6, qa (.aload_n 0) 1), (7, qf (.getfield 9) 3 3 0 1), (10, qa (.iload_n 1) 1), (11, qa .iaload 1)]),
  (22, [(12, qa .iand 1), (13, qa (.aload_n 0) 1), (14, qf (.getfield 15) 3 3 1 1), (17, qa (.iload_n 1) 1), (18, qa .iaload 1), (19, qk (.iconst (-1)) 1 (-1)), (20, qa .ixor 1), (21, qa .iand 1)]),
  (34, [(22, qa (.istore_n 3) 1), (23, qa (.iload_n 3) 1), (24, qj (.ifCond .ne 5) 3 29 [true, true, false, true]), (27, qk (.iconst 0) 1 (nI 0)), (28, qm [true, true, false, true] (qf .ireturn 1 0 0 1)), (29, qa (.aload_n 0) 1), (30, qf (.getfield 15) 3 3 1 1), (33, qa (.iload_n 1) 1)]),
  (46, [(34, qa .dup2 1), (35, qa .iaload 1), (36, qa (.iload_n 3) 1), (37, qa (.aload_n 0) 1), (38, qf (.getfield 9) 3 3 0 1), (41, qa (.iload_n 1) 1), (42, qa .iaload 1), (43, qc (.invokestatic 53) 3 127 2 1 [5, 7])]),
  (50, [(46, qa .ior 1), (47, qa .iastore 1), (48, qk (.iconst 1) 1 (nI 1)), (49, qf .ireturn 1 0 0 1)])]
-- 129 TinStencils$Hanging.spread(LTinStencils$Sheet;I)V
def tb_129 : qz_B := [(13, [(0, qk (.iconst 0) 1 (nI 0)), (1, qm [true, true, true, true, false, false] (qa (.istore_n 3) 1)), (2, qa (.iload_n 3) 1), (3, qk (.bipush 20) 2 (nI 20)), (5, qj (.if_icmp .ge 48) 3 53 [true, false, false, false, false, false]), (8, qa (.aload_n 0) 1), (9, qf (.getfield 9) 3 3 0 1), (12, qa (.iload_n 3) 1)]),
  (25, [(13, qa (.aload_n 1) 1), (14, qa (.iload_n 3) 1), (15, qa (.iload_n 2) 1), (16, qc (.invokevirtual 43) 3 117 3 1 [2, 5, 8]), (19, qa .iastore 1), (20, qa (.aload_n 0) 1), (21, qf (.getfield 15) 3 3 1 1), (24, qa (.iload_n 3) 1)]),
  (37, [(25, qa (.aload_n 0) 1), (26, qf (.getfield 9) 3 3 0 1), (29, qa (.iload_n 3) 1), (30, qa .iaload 1), (31, qa (.aload_n 1) 1), (32, qa (.iload_n 3) 1), (33, qc (.invokevirtual 49) 3 126 2 1 [1, 3, 8]), (36, qa .iand 1)]),
  (53, [(37, qa (.aload_n 0) 1), (38, qf (.getfield 9) 3 3 0 1), (41, qa (.iload_n 3) 1), (42, qa .iaload 1), (43, qc (.invokestatic 53) 3 127 2 1 [5, 7]), (46, qa .iastore 1), (47, qk (.iinc 3 1) 3 (nI 1)), (50, qj (.goto (-48)) 3 2 [true, true, true, true, false, false])]),
  (67, [(53, qk (.iconst 1) 1 (nI 1)), (54, qa (.istore_n 3) 1), (55, qk (.iconst 0) 1 (nI 0)), (56, qm [true, false, false, true, true, false] (qa (.istore 4) 2)), (58, qa (.iload 4) 2), (60, qk (.sipush 400) 3 (nI 400)), (63, qj (.if_icmp .ge 76) 3 139 [true, false, false, false, false, false]), (66, qa (.iload_n 3) 1)]),
  (82, [(67, qj (.ifCond .eq 72) 3 139 [true, false, false, false, false, false]), (70, qk (.iconst 0) 1 (nI 0)), (71, qa (.istore_n 3) 1), (72, qk (.iconst 1) 1 (nI 1)), (73, qm [true, false, false, true, true, true] (qa (.istore 5) 2)), (75, qa (.iload 5) 2), (77, qk (.bipush 20) 2 (nI 20)), (79, qj (.if_icmp .ge 24) 3 103 [true, false, false, true, true, false])]),
  (96, [(82, qa (.aload_n 0) 1), (83, qa (.iload 5) 2), (85, qa (.iload 5) 2), (87, qk (.iconst 1) 1 (nI 1)), (88, qa .isub 1), (89, qc (.invokevirtual 56) 3 128 3 1 [1, 4, 3]), (92, qj (.ifCond .eq 5) 3 97 [true, false, false, true, true, true]), (95, qk (.iconst 1) 1 (nI 1))]),
  (113, [(96, qm [true, false, false, true, true, true] (qa (.istore_n 3) 1)), (97, qk (.iinc 5 1) 3 (nI 1)), (100, qj (.goto (-25)) 3 75 [true, false, false, true, true, true]), (103, qk (.bipush 18) 2 (nI 18)), (105, qm [true, false, false, true, true, true] (qa (.istore 5) 2)), (107, qa (.iload 5) 2), (109, qj (.ifCond .lt 24) 3 133 [true, false, false, true, true, false]), (112, qa (.aload_n 0) 1)]),
  (127, [(113, qa (.iload 5) 2), (115, qa (.iload 5) 2), (117, qk (.iconst 1) 1 (nI 1)), (118, qa .iadd 1), (119, qc (.invokevirtual 56) 3 128 3 1 [1, 4, 3]), (122, qj (.ifCond .eq 5) 3 127 [true, false, false, true, true, true]), (125, qk (.iconst 1) 1 (nI 1)), (126, qm [true, false, false, true, true, true] (qa (.istore_n 3) 1))]),
  (146, [(127, qk (.iinc 5 (-1)) 3 (-1)), (130, qj (.goto (-23)) 3 107 [true, false, false, true, true, true]), (133, qk (.iinc 4 1) 3 (nI 1)), (136, qj (.goto (-78)) 3 58 [true, false, false, true, true, false]), (139, qk (.iconst 0) 1 (nI 0)), (140, qm [true, false, false, false, true, false] (qa (.istore 4) 2)), (142, qa (.iload 4) 2), (144, qk (.bipush 20) 2 (nI 20))]),
  (162, [(146, qj (.if_icmp .ge 33) 3 179 [false, false, false, false, false, false]), (149, qa (.aload_n 0) 1), (150, qf (.getfield 18) 3 3 2 1), (153, qa (.iload 4) 2), (155, qa (.aload_n 0) 1), (156, qf (.getfield 9) 3 3 0 1), (159, qa (.iload 4) 2), (161, qa .iaload 1)]),
  (173, [(162, qa (.aload_n 0) 1), (163, qf (.getfield 15) 3 3 1 1), (166, qa (.iload 4) 2), (168, qa .iaload 1), (169, qk (.iconst (-1)) 1 (-1)), (170, qa .ixor 1), (171, qa .iand 1), (172, qa .iastore 1)]),
  (180, [(173, qk (.iinc 4 1) 3 (nI 1)), (176, qj (.goto (-34)) 3 142 [true, false, false, false, true, false]), (179, qa .return_ 1)])]
-- 130 TinStencils.isSet([II)Z
def tb_130 : qz_B := [(10, [(0, qa (.aload_n 0) 1), (1, qa (.iload_n 1) 1), (2, qk (.bipush 20) 2 (nI 20)), (4, qa .idiv 1), (5, qa .iaload 1), (6, qa (.iload_n 1) 1), (7, qk (.bipush 20) 2 (nI 20)), (9, qa .irem 1)]),
  (22, [(10, qa .ishr 1), (11, qk (.iconst 1) 1 (nI 1)), (12, qa .iand 1), (13, qj (.ifCond .eq 7) 3 20 [false, false]), (16, qk (.iconst 1) 1 (nI 1)), (17, qj (.goto 4) 3 21 [false, false]), (20, qm [false, false] (qk (.iconst 0) 1 (nI 0))), (21, qf .ireturn 1 0 0 1)])]
-- 131 TinStencils.beside(II)I
def tb_131 : qz_B := [(11, [(0, qa (.iload_n 0) 1), (1, qk (.bipush 20) 2 (nI 20)), (3, qa .irem 1), (4, qf (.getstatic 373) 3 1000001 0 1), (7, qa (.iload_n 1) 1), (8, qa .iaload 1), (9, qa .iadd 1), (10, qa (.istore_n 2) 1)]),
  (22, [(11, qa (.iload_n 0) 1), (12, qk (.bipush 20) 2 (nI 20)), (14, qa .idiv 1), (15, qf (.getstatic 376) 3 1000002 0 1), (18, qa (.iload_n 1) 1), (19, qa .iaload 1), (20, qa .iadd 1), (21, qa (.istore_n 3) 1)]),
  (37, [(22, qa (.iload_n 2) 1), (23, qj (.ifCond .lt 19) 3 42 [false, false, false, false]), (26, qa (.iload_n 2) 1), (27, qk (.bipush 20) 2 (nI 20)), (29, qj (.if_icmp .ge 13) 3 42 [false, false, false, false]), (32, qa (.iload_n 3) 1), (33, qj (.ifCond .lt 9) 3 42 [false, false, false, false]), (36, qa (.iload_n 3) 1)]),
  (51, [(37, qk (.bipush 20) 2 (nI 20)), (39, qm [false, false, false, false] (qj (.if_icmp .lt 7) 3 46 [false, false, true, true])), (42, qk (.iconst (-1)) 1 (-1)), (43, qj (.goto 9) 3 52 [false, false, false, false]), (46, qa (.iload_n 3) 1), (47, qk (.bipush 20) 2 (nI 20)), (49, qa .imul 1), (50, qa (.iload_n 2) 1)]),
  (53, [(51, qm [false, false, false, false] (qa .iadd 1)), (52, qa .ireturn 1)])]
-- 132 TinStencils$Parts.gather(I[I)V
def tb_132 : qz_B := [(14, [(0, qa (.aload_n 0) 1), (1, qf (.getfield 22) 3 5 3 1), (4, qa (.aload_n 0) 1), (5, qf (.getfield 9) 3 5 0 0), (8, qa (.iload_n 1) 1), (9, qa .iastore 1), (10, qa (.aload_n 0) 1), (11, qf (.getfield 15) 3 5 1 1)]),
  (26, [(14, qa (.iload_n 1) 1), (15, qa (.aload_n 0) 1), (16, qf (.getfield 9) 3 5 0 0), (19, qa .iastore 1), (20, qa (.aload_n 0) 1), (21, qf (.getfield 25) 3 5 4 1), (24, qk (.iconst 0) 1 (nI 0)), (25, qa (.iload_n 1) 1)]),
  (38, [(26, qa .iastore 1), (27, qk (.iconst 1) 1 (nI 1)), (28, qa (.istore_n 3) 1), (29, qk (.iconst 0) 1 (nI 0)), (30, qm [true, false, true, true, true, false, false] (qa (.istore 4) 2)), (32, qa (.iload 4) 2), (34, qa (.iload_n 3) 1), (35, qj (.if_icmp .ge 94) 3 129 [true, false, false, true, false, false, false])]),
  (55, [(38, qa (.iload 4) 2), (40, qk (.sipush 400) 3 (nI 400)), (43, qj (.if_icmp .ge 86) 3 129 [true, false, false, true, false, false, false]), (46, qk (.iconst 0) 1 (nI 0)), (47, qm [true, false, true, true, true, true, false] (qa (.istore 5) 2)), (49, qa (.iload 5) 2), (51, qk (.iconst 4) 1 (nI 4)), (52, qj (.if_icmp .ge 71) 3 123 [true, false, true, true, true, false, false])]),
  (71, [(55, qa (.aload_n 0) 1), (56, qf (.getfield 25) 3 5 4 1), (59, qa (.iload 4) 2), (61, qa .iaload 1), (62, qa (.iload 5) 2), (64, qc (.invokestatic 48) 3 131 2 1 [2, 4]), (67, qa (.istore 6) 2), (69, qa (.iload 6) 2)]),
  (86, [(71, qk (.iconst (-1)) 1 (-1)), (72, qj (.if_icmp .eq 45) 3 117 [true, false, true, true, true, true, false]), (75, qa (.aload_n 0) 1), (76, qf (.getfield 15) 3 5 1 1), (79, qa (.iload 6) 2), (81, qa .iaload 1), (82, qk (.iconst (-1)) 1 (-1)), (83, qj (.if_icmp .ne 34) 3 117 [true, false, true, true, true, true, false])]),
  (102, [(86, qa (.aload_n 2) 1), (87, qa (.iload 6) 2), (89, qc (.invokestatic 40) 3 130 2 1 [0, 2]), (92, qj (.ifCond .eq 25) 3 117 [true, false, true, true, true, true, false]), (95, qa (.aload_n 0) 1), (96, qf (.getfield 15) 3 5 1 1), (99, qa (.iload 6) 2), (101, qa (.aload_n 0) 1)]),
  (117, [(102, qf (.getfield 9) 3 5 0 0), (105, qa .iastore 1), (106, qa (.aload_n 0) 1), (107, qf (.getfield 25) 3 5 4 1), (110, qa (.iload_n 3) 1), (111, qa (.iload 6) 2), (113, qa .iastore 1), (114, qm [true, false, true, true, true, true, false] (qk (.iinc 3 1) 3 (nI 1)))]),
  (137, [(117, qk (.iinc 5 1) 3 (nI 1)), (120, qj (.goto (-71)) 3 49 [true, false, true, true, true, true, false]), (123, qk (.iinc 4 1) 3 (nI 1)), (126, qj (.goto (-94)) 3 32 [true, false, true, true, true, false, false]), (129, qa (.aload_n 0) 1), (130, qf (.getfield 19) 3 5 2 1), (133, qa (.aload_n 0) 1), (134, qf (.getfield 9) 3 5 0 0)]),
  (140, [(137, qa (.iload_n 3) 1), (138, qa .iastore 1), (139, qa .return_ 1)])]
-- 133 TinStencils$Parts.split([I)V
def tb_133 : qz_B := [(14, [(0, qa (.aload_n 0) 1), (1, qf (.getfield 15) 3 5 1 1), (4, qk (.iconst (-1)) 1 (-1)), (5, qc (.invokestatic 34) 3 31 2 0 [2, 4]), (8, qa (.aload_n 0) 1), (9, qk (.iconst 0) 1 (nI 0)), (10, qf (.putfield 9) 3 5 0 0), (13, qk (.iconst 0) 1 (nI 0))]),
  (28, [(14, qa (.istore_n 2) 1), (15, qa (.iload_n 2) 1), (16, qk (.sipush 400) 3 (nI 400)), (19, qj (.if_icmp .ge 43) 3 62 [false, false, false]), (22, qa (.aload_n 0) 1), (23, qf (.getfield 15) 3 5 1 1), (26, qa (.iload_n 2) 1), (27, qa .iaload 1)]),
  (42, [(28, qk (.iconst (-1)) 1 (-1)), (29, qj (.if_icmp .ne 27) 3 56 []), (32, qa (.aload_n 1) 1), (33, qa (.iload_n 2) 1), (34, qc (.invokestatic 40) 3 130 2 1 [0, 2]), (37, qj (.ifCond .eq 19) 3 56 []), (40, qa (.aload_n 0) 1), (41, qa (.iload_n 2) 1)]),
  (56, [(42, qa (.aload_n 1) 1), (43, qc (.invokevirtual 44) 3 132 3 0 [4, 7, 5]), (46, qa (.aload_n 0) 1), (47, qa .dup 1), (48, qf (.getfield 9) 3 5 0 0), (51, qk (.iconst 1) 1 (nI 1)), (52, qa .iadd 1), (53, qf (.putfield 9) 3 5 0 0)]),
  (63, [(56, qk (.iinc 2 1) 3 (nI 1)), (59, qj (.goto (-44)) 3 15 []), (62, qa .return_ 1)])]
-- 134 TinStencils.findPieces(LTinStencils$Sheet;I)V
def tb_134 : qz_B := [(14, [(0, qa (.aload_n 0) 1), (1, qf (.getfield 54) 3 11 9 1), (4, qa (.aload_n 1) 1), (5, qa (.iload_n 2) 1), (6, qc (.invokevirtual 170) 3 129 3 0 [3, 6, 3]), (9, qa (.aload_n 0) 1), (10, qf (.getfield 61) 3 11 10 1), (13, qa (.aload_n 0) 1)]),
  (24, [(14, qf (.getfield 54) 3 11 9 1), (17, qf (.getfield 334) 3 3 2 1), (20, qc (.invokevirtual 337) 3 133 2 0 [1, 3, 5]), (23, qa .return_ 1)])]
-- 135 TinStencils$Hanging.enter(II[I)V
def tb_135 : qz_B := [(14, [(0, qa (.aload_n 0) 1), (1, qa .dup 1), (2, qf (.getfield 24) 3 3 4 0), (5, qk (.iconst 1) 1 (nI 1)), (6, qa .iadd 1), (7, qf (.putfield 24) 3 3 4 0), (10, qa (.aload_n 0) 1), (11, qf (.getfield 28) 3 3 5 1)]),
  (26, [(14, qa (.iload_n 1) 1), (15, qa (.aload_n 0) 1), (16, qf (.getfield 24) 3 3 4 0), (19, qa .iastore 1), (20, qa (.aload_n 0) 1), (21, qf (.getfield 31) 3 3 6 1), (24, qa (.iload_n 1) 1), (25, qa (.aload_n 3) 1)]),
  (42, [(26, qa (.iload_n 1) 1), (27, qc (.invokestatic 71) 3 130 2 1 [0, 2]), (30, qj (.ifCond .eq 7) 3 37 [true, true, true, false]), (33, qk (.iconst 0) 1 (nI 0)), (34, qj (.goto 7) 3 41 [true, true, true, false]), (37, qa (.aload_n 0) 1), (38, qm [true, true, true, false] (qf (.getfield 24) 3 3 4 0)), (41, qa .iastore 1)]),
  (54, [(42, qa (.aload_n 0) 1), (43, qf (.getfield 34) 3 3 7 1), (46, qa (.iload_n 1) 1), (47, qk (.iconst 1) 1 (nI 1)), (48, qa .iastore 1), (49, qa (.aload_n 0) 1), (50, qf (.getfield 37) 3 3 8 1), (53, qa (.iload_n 1) 1)]),
  (64, [(54, qa (.iload_n 2) 1), (55, qa .iastore 1), (56, qa (.aload_n 0) 1), (57, qf (.getfield 40) 3 3 9 1), (60, qa (.iload_n 1) 1), (61, qk (.iconst 0) 1 (nI 0)), (62, qa .iastore 1), (63, qa .return_ 1)])]
-- 136 java/lang/Math.min(II)I
def tb_136 : qz_B := [(11, [(0, qa (.iload_n 0) 1), (1, qa (.iload_n 1) 1), (2, qj (.if_icmp .gt 7) 3 9 [false, true]), (5, qa (.iload_n 0) 1), (6, qj (.goto 4) 3 10 [false, false]), (9, qm [false, false] (qa (.iload_n 1) 1)), (10, qa .ireturn 1)])]
-- 137 TinStencils$Hanging.leave(I)I
def tb_137 : qz_B := [(12, [(0, qa (.aload_n 0) 1), (1, qf (.getfield 37) 3 3 8 1), (4, qa (.iload_n 1) 1), (5, qa .iaload 1), (6, qa (.istore_n 2) 1), (7, qa (.iload_n 2) 1), (8, qk (.iconst (-1)) 1 (-1)), (9, qj (.if_icmp .ne 5) 3 14 [])]),
  (22, [(12, qk (.iconst (-1)) 1 (-1)), (13, qa .ireturn 1), (14, qa (.aload_n 0) 1), (15, qf (.getfield 34) 3 3 7 1), (18, qa (.iload_n 2) 1), (19, qa .dup2 1), (20, qa .iaload 1), (21, qa (.aload_n 0) 1)]),
  (34, [(22, qf (.getfield 34) 3 3 7 1), (25, qa (.iload_n 1) 1), (26, qa .iaload 1), (27, qa .iadd 1), (28, qa .iastore 1), (29, qa (.aload_n 0) 1), (30, qf (.getfield 31) 3 3 6 1), (33, qa (.iload_n 1) 1)]),
  (48, [(34, qa .iaload 1), (35, qa (.aload_n 0) 1), (36, qf (.getfield 28) 3 3 5 1), (39, qa (.iload_n 2) 1), (40, qa .iaload 1), (41, qj (.if_icmp .lt 21) 3 62 []), (44, qa (.aload_n 0) 1), (45, qf (.getfield 21) 3 3 3 1)]),
  (58, [(48, qa (.iload_n 2) 1), (49, qa .dup2 1), (50, qa .iaload 1), (51, qa (.aload_n 0) 1), (52, qf (.getfield 34) 3 3 7 1), (55, qa (.iload_n 1) 1), (56, qa .iaload 1), (57, qa .iadd 1)]),
  (72, [(58, qa .iastore 1), (59, qj (.goto 24) 3 83 [false, false, true]), (62, qa (.aload_n 0) 1), (63, qf (.getfield 31) 3 3 6 1), (66, qa (.iload_n 2) 1), (67, qa (.aload_n 0) 1), (68, qf (.getfield 31) 3 3 6 1), (71, qa (.iload_n 2) 1)]),
  (84, [(72, qa .iaload 1), (73, qa (.aload_n 0) 1), (74, qf (.getfield 31) 3 3 6 1), (77, qa (.iload_n 1) 1), (78, qa .iaload 1), (79, qc (.invokestatic 89) 3 136 2 1 [0, 2]), (82, qm [false, false, true] (qa .iastore 1)), (83, qa (.iload_n 2) 1)]),
  (85, [(84, qa .ireturn 1)])]
-- 138 TinStencils$Hanging.follow(I[I[I)V
def tb_138 : qz_B := [(11, [(0, qa (.aload_n 0) 1), (1, qa (.iload_n 1) 1), (2, qk (.iconst (-1)) 1 (-1)), (3, qa (.aload_n 3) 1), (4, qc (.invokevirtual 79) 3 135 4 0 [0, 4, 3]), (7, qa (.iload_n 1) 1), (8, qa (.istore 4) 2), (10, qk (.iconst 0) 1 (nI 0))]),
  (28, [(11, qm [true, false, true, true, true, true, false] (qa (.istore 5) 2)), (13, qa (.iload 5) 2), (15, qk (.sipush 2000) 3 (nI 2000)), (18, qj (.if_icmp .ge 130) 3 148 [false, false, false, false, false, false, false]), (21, qa (.iload 4) 2), (23, qk (.iconst (-1)) 1 (-1)), (24, qj (.if_icmp .eq 124) 3 148 [false, false, false, false, false, false, false]), (27, qa (.aload_n 0) 1)]),
  (44, [(28, qf (.getfield 40) 3 3 9 1), (31, qa (.iload 4) 2), (33, qa .iaload 1), (34, qk (.iconst 4) 1 (nI 4)), (35, qj (.if_icmp .lt 14) 3 49 [true, false, true, true, true, true, false]), (38, qa (.aload_n 0) 1), (39, qa (.iload 4) 2), (41, qc (.invokevirtual 83) 3 137 2 1 [1, 3, 3])]),
  (61, [(44, qa (.istore 4) 2), (46, qj (.goto 96) 3 142 [true, false, true, true, true, true, false]), (49, qa (.iload 4) 2), (51, qa (.aload_n 0) 1), (52, qf (.getfield 40) 3 3 9 1), (55, qa (.iload 4) 2), (57, qa .iaload 1), (58, qc (.invokestatic 86) 3 131 2 1 [2, 4])]),
  (73, [(61, qa (.istore 6) 2), (63, qa (.aload_n 0) 1), (64, qf (.getfield 40) 3 3 9 1), (67, qa (.iload 4) 2), (69, qa .dup2 1), (70, qa .iaload 1), (71, qk (.iconst 1) 1 (nI 1)), (72, qa .iadd 1)]),
  (89, [(73, qa .iastore 1), (74, qa (.iload 6) 2), (76, qk (.iconst (-1)) 1 (-1)), (77, qj (.if_icmp .eq 65) 3 142 [true, false, true, true, true, true, false]), (80, qa (.aload_n 2) 1), (81, qa (.iload 6) 2), (83, qc (.invokestatic 71) 3 130 2 1 [0, 2]), (86, qj (.ifCond .ne 6) 3 92 [true, false, true, true, true, true, true])]),
  (105, [(89, qj (.goto 53) 3 142 [true, false, true, true, true, true, false]), (92, qa (.aload_n 0) 1), (93, qf (.getfield 28) 3 3 5 1), (96, qa (.iload 6) 2), (98, qa .iaload 1), (99, qj (.ifCond .ne 19) 3 118 [true, false, true, true, true, true, true]), (102, qa (.aload_n 0) 1), (103, qa (.iload 6) 2)]),
  (122, [(105, qa (.iload 4) 2), (107, qa (.aload_n 3) 1), (108, qc (.invokevirtual 79) 3 135 4 0 [0, 4, 3]), (111, qa (.iload 6) 2), (113, qa (.istore 4) 2), (115, qj (.goto 27) 3 142 [true, false, true, true, true, true, false]), (118, qa (.aload_n 0) 1), (119, qf (.getfield 31) 3 3 6 1)]),
  (137, [(122, qa (.iload 4) 2), (124, qa (.aload_n 0) 1), (125, qf (.getfield 31) 3 3 6 1), (128, qa (.iload 4) 2), (130, qa .iaload 1), (131, qa (.aload_n 0) 1), (132, qf (.getfield 28) 3 3 5 1), (135, qa (.iload 6) 2)]),
  (149, [(137, qa .iaload 1), (138, qc (.invokestatic 89) 3 136 2 1 [0, 2]), (141, qm [true, false, true, true, true, true, false] (qa .iastore 1)), (142, qk (.iinc 5 1) 3 (nI 1)), (145, qj (.goto (-132)) 3 13 [true, false, true, true, true, true, false]), (148, qa .return_ 1)])]
-- 139 TinStencils$Hanging.walk([I[I)V
def tb_139 : qz_B := [(16, [(0, qa (.aload_n 0) 1), (1, qf (.getfield 21) 3 3 3 1), (4, qk (.iconst 0) 1 (nI 0)), (5, qc (.invokestatic 65) 3 31 2 0 [2, 4]), (8, qa (.aload_n 0) 1), (9, qf (.getfield 28) 3 3 5 1), (12, qk (.iconst 0) 1 (nI 0)), (13, qc (.invokestatic 65) 3 31 2 0 [2, 4])]),
  (30, [(16, qa (.aload_n 0) 1), (17, qk (.iconst 0) 1 (nI 0)), (18, qf (.putfield 24) 3 3 4 0), (21, qk (.iconst 0) 1 (nI 0)), (22, qa (.istore_n 3) 1), (23, qa (.iload_n 3) 1), (24, qk (.sipush 400) 3 (nI 400)), (27, qj (.if_icmp .ge 41) 3 68 [false, false, false, false])]),
  (44, [(30, qa (.aload_n 0) 1), (31, qf (.getfield 28) 3 3 5 1), (34, qa (.iload_n 3) 1), (35, qa .iaload 1), (36, qj (.ifCond .ne 26) 3 62 []), (39, qa (.aload_n 1) 1), (40, qa (.iload_n 3) 1), (41, qc (.invokestatic 71) 3 130 2 1 [0, 2])]),
  (58, [(44, qj (.ifCond .eq 18) 3 62 []), (47, qa (.aload_n 2) 1), (48, qa (.iload_n 3) 1), (49, qc (.invokestatic 71) 3 130 2 1 [0, 2]), (52, qj (.ifCond .eq 10) 3 62 []), (55, qa (.aload_n 0) 1), (56, qa (.iload_n 3) 1), (57, qa (.aload_n 1) 1)]),
  (69, [(58, qa (.aload_n 2) 1), (59, qc (.invokevirtual 75) 3 138 4 0 [3, 7, 3]), (62, qk (.iinc 3 1) 3 (nI 1)), (65, qj (.goto (-42)) 3 23 []), (68, qa .return_ 1)])]
-- 140 TinStencils.walkHeld(LTinStencils$Sheet;)V
def tb_140 : qz_B := [(16, [(0, qa (.aload_n 0) 1), (1, qf (.getfield 54) 3 11 9 1), (4, qa (.aload_n 1) 1), (5, qa (.aload_n 1) 1), (6, qf (.getfield 131) 3 8 9 1), (9, qf (.getfield 140) 3 0 1 0), (12, qc (.invokevirtual 170) 3 129 3 0 [3, 6, 3]), (15, qk (.iconst 0) 1 (nI 0))]),
  (29, [(16, qa (.istore_n 2) 1), (17, qa (.iload_n 2) 1), (18, qk (.bipush 20) 2 (nI 20)), (20, qj (.if_icmp .ge 20) 3 40 [true, false, false]), (23, qa (.aload_n 0) 1), (24, qf (.getfield 93) 3 11 15 1), (27, qa (.iload_n 2) 1), (28, qa (.aload_n 1) 1)]),
  (45, [(29, qa (.iload_n 2) 1), (30, qc (.invokevirtual 344) 3 126 2 1 [1, 3, 8]), (33, qa .iastore 1), (34, qk (.iinc 2 1) 3 (nI 1)), (37, qj (.goto (-20)) 3 17 []), (40, qa (.aload_n 0) 1), (41, qf (.getfield 54) 3 11 9 1), (44, qa (.aload_n 0) 1)]),
  (59, [(45, qf (.getfield 54) 3 11 9 1), (48, qf (.getfield 193) 3 3 0 1), (51, qa (.aload_n 0) 1), (52, qf (.getfield 93) 3 11 15 1), (55, qc (.invokevirtual 347) 3 139 3 0 [1, 4, 3]), (58, qa .return_ 1)])]
-- 141 TinStencils.square(IIII)I
def tb_141 : qz_B := [(15, [(0, qa (.aload_n 0) 1), (1, qa (.iload_n 1) 1), (2, qc (.invokevirtual 118) 3 115 2 3 [0, 2, 11]), (5, qa (.astore 5) 2), (7, qa (.aload 5) 2), (9, qj (.ifnull 13) 3 22 [false, false, false, false, false, false, false]), (12, qa (.aload 5) 2), (14, qa (.iload_n 2) 1)]),
  (28, [(15, qa (.iload_n 3) 1), (16, qc (.invokevirtual 156) 3 46 3 1 [0, 3, 8]), (19, qm [false, false, false, false, false, false, false] (qj (.ifCond .ne 5) 3 24 [true, false, true, true, true, true, false])), (22, qk (.iconst (-1)) 1 (-1)), (23, qm [true, false, true, true, true, true, false] (qa .ireturn 1)), (24, qa (.iload_n 3) 1), (25, qk (.bipush 20) 2 (nI 20)), (27, qa .imul 1)]),
  (78, [(28, qa (.iload_n 2) 1), (29, qa .iadd 1), (30, qa (.istore 6) 2), (32, qa (.iload 4) 2), (34, qs (.tableswitch 151 0 5 #[38, 50, 69, 78, 109, 134]) 38 185 0 [true, false, true, true, false, true, true] [72, 84, 103, 112, 143, 168]), (72, qa (.aload 5) 2), (74, qf (.getfield 160) 3 8 7 1), (77, qa (.iload_n 3) 1)]),
  (87, [(78, qa .iaload 1), (79, qa (.iload_n 2) 1), (80, qa .ishr 1), (81, qk (.iconst 1) 1 (nI 1)), (82, qa .iand 1), (83, qm [false, false, true, true, false, true, false] (qa .ireturn 1)), (84, qa (.aload 5) 2), (86, qa (.iload_n 3) 1)]),
  (102, [(87, qa (.aload 5) 2), (89, qf (.getfield 131) 3 8 9 1), (92, qf (.getfield 140) 3 0 1 0), (95, qc (.invokevirtual 163) 3 117 3 1 [2, 5, 8]), (98, qa (.iload_n 2) 1), (99, qa .ishr 1), (100, qk (.iconst 1) 1 (nI 1)), (101, qa .iand 1)]),
  (116, [(102, qm [false, false, false, false, false, true, true] (qa .ireturn 1)), (103, qa (.aload 5) 2), (105, qf (.getfield 167) 3 8 8 1), (108, qa (.iload 6) 2), (110, qa .iaload 1), (111, qm [true, false, true, true, false, true, false] (qa .ireturn 1)), (112, qa (.aload_n 0) 1), (113, qf (.getfield 54) 3 11 9 1)]),
  (136, [(116, qa (.aload 5) 2), (118, qa (.aload 5) 2), (120, qf (.getfield 131) 3 8 9 1), (123, qf (.getfield 140) 3 0 1 0), (126, qc (.invokevirtual 170) 3 129 3 0 [3, 6, 3]), (129, qa (.aload_n 0) 1), (130, qf (.getfield 54) 3 11 9 1), (133, qf (.getfield 174) 3 3 1 1)]),
  (144, [(136, qa (.iload_n 3) 1), (137, qa .iaload 1), (138, qa (.iload_n 2) 1), (139, qa .ishr 1), (140, qk (.iconst 1) 1 (nI 1)), (141, qa .iand 1), (142, qm [true, false, false, false, false, true, true] (qa .ireturn 1)), (143, qa (.aload_n 0) 1)]),
  (164, [(144, qa (.aload 5) 2), (146, qa (.aload 5) 2), (148, qf (.getfield 131) 3 8 9 1), (151, qf (.getfield 140) 3 0 1 0), (154, qc (.invokevirtual 177) 3 134 3 0 [0, 3, 11]), (157, qa (.aload_n 0) 1), (158, qf (.getfield 61) 3 11 10 1), (161, qf (.getfield 180) 3 5 1 1)]),
  (178, [(164, qa (.iload 6) 2), (166, qa .iaload 1), (167, qm [true, false, false, false, false, true, true] (qa .ireturn 1)), (168, qa (.aload_n 0) 1), (169, qa (.aload 5) 2), (171, qc (.invokevirtual 183) 3 140 2 0 [1, 3, 11]), (174, qa (.aload_n 0) 1), (175, qf (.getfield 54) 3 11 9 1)]),
  (187, [(178, qf (.getfield 187) 3 3 3 1), (181, qa (.iload 6) 2), (183, qa .iaload 1), (184, qm [false, false, false, false, false, false, false] (qa .ireturn 1)), (185, qk (.iconst (-1)) 1 (-1)), (186, qa .ireturn 1)])]
-- 142 TinStencilsModel.isRim(II)Z
def tb_142 : qz_B := [(12, [(0, qa (.aload_n 0) 1), (1, qf (.getfield 17) 3 12 2 1), (4, qk (.bipush 16) 2 (nI 16)), (6, qa (.iload_n 1) 1), (7, qa .imul 1), (8, qk (.bipush 6) 2 (nI 6)), (10, qa .iadd 1), (11, qa .iaload 1)]),
  (23, [(12, qa (.istore_n 3) 1), (13, qa (.iload_n 2) 1), (14, qk (.bipush 20) 2 (nI 20)), (16, qa .irem 1), (17, qa (.istore 4) 2), (19, qa (.iload_n 2) 1), (20, qk (.bipush 20) 2 (nI 20)), (22, qa .idiv 1)]),
  (39, [(23, qa (.istore 5) 2), (25, qa (.iload_n 3) 1), (26, qk (.iconst 0) 1 (nI 0)), (27, qc (.invokestatic 281) 3 92 2 1 [0, 2]), (30, qj (.ifCond .eq 8) 3 38 [true, true, false, true, true, true]), (33, qa (.iload 5) 2), (35, qm [true, true, false, true, true, true] (qj (.ifCond .eq 56) 3 91 [false, false, false, false, false, false])), (38, qa (.iload_n 3) 1)]),
  (54, [(39, qk (.iconst 1) 1 (nI 1)), (40, qc (.invokestatic 281) 3 92 2 1 [0, 2]), (43, qj (.ifCond .eq 15) 3 58 [true, true, false, true, true, true]), (46, qa (.iload 4) 2), (48, qa (.aload_n 0) 1), (49, qa (.iload_n 1) 1), (50, qc (.invokevirtual 152) 3 82 2 1 [0, 2, 12]), (53, qk (.iconst 1) 1 (nI 1))]),
  (69, [(54, qa .isub 1), (55, qm [true, true, false, true, true, true] (qj (.if_icmp .eq 36) 3 91 [false, false, false, false, false, false])), (58, qa (.iload_n 3) 1), (59, qk (.iconst 2) 1 (nI 2)), (60, qc (.invokestatic 281) 3 92 2 1 [0, 2]), (63, qj (.ifCond .eq 15) 3 78 [false, false, false, true, true, false]), (66, qa (.iload 5) 2), (68, qa (.aload_n 0) 1)]),
  (83, [(69, qa (.iload_n 1) 1), (70, qc (.invokevirtual 160) 3 81 2 1 [0, 2, 12]), (73, qk (.iconst 1) 1 (nI 1)), (74, qa .isub 1), (75, qm [false, false, false, true, true, false] (qj (.if_icmp .eq 16) 3 91 [false, false, false, false, false, false])), (78, qa (.iload_n 3) 1), (79, qk (.iconst 3) 1 (nI 3)), (80, qc (.invokestatic 281) 3 92 2 1 [0, 2])]),
  (97, [(83, qj (.ifCond .eq 12) 3 95 [false, false, false, false, false, false]), (86, qa (.iload 4) 2), (88, qm [false, false, false, false, false, false] (qj (.ifCond .ne 7) 3 95 [false, false, false, false, false, false])), (91, qk (.iconst 1) 1 (nI 1)), (92, qj (.goto 4) 3 96 [false, false, false, false, false, false]), (95, qm [false, false, false, false, false, false] (qk (.iconst 0) 1 (nI 0))), (96, qf .ireturn 1 0 0 1)])]
-- 143 TinStencilsModel.begins(II)I
def tb_143 : qz_B := [(12, [(0, qa (.aload_n 0) 1), (1, qf (.getfield 67) 3 12 30 1), (4, qa (.iload_n 1) 1), (5, qk (.iconst 1) 1 (nI 1)), (6, qa .iastore 1), (7, qa (.aload_n 0) 1), (8, qf (.getfield 70) 3 12 31 1), (11, qa (.iload_n 2) 1)]),
  (18, [(12, qa (.iload_n 1) 1), (13, qa .iastore 1), (14, qa (.iload_n 2) 1), (15, qk (.iconst 1) 1 (nI 1)), (16, qa .iadd 1), (17, qa .ireturn 1)])]
-- 144 TinStencilsModel.beside(II)I
def tb_144 : qz_B := [(11, [(0, qa (.iload_n 0) 1), (1, qk (.bipush 20) 2 (nI 20)), (3, qa .irem 1), (4, qa (.iload_n 1) 1), (5, qc (.invokestatic 295) 3 100 1 1 [0, 1]), (8, qa .iadd 1), (9, qa (.istore_n 2) 1), (10, qa (.iload_n 0) 1)]),
  (22, [(11, qk (.bipush 20) 2 (nI 20)), (13, qa .idiv 1), (14, qa (.iload_n 1) 1), (15, qc (.invokestatic 301) 3 101 1 1 [0, 1]), (18, qa .iadd 1), (19, qa (.istore_n 3) 1), (20, qa (.iload_n 2) 1), (21, qk (.iconst 0) 1 (nI 0))]),
  (40, [(22, qk (.bipush 19) 2 (nI 19)), (24, qc (.invokestatic 156) 3 72 3 1 [0, 3]), (27, qj (.ifCond .eq 22) 3 49 [false, false, false, false]), (30, qa (.iload_n 3) 1), (31, qk (.iconst 0) 1 (nI 0)), (32, qk (.bipush 19) 2 (nI 19)), (34, qc (.invokestatic 156) 3 72 3 1 [0, 3]), (37, qj (.ifCond .eq 12) 3 49 [false, false, false, false])]),
  (51, [(40, qk (.bipush 20) 2 (nI 20)), (42, qa (.iload_n 3) 1), (43, qa .imul 1), (44, qa (.iload_n 2) 1), (45, qa .iadd 1), (46, qj (.goto 4) 3 50 [false, false, false, false]), (49, qm [false, false, false, false] (qk (.iconst (-1)) 1 (-1))), (50, qa .ireturn 1)])]
-- 145 TinStencilsModel.floods(II)I
def tb_145 : qz_B := [(12, [(0, qa (.iload_n 1) 1), (1, qa (.istore_n 3) 1), (2, qk (.iconst 0) 1 (nI 0)), (3, qm [true, false, true, true, true, false, false] (qa (.istore 4) 2)), (5, qa (.iload 4) 2), (7, qa (.iload_n 3) 1), (8, qj (.if_icmp .ge 93) 3 101 [false, false, false, true, false, false, false]), (11, qk (.iconst 0) 1 (nI 0))]),
  (27, [(12, qm [true, false, true, true, true, true, false] (qa (.istore 5) 2)), (14, qa (.iload 5) 2), (16, qk (.iconst 4) 1 (nI 4)), (17, qj (.if_icmp .ge 78) 3 95 [true, false, true, true, true, false, false]), (20, qa (.aload_n 0) 1), (21, qf (.getfield 70) 3 12 31 1), (24, qa (.iload 4) 2), (26, qa .iaload 1)]),
  (43, [(27, qa (.iload 5) 2), (29, qc (.invokestatic 371) 3 144 2 1 [2, 4]), (32, qa (.istore 6) 2), (34, qa (.iload 6) 2), (36, qk (.iconst (-1)) 1 (-1)), (37, qj (.if_icmp .eq 52) 3 89 [true, false, true, true, true, true, false]), (40, qa (.iload 6) 2), (42, qa (.iload_n 2) 1)]),
  (60, [(43, qj (.if_icmp .eq 46) 3 89 [true, false, true, true, true, true, false]), (46, qa (.aload_n 0) 1), (47, qf (.getfield 64) 3 12 29 1), (50, qa (.iload 6) 2), (52, qa .iaload 1), (53, qj (.ifCond .eq 36) 3 89 [true, false, true, true, true, true, false]), (56, qa (.aload_n 0) 1), (57, qf (.getfield 67) 3 12 30 1)]),
  (76, [(60, qa (.iload 6) 2), (62, qa .iaload 1), (63, qk (.iconst 1) 1 (nI 1)), (64, qj (.if_icmp .ne 6) 3 70 [true, false, true, true, true, true, true]), (67, qj (.goto 22) 3 89 [true, false, true, true, true, true, false]), (70, qa (.aload_n 0) 1), (71, qf (.getfield 67) 3 12 30 1), (74, qa (.iload 6) 2)]),
  (89, [(76, qk (.iconst 1) 1 (nI 1)), (77, qa .iastore 1), (78, qa (.aload_n 0) 1), (79, qf (.getfield 70) 3 12 31 1), (82, qa (.iload_n 3) 1), (83, qa (.iload 6) 2), (85, qa .iastore 1), (86, qm [true, false, true, true, true, true, false] (qk (.iinc 3 1) 3 (nI 1)))]),
  (103, [(89, qk (.iinc 5 1) 3 (nI 1)), (92, qj (.goto (-78)) 3 14 [true, false, true, true, true, true, false]), (95, qk (.iinc 4 1) 3 (nI 1)), (98, qj (.goto (-93)) 3 5 [true, false, true, true, true, false, false]), (101, qa (.iload_n 3) 1), (102, qa .ireturn 1)])]
-- 146 TinStencilsModel.hanging(III)I
def tb_146 : qz_B := [(15, [(0, qk (.iconst 0) 1 (nI 0)), (1, qa (.istore 4) 2), (3, qk (.iconst 0) 1 (nI 0)), (4, qa (.istore 5) 2), (6, qa (.iload 5) 2), (8, qk (.sipush 400) 3 (nI 400)), (11, qj (.if_icmp .ge 17) 3 28 [true, true, true, true, true, false]), (14, qa (.aload_n 0) 1)]),
  (31, [(15, qf (.getfield 67) 3 12 30 1), (18, qa (.iload 5) 2), (20, qk (.iconst 0) 1 (nI 0)), (21, qa .iastore 1), (22, qk (.iinc 5 1) 3 (nI 1)), (25, qj (.goto (-19)) 3 6 []), (28, qk (.iconst 0) 1 (nI 0)), (29, qa (.istore 5) 2)]),
  (47, [(31, qa (.iload 5) 2), (33, qk (.sipush 400) 3 (nI 400)), (36, qj (.if_icmp .ge 78) 3 114 [true, false, false, true, true, false]), (39, qa (.aload_n 0) 1), (40, qf (.getfield 64) 3 12 29 1), (43, qa (.iload 5) 2), (45, qa .iaload 1), (46, qk (.iconst 1) 1 (nI 1))]),
  (62, [(47, qj (.if_icmp .ne 61) 3 108 []), (50, qa (.iload 5) 2), (52, qa (.iload_n 3) 1), (53, qj (.if_icmp .eq 55) 3 108 []), (56, qa (.iload_n 2) 1), (57, qk (.iconst (-1)) 1 (-1)), (58, qj (.if_icmp .ne 34) 3 92 []), (61, qa (.aload_n 0) 1)]),
  (76, [(62, qa (.iload_n 1) 1), (63, qa (.iload 5) 2), (65, qk (.bipush 20) 2 (nI 20)), (67, qa .irem 1), (68, qa (.iload 5) 2), (70, qk (.bipush 20) 2 (nI 20)), (72, qa .idiv 1), (73, qc (.invokevirtual 288) 3 94 4 1 [0, 4, 12])]),
  (94, [(76, qj (.ifCond .eq 32) 3 108 []), (79, qa (.aload_n 0) 1), (80, qa (.iload_n 1) 1), (81, qa (.iload 5) 2), (83, qc (.invokevirtual 374) 3 142 3 1 [3, 6, 12]), (86, qj (.ifCond .eq 22) 3 108 []), (89, qj (.goto 9) 3 98 []), (92, qa (.iload 5) 2)]),
  (111, [(94, qa (.iload_n 2) 1), (95, qj (.if_icmp .ne 13) 3 108 []), (98, qa (.aload_n 0) 1), (99, qa (.iload 5) 2), (101, qa (.iload 4) 2), (103, qc (.invokevirtual 377) 3 143 3 1 [0, 3, 12]), (106, qa (.istore 4) 2), (108, qk (.iinc 5 1) 3 (nI 1))]),
  (122, [(111, qj (.goto (-80)) 3 31 []), (114, qa (.aload_n 0) 1), (115, qa (.iload 4) 2), (117, qa (.iload_n 3) 1), (118, qc (.invokevirtual 380) 3 145 3 1 [4, 7, 12]), (121, qa .ireturn 1)])]
-- 147 TinStencilsModel.isPart(III)Z
def tb_147 : qz_B := [(12, [(0, qa (.iload_n 3) 1), (1, qk (.iconst 1) 1 (nI 1)), (2, qj (.if_icmp .ne 30) 3 32 [true, true, true, false]), (5, qa (.aload_n 0) 1), (6, qf (.getfield 64) 3 12 29 1), (9, qa (.iload_n 2) 1), (10, qa .iaload 1), (11, qk (.iconst 1) 1 (nI 1))]),
  (28, [(12, qj (.if_icmp .ne 16) 3 28 [false, false, false, false]), (15, qa (.aload_n 0) 1), (16, qf (.getfield 67) 3 12 30 1), (19, qa (.iload_n 2) 1), (20, qa .iaload 1), (21, qj (.ifCond .ne 7) 3 28 [false, false, false, false]), (24, qk (.iconst 1) 1 (nI 1)), (25, qj (.goto 37) 3 62 [false, false, false, false])]),
  (42, [(28, qk (.iconst 0) 1 (nI 0)), (29, qj (.goto 33) 3 62 [false, false, false, false]), (32, qa (.aload_n 0) 1), (33, qf (.getfield 64) 3 12 29 1), (36, qa (.iload_n 2) 1), (37, qa .iaload 1), (38, qj (.ifCond .ne 23) 3 61 [false, false, false, false]), (41, qa (.aload_n 0) 1)]),
  (54, [(42, qa (.iload_n 1) 1), (43, qa (.iload_n 2) 1), (44, qk (.bipush 20) 2 (nI 20)), (46, qa .irem 1), (47, qa (.iload_n 2) 1), (48, qk (.bipush 20) 2 (nI 20)), (50, qa .idiv 1), (51, qc (.invokevirtual 288) 3 94 4 1 [0, 4, 12])]),
  (63, [(54, qj (.ifCond .eq 7) 3 61 [false, false, false, false]), (57, qk (.iconst 1) 1 (nI 1)), (58, qj (.goto 4) 3 62 [false, false, false, false]), (61, qm [false, false, false, false] (qk (.iconst 0) 1 (nI 0))), (62, qf .ireturn 1 0 0 1)])]
-- 148 TinStencilsModel.parts(II)V
def tb_148 : qz_B := [(14, [(0, qa (.aload_n 0) 1), (1, qk (.iconst 0) 1 (nI 0)), (2, qf (.putfield 393) 3 12 36 0), (5, qk (.iconst 0) 1 (nI 0)), (6, qm [true, true, true, true, false, false, false, false] (qa (.istore_n 3) 1)), (7, qa (.iload_n 3) 1), (8, qk (.sipush 400) 3 (nI 400)), (11, qj (.if_icmp .ge 16) 3 27 [true, true, true, false, false, false, false, false])]),
  (28, [(14, qa (.aload_n 0) 1), (15, qf (.getfield 73) 3 12 32 1), (18, qa (.iload_n 3) 1), (19, qk (.iconst (-1)) 1 (-1)), (20, qa .iastore 1), (21, qk (.iinc 3 1) 3 (nI 1)), (24, qj (.goto (-17)) 3 7 [true, true, true, true, false, false, false, false]), (27, qk (.iconst 0) 1 (nI 0))]),
  (42, [(28, qm [true, true, true, true, false, false, false, false] (qa (.istore_n 3) 1)), (29, qa (.iload_n 3) 1), (30, qk (.sipush 400) 3 (nI 400)), (33, qj (.if_icmp .ge 182) 3 215 [false, false, false, false, false, false, false, false]), (36, qa (.aload_n 0) 1), (37, qf (.getfield 73) 3 12 32 1), (40, qa (.iload_n 3) 1), (41, qa .iaload 1)]),
  (56, [(42, qk (.iconst (-1)) 1 (-1)), (43, qj (.if_icmp .ne 166) 3 209 [true, true, true, true, false, false, false, false]), (46, qa (.aload_n 0) 1), (47, qa (.iload_n 1) 1), (48, qa (.iload_n 3) 1), (49, qa (.iload_n 2) 1), (50, qc (.invokevirtual 396) 3 147 4 1 [0, 4, 12]), (53, qj (.ifCond .ne 6) 3 59 [true, true, true, true, false, false, false, false])]),
  (70, [(56, qj (.goto 153) 3 209 [true, true, true, true, false, false, false, false]), (59, qa (.aload_n 0) 1), (60, qf (.getfield 73) 3 12 32 1), (63, qa (.iload_n 3) 1), (64, qa (.aload_n 0) 1), (65, qf (.getfield 393) 3 12 36 0), (68, qa .iastore 1), (69, qa (.aload_n 0) 1)]),
  (84, [(70, qf (.getfield 76) 3 12 33 1), (73, qa (.aload_n 0) 1), (74, qf (.getfield 393) 3 12 36 0), (77, qa (.iload_n 3) 1), (78, qa .iastore 1), (79, qa (.aload_n 0) 1), (80, qf (.getfield 70) 3 12 31 1), (83, qk (.iconst 0) 1 (nI 0))]),
  (96, [(84, qa (.iload_n 3) 1), (85, qa .iastore 1), (86, qk (.iconst 1) 1 (nI 1)), (87, qa (.istore 4) 2), (89, qk (.iconst 0) 1 (nI 0)), (90, qm [true, true, true, true, true, true, false, false] (qa (.istore 5) 2)), (92, qa (.iload 5) 2), (94, qa (.iload 4) 2)]),
  (112, [(96, qj (.if_icmp .ge 92) 3 188 [true, true, true, true, true, false, false, false]), (99, qk (.iconst 0) 1 (nI 0)), (100, qm [true, true, true, true, true, true, true, false] (qa (.istore 6) 2)), (102, qa (.iload 6) 2), (104, qk (.iconst 4) 1 (nI 4)), (105, qj (.if_icmp .ge 77) 3 182 [true, true, true, true, true, true, false, false]), (108, qa (.aload_n 0) 1), (109, qf (.getfield 70) 3 12 31 1)]),
  (128, [(112, qa (.iload 5) 2), (114, qa .iaload 1), (115, qa (.iload 6) 2), (117, qc (.invokestatic 371) 3 144 2 1 [2, 4]), (120, qa (.istore 7) 2), (122, qa (.iload 7) 2), (124, qk (.iconst (-1)) 1 (-1)), (125, qj (.if_icmp .eq 51) 3 176 [true, true, true, true, true, true, true, false])]),
  (141, [(128, qa (.aload_n 0) 1), (129, qf (.getfield 73) 3 12 32 1), (132, qa (.iload 7) 2), (134, qa .iaload 1), (135, qk (.iconst (-1)) 1 (-1)), (136, qj (.if_icmp .ne 40) 3 176 [true, true, true, true, true, true, true, false]), (139, qa (.aload_n 0) 1), (140, qa (.iload_n 1) 1)]),
  (159, [(141, qa (.iload 7) 2), (143, qa (.iload_n 2) 1), (144, qc (.invokevirtual 396) 3 147 4 1 [0, 4, 12]), (147, qj (.ifCond .ne 6) 3 153 []), (150, qj (.goto 26) 3 176 [true, true, true, true, true, true, true, false]), (153, qa (.aload_n 0) 1), (154, qf (.getfield 73) 3 12 32 1), (157, qa (.iload 7) 2)]),
  (173, [(159, qa (.aload_n 0) 1), (160, qf (.getfield 393) 3 12 36 0), (163, qa .iastore 1), (164, qa (.aload_n 0) 1), (165, qf (.getfield 70) 3 12 31 1), (168, qa (.iload 4) 2), (170, qa (.iload 7) 2), (172, qa .iastore 1)]),
  (193, [(173, qm [true, true, true, true, true, true, true, false] (qk (.iinc 4 1) 3 (nI 1))), (176, qk (.iinc 6 1) 3 (nI 1)), (179, qj (.goto (-77)) 3 102 [true, true, true, true, true, true, true, false]), (182, qk (.iinc 5 1) 3 (nI 1)), (185, qj (.goto (-93)) 3 92 [true, true, true, true, true, true, false, false]), (188, qa (.aload_n 0) 1), (189, qf (.getfield 79) 3 12 34 1), (192, qa (.aload_n 0) 1)]),
  (206, [(193, qf (.getfield 393) 3 12 36 0), (196, qa (.iload 4) 2), (198, qa .iastore 1), (199, qa (.aload_n 0) 1), (200, qa .dup 1), (201, qf (.getfield 393) 3 12 36 0), (204, qk (.iconst 1) 1 (nI 1)), (205, qa .iadd 1)]),
  (216, [(206, qm [true, true, true, true, false, false, false, false] (qf (.putfield 393) 3 12 36 0)), (209, qk (.iinc 3 1) 3 (nI 1)), (212, qj (.goto (-183)) 3 29 [true, true, true, true, false, false, false, false]), (215, qa .return_ 1)])]
-- 149 TinStencilsModel.looks(II)V
def tb_149 : qz_B := [(10, [(0, qa (.aload_n 0) 1), (1, qa (.iload_n 1) 1), (2, qa (.iload_n 2) 1), (3, qc (.invokevirtual 383) 3 123 3 0 [1, 4, 12]), (6, qa (.aload_n 0) 1), (7, qa (.iload_n 1) 1), (8, qk (.iconst (-1)) 1 (-1)), (9, qk (.iconst (-1)) 1 (-1))]),
  (21, [(10, qc (.invokevirtual 386) 3 146 4 1 [2, 6, 12]), (13, qa .pop 1), (14, qa (.aload_n 0) 1), (15, qa (.iload_n 1) 1), (16, qk (.iconst 1) 1 (nI 1)), (17, qc (.invokevirtual 399) 3 148 3 0 [5, 8, 12]), (20, qa .return_ 1)])]
-- 150 TinStencilsModel.tongueOf(IIII)I
def tb_150 : qz_B := [(11, [(0, qa (.iload 4) 2), (2, qk (.iconst 1) 1 (nI 1)), (3, qa .isub 1), (4, qa (.aload_n 0) 1), (5, qa (.iload_n 1) 1), (6, qa (.iload_n 2) 1), (7, qa (.iload_n 3) 1), (8, qc (.invokevirtual 386) 3 146 4 1 [2, 6, 12])]),
  (13, [(11, qa .isub 1), (12, qa .ireturn 1)])]
-- 151 TinStencilsModel.tongue(II)I
def tb_151 : qz_B := [(12, [(0, qa (.aload_n 0) 1), (1, qa (.iload_n 1) 1), (2, qk (.iconst (-1)) 1 (-1)), (3, qk (.iconst (-1)) 1 (-1)), (4, qc (.invokevirtual 386) 3 146 4 1 [2, 6, 12]), (7, qa (.istore_n 3) 1), (8, qa (.aload_n 0) 1), (9, qf (.getfield 67) 3 12 30 1)]),
  (22, [(12, qa (.iload_n 2) 1), (13, qa .iaload 1), (14, qk (.iconst 1) 1 (nI 1)), (15, qj (.if_icmp .ne 14) 3 29 [false, false, false, false]), (18, qa (.aload_n 0) 1), (19, qa (.iload_n 1) 1), (20, qk (.iconst (-1)) 1 (-1)), (21, qa (.iload_n 2) 1)]),
  (31, [(22, qa (.iload_n 3) 1), (23, qc (.invokevirtual 408) 3 150 5 1 [0, 5, 12]), (26, qj (.goto 4) 3 30 [false, false, false, false]), (29, qm [false, false, false, false] (qk (.iconst 0) 1 (nI 0))), (30, qa .ireturn 1)])]
-- 152 TinStencilsModel.square(IIII)I
def tb_152 : qz_B := [(12, [(0, qa (.aload_n 0) 1), (1, qa (.iload_n 1) 1), (2, qc (.invokevirtual 402) 3 120 2 1 [0, 2, 12]), (5, qj (.ifCond .eq 23) 3 28 [false, false, false, false, false, false]), (8, qa (.aload_n 0) 1), (9, qa (.iload_n 1) 1), (10, qa (.iload_n 2) 1), (11, qa (.iload_n 3) 1)]),
  (29, [(12, qc (.invokevirtual 288) 3 94 4 1 [0, 4, 12]), (15, qj (.ifCond .eq 13) 3 28 [false, false, false, false, false, false]), (18, qa (.iload 4) 2), (20, qk (.iconst 0) 1 (nI 0)), (21, qk (.iconst 5) 1 (nI 5)), (22, qc (.invokestatic 156) 3 72 3 1 [0, 3]), (25, qm [false, false, false, false, false, false] (qj (.ifCond .ne 5) 3 30 [true, true, true, true, true, false])), (28, qk (.iconst (-1)) 1 (-1))]),
  (42, [(29, qm [true, true, true, true, true, false] (qa .ireturn 1)), (30, qa (.iload 4) 2), (32, qj (.ifCond .ne 15) 3 47 [true, true, true, true, true, false]), (35, qa (.aload_n 0) 1), (36, qf (.getfield 23) 3 12 4 1), (39, qa (.iload_n 1) 1), (40, qa (.iload_n 2) 1), (41, qa (.iload_n 3) 1)]),
  (57, [(42, qc (.invokestatic 262) 3 84 3 1 [0, 3]), (45, qa .iaload 1), (46, qm [true, true, true, true, true, false] (qa .ireturn 1)), (47, qa (.iload 4) 2), (49, qk (.iconst 2) 1 (nI 2)), (50, qj (.if_icmp .ne 15) 3 65 [true, true, true, true, true, false]), (53, qa (.aload_n 0) 1), (54, qf (.getfield 26) 3 12 5 1)]),
  (68, [(57, qa (.iload_n 1) 1), (58, qa (.iload_n 2) 1), (59, qa (.iload_n 3) 1), (60, qc (.invokestatic 262) 3 84 3 1 [0, 3]), (63, qa .iaload 1), (64, qm [true, true, true, true, true, false] (qa .ireturn 1)), (65, qk (.bipush 20) 2 (nI 20)), (67, qa (.iload_n 3) 1)]),
  (77, [(68, qa .imul 1), (69, qa (.iload_n 2) 1), (70, qa .iadd 1), (71, qa (.istore 5) 2), (73, qa (.aload_n 0) 1), (74, qa (.iload_n 1) 1), (75, qa (.aload_n 0) 1), (76, qa (.iload_n 1) 1)]),
  (95, [(77, qc (.invokevirtual 405) 3 121 2 1 [0, 2, 12]), (80, qc (.invokevirtual 412) 3 149 3 0 [0, 3, 12]), (83, qa (.iload 4) 2), (85, qk (.iconst 1) 1 (nI 1)), (86, qj (.if_icmp .ne 13) 3 99 [true, true, false, false, true, true]), (89, qa (.aload_n 0) 1), (90, qf (.getfield 64) 3 12 29 1), (93, qa (.iload 5) 2)]),
  (111, [(95, qa .iaload 1), (96, qj (.goto 42) 3 138 [false, false, false, false, false, false]), (99, qa (.iload 4) 2), (101, qk (.iconst 3) 1 (nI 3)), (102, qj (.if_icmp .ne 13) 3 115 [true, true, false, false, true, true]), (105, qa (.aload_n 0) 1), (106, qf (.getfield 67) 3 12 30 1), (109, qa (.iload 5) 2)]),
  (127, [(111, qa .iaload 1), (112, qj (.goto 26) 3 138 [false, false, false, false, false, false]), (115, qa (.iload 4) 2), (117, qk (.iconst 4) 1 (nI 4)), (118, qj (.if_icmp .ne 13) 3 131 [true, true, false, false, false, true]), (121, qa (.aload_n 0) 1), (122, qf (.getfield 73) 3 12 32 1), (125, qa (.iload 5) 2)]),
  (139, [(127, qa .iaload 1), (128, qj (.goto 10) 3 138 [false, false, false, false, false, false]), (131, qa (.aload_n 0) 1), (132, qa (.iload_n 1) 1), (133, qa (.iload 5) 2), (135, qm [false, false, false, false, false, false] (qc (.invokevirtual 415) 3 151 3 1 [1, 4, 12])), (138, qa .ireturn 1)])]
-- 153 TinStencils$Parts.has(I)Z
def tb_153 : qz_B := [(16, [(0, qa (.iload_n 1) 1), (1, qj (.ifCond .lt 15) 3 16 [false, false]), (4, qa (.iload_n 1) 1), (5, qa (.aload_n 0) 1), (6, qf (.getfield 9) 3 5 0 0), (9, qj (.if_icmp .ge 7) 3 16 [false, false]), (12, qk (.iconst 1) 1 (nI 1)), (13, qj (.goto 4) 3 17 [false, false])]),
  (18, [(16, qm [false, false] (qk (.iconst 0) 1 (nI 0))), (17, qf .ireturn 1 0 0 1)])]
-- 154 TinStencils$Parts.rowOf(II)I
def tb_154 : qz_B := [(13, [(0, qk (.iconst 0) 1 (nI 0)), (1, qa (.istore_n 3) 1), (2, qk (.iconst 0) 1 (nI 0)), (3, qa (.istore 4) 2), (5, qa (.iload 4) 2), (7, qk (.bipush 20) 2 (nI 20)), (9, qj (.if_icmp .ge 32) 3 41 [false, false, false, true, false]), (12, qa (.aload_n 0) 1)]),
  (25, [(13, qf (.getfield 15) 3 5 1 1), (16, qa (.iload_n 2) 1), (17, qk (.bipush 20) 2 (nI 20)), (19, qa .imul 1), (20, qa (.iload 4) 2), (22, qa .iadd 1), (23, qa .iaload 1), (24, qa (.iload_n 1) 1)]),
  (38, [(25, qj (.if_icmp .ne 10) 3 35 []), (28, qa (.iload_n 3) 1), (29, qk (.iconst 1) 1 (nI 1)), (30, qa (.iload 4) 2), (32, qa .ishl 1), (33, qa .ior 1), (34, qa (.istore_n 3) 1), (35, qk (.iinc 4 1) 3 (nI 1))]),
  (43, [(38, qj (.goto (-33)) 3 5 []), (41, qa (.iload_n 3) 1), (42, qa .ireturn 1)])]
-- 155 TinStencils$Parts.borderRow(I)I
def tb_155 : qz_B := [(12, [(0, qa (.iload_n 1) 1), (1, qj (.ifCond .le 14) 3 15 [true, true, false, false]), (4, qa (.aload_n 0) 1), (5, qf (.getfield 28) 3 5 5 1), (8, qa (.iload_n 1) 1), (9, qk (.iconst 1) 1 (nI 1)), (10, qa .isub 1), (11, qa .iaload 1)]),
  (27, [(12, qj (.goto 4) 3 16 [true, true, false, false]), (15, qm [true, true, false, false] (qk (.iconst 0) 1 (nI 0))), (16, qa (.istore_n 2) 1), (17, qa (.iload_n 1) 1), (18, qk (.bipush 19) 2 (nI 19)), (20, qj (.if_icmp .ge 14) 3 34 [true, true, true, false]), (23, qa (.aload_n 0) 1), (24, qf (.getfield 28) 3 5 5 1)]),
  (37, [(27, qa (.iload_n 1) 1), (28, qk (.iconst 1) 1 (nI 1)), (29, qa .iadd 1), (30, qa .iaload 1), (31, qj (.goto 4) 3 35 [true, true, true, false]), (34, qm [true, true, true, false] (qk (.iconst 0) 1 (nI 0))), (35, qa (.istore_n 3) 1), (36, qa (.iload_n 2) 1)]),
  (47, [(37, qa (.iload_n 3) 1), (38, qa .ior 1), (39, qa (.aload_n 0) 1), (40, qf (.getfield 28) 3 5 5 1), (43, qa (.iload_n 1) 1), (44, qa .iaload 1), (45, qk (.iconst 1) 1 (nI 1)), (46, qa .ishl 1)]),
  (57, [(47, qa .ior 1), (48, qa (.aload_n 0) 1), (49, qf (.getfield 28) 3 5 5 1), (52, qa (.iload_n 1) 1), (53, qa .iaload 1), (54, qk (.iconst 1) 1 (nI 1)), (55, qa .ishr 1), (56, qa .ior 1)]),
  (67, [(57, qa (.aload_n 0) 1), (58, qf (.getfield 28) 3 5 5 1), (61, qa (.iload_n 1) 1), (62, qa .iaload 1), (63, qk (.iconst (-1)) 1 (-1)), (64, qa .ixor 1), (65, qa .iand 1), (66, qa .ireturn 1)])]
-- 156 TinStencils$Parts.gap(ILTinStencils$Sheet;[I)I
def tb_156 : qz_B := [(16, [(0, qk (.iconst 0) 1 (nI 0)), (1, qm [true, true, true, true, true, false, false, false] (qa (.istore 4) 2)), (3, qa (.iload 4) 2), (5, qk (.bipush 20) 2 (nI 20)), (7, qj (.if_icmp .ge 23) 3 30 [true, false, true, true, false, false, false, false]), (10, qa (.aload_n 0) 1), (11, qf (.getfield 28) 3 5 5 1), (14, qa (.iload 4) 2)]),
  (31, [(16, qa (.aload_n 0) 1), (17, qa (.iload_n 1) 1), (18, qa (.iload 4) 2), (20, qc (.invokevirtual 56) 3 154 3 1 [2, 5, 5]), (23, qa .iastore 1), (24, qk (.iinc 4 1) 3 (nI 1)), (27, qj (.goto (-24)) 3 3 [true, true, true, true, true, false, false, false]), (30, qk (.iconst 0) 1 (nI 0))]),
  (47, [(31, qm [true, false, true, true, true, false, false, false] (qa (.istore 4) 2)), (33, qa (.iload 4) 2), (35, qk (.sipush 400) 3 (nI 400)), (38, qj (.if_icmp .ge 128) 3 166 [false, false, false, false, false, false, false, false]), (41, qk (.iconst 0) 1 (nI 0)), (42, qa (.istore 5) 2), (44, qk (.iconst 0) 1 (nI 0)), (45, qa (.istore 6) 2)]),
  (63, [(47, qk (.iconst 0) 1 (nI 0)), (48, qm [true, false, true, true, true, true, true, true] (qa (.istore 7) 2)), (50, qa (.iload 7) 2), (52, qk (.bipush 20) 2 (nI 20)), (54, qj (.if_icmp .ge 58) 3 112 [true, false, true, true, true, true, true, false]), (57, qa (.aload_n 0) 1), (58, qf (.getfield 31) 3 5 6 1), (61, qa (.iload 7) 2)]),
  (77, [(63, qa (.aload_n 0) 1), (64, qa (.iload 7) 2), (66, qc (.invokevirtual 59) 3 155 2 1 [2, 4, 5]), (69, qa (.aload_n 2) 1), (70, qa (.iload 7) 2), (72, qc (.invokevirtual 63) 3 116 2 1 [0, 2, 8]), (75, qa .iand 1), (76, qa .iastore 1)]),
  (91, [(77, qa (.iload 5) 2), (79, qa (.aload_n 0) 1), (80, qf (.getfield 31) 3 5 6 1), (83, qa (.iload 7) 2), (85, qa .iaload 1), (86, qa .ior 1), (87, qa (.istore 5) 2), (89, qa (.iload 6) 2)]),
  (103, [(91, qa (.aload_n 0) 1), (92, qf (.getfield 31) 3 5 6 1), (95, qa (.iload 7) 2), (97, qa .iaload 1), (98, qa (.aload_n 3) 1), (99, qa (.iload 7) 2), (101, qa .iaload 1), (102, qa .iand 1)]),
  (120, [(103, qa .ior 1), (104, qa (.istore 6) 2), (106, qk (.iinc 7 1) 3 (nI 1)), (109, qj (.goto (-59)) 3 50 [true, false, true, true, true, true, true, true]), (112, qa (.iload 6) 2), (114, qj (.ifCond .eq 6) 3 120 [true, false, true, true, true, true, false, false]), (117, qa (.iload 4) 2), (119, qm [true, false, true, true, true, true, false, false] (qa .ireturn 1))]),
  (134, [(120, qa (.iload 5) 2), (122, qj (.ifCond .ne 5) 3 127 [true, false, true, true, true, false, false, false]), (125, qk (.iconst (-1)) 1 (-1)), (126, qm [true, false, true, true, true, false, false, false] (qa .ireturn 1)), (127, qk (.iconst 0) 1 (nI 0)), (128, qm [true, false, true, true, true, false, false, true] (qa (.istore 7) 2)), (130, qa (.iload 7) 2), (132, qk (.bipush 20) 2 (nI 20))]),
  (149, [(134, qj (.if_icmp .ge 26) 3 160 [true, false, true, true, true, false, false, false]), (137, qa (.aload_n 0) 1), (138, qf (.getfield 28) 3 5 5 1), (141, qa (.iload 7) 2), (143, qa .dup2 1), (144, qa .iaload 1), (145, qa (.aload_n 0) 1), (146, qf (.getfield 31) 3 5 6 1)]),
  (166, [(149, qa (.iload 7) 2), (151, qa .iaload 1), (152, qa .ior 1), (153, qa .iastore 1), (154, qk (.iinc 7 1) 3 (nI 1)), (157, qj (.goto (-27)) 3 130 [true, false, true, true, true, false, false, true]), (160, qk (.iinc 4 1) 3 (nI 1)), (163, qj (.goto (-130)) 3 33 [true, false, true, true, true, false, false, false])]),
  (168, [(166, qk (.iconst (-1)) 1 (-1)), (167, qa .ireturn 1)])]
-- 157 TinStencils$Parts.told(II)I
def tb_157 : qz_B := [(14, [(0, qa (.iload_n 1) 1), (1, qk (.iconst (-1)) 1 (-1)), (2, qj (.if_icmp .ne 12) 3 14 []), (5, qa (.iload_n 2) 1), (6, qj (.ifCond .ne 8) 3 14 []), (9, qa (.aload_n 0) 1), (10, qf (.getfield 9) 3 5 0 0), (13, qa .ireturn 1)]),
  (52, [(14, qa (.aload_n 0) 1), (15, qa (.iload_n 1) 1), (16, qc (.invokevirtual 52) 3 153 2 1 [0, 2, 5]), (19, qj (.ifCond .ne 5) 3 24 []), (22, qk (.iconst (-1)) 1 (-1)), (23, qa .ireturn 1), (24, qa (.iload_n 2) 1), (25, qs (.tableswitch 54 0 2 #[27, 34, 44]) 27 79 0 [true, true, false] [52, 59, 69])]),
  (64, [(52, qa (.aload_n 0) 1), (53, qf (.getfield 19) 3 5 2 1), (56, qa (.iload_n 1) 1), (57, qa .iaload 1), (58, qm [true, true, false] (qa .ireturn 1)), (59, qa (.aload_n 0) 1), (60, qf (.getfield 22) 3 5 3 1), (63, qa (.iload_n 1) 1)]),
  (75, [(64, qa .iaload 1), (65, qk (.bipush 20) 2 (nI 20)), (67, qa .irem 1), (68, qm [true, true, false] (qa .ireturn 1)), (69, qa (.aload_n 0) 1), (70, qf (.getfield 22) 3 5 3 1), (73, qa (.iload_n 1) 1), (74, qa .iaload 1)]),
  (81, [(75, qk (.bipush 20) 2 (nI 20)), (77, qa .idiv 1), (78, qm [false, false, false] (qa .ireturn 1)), (79, qk (.iconst (-1)) 1 (-1)), (80, qa .ireturn 1)])]
-- 158 TinStencils.falls(III)I
def tb_158 : qz_B := [(14, [(0, qa (.aload_n 0) 1), (1, qa (.iload_n 1) 1), (2, qc (.invokevirtual 118) 3 115 2 3 [0, 2, 11]), (5, qa (.astore 4) 2), (7, qa (.aload 4) 2), (9, qj (.ifnonnull 5) 3 14 [true, false, true, true, true]), (12, qk (.iconst (-1)) 1 (-1)), (13, qm [true, false, true, true, true] (qa .ireturn 1))]),
  (30, [(14, qa (.aload_n 0) 1), (15, qa (.aload 4) 2), (17, qa (.aload 4) 2), (19, qf (.getfield 131) 3 8 9 1), (22, qf (.getfield 140) 3 0 1 0), (25, qc (.invokevirtual 177) 3 134 3 0 [0, 3, 11]), (28, qa (.iload_n 3) 1), (29, qk (.iconst 3) 1 (nI 3))]),
  (48, [(30, qj (.if_icmp .ne 32) 3 62 [true, false, true, true, false]), (33, qa (.aload_n 0) 1), (34, qf (.getfield 61) 3 11 10 1), (37, qa (.iload_n 2) 1), (38, qc (.invokevirtual 190) 3 153 2 1 [0, 2, 5]), (41, qj (.ifCond .eq 21) 3 62 [true, false, true, true, false]), (44, qa (.aload_n 0) 1), (45, qf (.getfield 61) 3 11 10 1)]),
  (63, [(48, qa (.iload_n 2) 1), (49, qa (.aload 4) 2), (51, qa (.aload_n 0) 1), (52, qf (.getfield 54) 3 11 9 1), (55, qf (.getfield 193) 3 3 0 1), (58, qc (.invokevirtual 196) 3 156 4 1 [4, 8, 5]), (61, qm [true, false, true, true, false] (qa .ireturn 1)), (62, qa (.aload_n 0) 1)]),
  (72, [(63, qf (.getfield 61) 3 11 10 1), (66, qa (.iload_n 2) 1), (67, qa (.iload_n 3) 1), (68, qc (.invokevirtual 200) 3 157 3 1 [0, 3, 5]), (71, qa .ireturn 1)])]
-- 159 TinStencilsModel.gap(I)I
def tb_159 : qz_B := [(12, [(0, qk (.iconst 0) 1 (nI 0)), (1, qa (.istore_n 2) 1), (2, qk (.iconst 0) 1 (nI 0)), (3, qm [true, true, true, true, false, false] (qa (.istore_n 3) 1)), (4, qa (.iload_n 3) 1), (5, qk (.sipush 400) 3 (nI 400)), (8, qj (.if_icmp .ge 53) 3 61 [true, false, true, false, false, false]), (11, qa (.aload_n 0) 1)]),
  (26, [(12, qf (.getfield 85) 3 12 37 1), (15, qa (.iload_n 3) 1), (16, qa (.aload_n 0) 1), (17, qf (.getfield 73) 3 12 32 1), (20, qa (.iload_n 3) 1), (21, qa .iaload 1), (22, qa (.iload_n 1) 1), (23, qj (.if_icmp .ne 7) 3 30 [true, true, true, true, false, false])]),
  (38, [(26, qk (.iconst 0) 1 (nI 0)), (27, qj (.goto 4) 3 31 [true, true, true, true, false, false]), (30, qm [true, true, true, true, false, false] (qk (.iconst (-1)) 1 (-1))), (31, qa .iastore 1), (32, qa (.aload_n 0) 1), (33, qf (.getfield 73) 3 12 32 1), (36, qa (.iload_n 3) 1), (37, qa .iaload 1)]),
  (52, [(38, qa (.iload_n 1) 1), (39, qj (.if_icmp .eq 6) 3 45 [true, true, true, true, false, false]), (42, qj (.goto 13) 3 55 [true, true, true, true, false, false]), (45, qa (.aload_n 0) 1), (46, qf (.getfield 70) 3 12 31 1), (49, qa (.iload_n 2) 1), (50, qa (.iload_n 3) 1), (51, qa .iastore 1)]),
  (68, [(52, qm [true, true, true, true, false, false] (qk (.iinc 2 1) 3 (nI 1))), (55, qk (.iinc 3 1) 3 (nI 1)), (58, qj (.goto (-54)) 3 4 [true, true, true, true, false, false]), (61, qk (.iconst 0) 1 (nI 0)), (62, qm [true, false, true, true, false, false] (qa (.istore_n 3) 1)), (63, qa (.iload_n 3) 1), (64, qa (.iload_n 2) 1), (65, qj (.if_icmp .ge 140) 3 205 [false, false, false, false, false, false])]),
  (82, [(68, qk (.iconst 0) 1 (nI 0)), (69, qm [true, false, true, true, true, false] (qa (.istore 4) 2)), (71, qa (.iload 4) 2), (73, qk (.iconst 4) 1 (nI 4)), (74, qj (.if_icmp .ge 125) 3 199 [true, false, true, true, false, false]), (77, qa (.aload_n 0) 1), (78, qf (.getfield 70) 3 12 31 1), (81, qa (.iload_n 3) 1)]),
  (97, [(82, qa .iaload 1), (83, qa (.iload 4) 2), (85, qc (.invokestatic 371) 3 144 2 1 [2, 4]), (88, qa (.istore 5) 2), (90, qa (.iload 5) 2), (92, qk (.iconst (-1)) 1 (-1)), (93, qj (.if_icmp .eq 100) 3 193 [true, false, true, true, true, false]), (96, qa (.aload_n 0) 1)]),
  (112, [(97, qf (.getfield 85) 3 12 37 1), (100, qa (.iload 5) 2), (102, qa .iaload 1), (103, qk (.iconst (-1)) 1 (-1)), (104, qj (.if_icmp .ne 89) 3 193 [true, false, true, true, true, false]), (107, qa (.aload_n 0) 1), (108, qf (.getfield 88) 3 12 38 0), (111, qk (.iconst (-1)) 1 (-1))]),
  (127, [(112, qj (.if_icmp .eq 27) 3 139 [true, false, true, true, true, true]), (115, qa (.aload_n 0) 1), (116, qa (.aload_n 0) 1), (117, qf (.getfield 88) 3 12 38 0), (120, qa (.iload 5) 2), (122, qk (.bipush 20) 2 (nI 20)), (124, qa .irem 1), (125, qa (.iload 5) 2)]),
  (145, [(127, qk (.bipush 20) 2 (nI 20)), (129, qa .idiv 1), (130, qc (.invokevirtual 288) 3 94 4 1 [0, 4, 12]), (133, qj (.ifCond .ne 6) 3 139 [true, false, true, true, true, true]), (136, qj (.goto 57) 3 193 [true, false, true, true, true, false]), (139, qa (.aload_n 0) 1), (140, qf (.getfield 64) 3 12 29 1), (143, qa (.iload 5) 2)]),
  (159, [(145, qa .iaload 1), (146, qk (.iconst 1) 1 (nI 1)), (147, qj (.if_icmp .ne 15) 3 162 [true, false, true, true, true, true]), (150, qa (.aload_n 0) 1), (151, qf (.getfield 85) 3 12 37 1), (154, qa (.aload_n 0) 1), (155, qf (.getfield 70) 3 12 31 1), (158, qa (.iload_n 3) 1)]),
  (172, [(159, qa .iaload 1), (160, qa .iaload 1), (161, qm [true, false, true, true, true, true] (qa .ireturn 1)), (162, qa (.aload_n 0) 1), (163, qf (.getfield 85) 3 12 37 1), (166, qa (.iload 5) 2), (168, qa (.aload_n 0) 1), (169, qf (.getfield 85) 3 12 37 1)]),
  (182, [(172, qa (.aload_n 0) 1), (173, qf (.getfield 70) 3 12 31 1), (176, qa (.iload_n 3) 1), (177, qa .iaload 1), (178, qa .iaload 1), (179, qk (.iconst 1) 1 (nI 1)), (180, qa .iadd 1), (181, qa .iastore 1)]),
  (199, [(182, qa (.aload_n 0) 1), (183, qf (.getfield 70) 3 12 31 1), (186, qa (.iload_n 2) 1), (187, qa (.iload 5) 2), (189, qa .iastore 1), (190, qm [true, false, true, true, true, false] (qk (.iinc 2 1) 3 (nI 1))), (193, qk (.iinc 4 1) 3 (nI 1)), (196, qj (.goto (-125)) 3 71 [true, false, true, true, true, false])]),
  (207, [(199, qk (.iinc 3 1) 3 (nI 1)), (202, qj (.goto (-139)) 3 63 [true, false, true, true, false, false]), (205, qk (.iconst (-1)) 1 (-1)), (206, qa .ireturn 1)])]
-- 160 TinStencilsModel.falls(III)I
def tb_160 : qz_B := [(12, [(0, qa (.aload_n 0) 1), (1, qa (.iload_n 1) 1), (2, qc (.invokevirtual 402) 3 120 2 1 [0, 2, 12]), (5, qj (.ifCond .ne 5) 3 10 []), (8, qk (.iconst (-1)) 1 (-1)), (9, qa .ireturn 1), (10, qa (.aload_n 0) 1), (11, qa (.iload_n 1) 1)]),
  (26, [(12, qa (.aload_n 0) 1), (13, qa (.iload_n 1) 1), (14, qc (.invokevirtual 405) 3 121 2 1 [0, 2, 12]), (17, qc (.invokevirtual 412) 3 149 3 0 [0, 3, 12]), (20, qa (.iload_n 2) 1), (21, qk (.iconst (-1)) 1 (-1)), (22, qj (.if_icmp .ne 16) 3 38 []), (25, qa (.iload_n 3) 1)]),
  (40, [(26, qj (.ifCond .ne 10) 3 36 [false, false, false, false]), (29, qa (.aload_n 0) 1), (30, qf (.getfield 393) 3 12 36 0), (33, qj (.goto 4) 3 37 [false, false, false, false]), (36, qm [false, false, false, false] (qk (.iconst (-1)) 1 (-1))), (37, qa .ireturn 1), (38, qa (.iload_n 2) 1), (39, qk (.iconst 0) 1 (nI 0))]),
  (54, [(40, qa (.aload_n 0) 1), (41, qf (.getfield 393) 3 12 36 0), (44, qk (.iconst 1) 1 (nI 1)), (45, qa .isub 1), (46, qc (.invokestatic 156) 3 72 3 1 [0, 3]), (49, qj (.ifCond .eq 12) 3 61 [false, false, false, false]), (52, qa (.iload_n 3) 1), (53, qk (.iconst 0) 1 (nI 0))]),
  (68, [(54, qk (.iconst 3) 1 (nI 3)), (55, qc (.invokestatic 156) 3 72 3 1 [0, 3]), (58, qm [false, false, false, false] (qj (.ifCond .ne 5) 3 63 [])), (61, qk (.iconst (-1)) 1 (-1)), (62, qa .ireturn 1), (63, qa (.aload_n 0) 1), (64, qa (.iload_n 1) 1), (65, qf (.putfield 88) 3 12 38 0)]),
  (82, [(68, qa (.iload_n 3) 1), (69, qj (.ifCond .ne 12) 3 81 [true, false, true, true]), (72, qa (.aload_n 0) 1), (73, qf (.getfield 79) 3 12 34 1), (76, qa (.iload_n 2) 1), (77, qa .iaload 1), (78, qj (.goto 42) 3 120 [false, false, false, false]), (81, qa (.iload_n 3) 1)]),
  (95, [(82, qk (.iconst 1) 1 (nI 1)), (83, qj (.if_icmp .ne 15) 3 98 [true, false, true, true]), (86, qa (.aload_n 0) 1), (87, qf (.getfield 76) 3 12 33 1), (90, qa (.iload_n 2) 1), (91, qa .iaload 1), (92, qk (.bipush 20) 2 (nI 20)), (94, qa .irem 1)]),
  (109, [(95, qj (.goto 25) 3 120 [false, false, false, false]), (98, qa (.iload_n 3) 1), (99, qk (.iconst 2) 1 (nI 2)), (100, qj (.if_icmp .ne 15) 3 115 [true, false, true, false]), (103, qa (.aload_n 0) 1), (104, qf (.getfield 76) 3 12 33 1), (107, qa (.iload_n 2) 1), (108, qa .iaload 1)]),
  (121, [(109, qk (.bipush 20) 2 (nI 20)), (111, qa .idiv 1), (112, qj (.goto 8) 3 120 [false, false, false, false]), (115, qa (.aload_n 0) 1), (116, qa (.iload_n 2) 1), (117, qm [false, false, false, false] (qc (.invokevirtual 418) 3 159 2 1 [4, 6, 12])), (120, qa .ireturn 1)])]
-- 161 TinStencils$Hanging.tonguesAbove(II)I
def tb_161 : qz_B := [(15, [(0, qk (.iconst 0) 1 (nI 0)), (1, qa (.istore_n 3) 1), (2, qk (.iconst 0) 1 (nI 0)), (3, qa (.istore 4) 2), (5, qa (.iload 4) 2), (7, qk (.sipush 400) 3 (nI 400)), (10, qj (.if_icmp .ge 29) 3 39 [false, false, false, true, false]), (13, qa (.iload 4) 2)]),
  (30, [(15, qa (.iload_n 2) 1), (16, qj (.if_icmp .eq 17) 3 33 []), (19, qa (.aload_n 0) 1), (20, qf (.getfield 21) 3 3 3 1), (23, qa (.iload 4) 2), (25, qa .iaload 1), (26, qa (.iload_n 1) 1), (27, qj (.if_icmp .le 6) 3 33 [])]),
  (41, [(30, qk (.iinc 3 1) 3 (nI 1)), (33, qk (.iinc 4 1) 3 (nI 1)), (36, qj (.goto (-31)) 3 5 []), (39, qa (.iload_n 3) 1), (40, qa .ireturn 1)])]
-- 162 java/lang/Math.max(II)I
def tb_162 : qz_B := [(11, [(0, qa (.iload_n 0) 1), (1, qa (.iload_n 1) 1), (2, qj (.if_icmp .lt 7) 3 9 [false, true]), (5, qa (.iload_n 0) 1), (6, qj (.goto 4) 3 10 [false, false]), (9, qm [false, false] (qa (.iload_n 1) 1)), (10, qa .ireturn 1)])]
-- 163 TinStencils$Hanging.greatestTongue(I)I
def tb_163 : qz_B := [(12, [(0, qk (.iconst 0) 1 (nI 0)), (1, qa (.istore_n 2) 1), (2, qk (.iconst 0) 1 (nI 0)), (3, qa (.istore_n 3) 1), (4, qa (.iload_n 3) 1), (5, qk (.sipush 400) 3 (nI 400)), (8, qj (.if_icmp .ge 25) 3 33 [false, false, true, false]), (11, qa (.iload_n 3) 1)]),
  (26, [(12, qa (.iload_n 1) 1), (13, qj (.if_icmp .eq 14) 3 27 []), (16, qa (.iload_n 2) 1), (17, qa (.aload_n 0) 1), (18, qf (.getfield 21) 3 3 3 1), (21, qa (.iload_n 3) 1), (22, qa .iaload 1), (23, qc (.invokestatic 94) 3 162 2 1 [0, 2])]),
  (35, [(26, qa (.istore_n 2) 1), (27, qk (.iinc 3 1) 3 (nI 1)), (30, qj (.goto (-26)) 3 4 []), (33, qa (.iload_n 2) 1), (34, qa .ireturn 1)])]
-- 164 TinStencils.tongues(II)I
def tb_164 : qz_B := [(14, [(0, qa (.aload_n 0) 1), (1, qa (.iload_n 1) 1), (2, qc (.invokevirtual 118) 3 115 2 3 [0, 2, 11]), (5, qa (.astore_n 3) 1), (6, qa (.aload_n 3) 1), (7, qj (.ifnull 12) 3 19 [false, false, false, false]), (10, qa (.iload_n 2) 1), (11, qj (.ifCond .lt 8) 3 19 [false, false, false, false])]),
  (26, [(14, qa (.iload_n 2) 1), (15, qk (.iconst 2) 1 (nI 2)), (16, qm [false, false, false, false] (qj (.if_icmp .le 5) 3 21 [true, false, true, true])), (19, qk (.iconst (-1)) 1 (-1)), (20, qm [true, false, true, true] (qa .ireturn 1)), (21, qa (.aload_n 0) 1), (22, qa (.aload_n 3) 1), (23, qc (.invokevirtual 183) 3 140 2 0 [1, 3, 11])]),
  (40, [(26, qa (.iload_n 2) 1), (27, qj (.ifCond .ne 13) 3 40 [true, false, true, true]), (30, qa (.aload_n 0) 1), (31, qf (.getfield 54) 3 11 9 1), (34, qk (.iconst 0) 1 (nI 0)), (35, qk (.iconst (-1)) 1 (-1)), (36, qc (.invokevirtual 203) 3 161 3 1 [2, 5, 3]), (39, qm [true, false, true, true] (qa .ireturn 1))]),
  (56, [(40, qa (.iload_n 2) 1), (41, qk (.iconst 1) 1 (nI 1)), (42, qj (.if_icmp .ne 14) 3 56 [true, false, false, true]), (45, qa (.aload_n 0) 1), (46, qf (.getfield 54) 3 11 9 1), (49, qk (.iconst (-1)) 1 (-1)), (50, qc (.invokevirtual 206) 3 163 2 1 [2, 4, 3]), (53, qj (.goto 15) 3 68 [false, false, false, false])]),
  (69, [(56, qa (.aload_n 0) 1), (57, qf (.getfield 54) 3 11 9 1), (60, qa (.aload_n 3) 1), (61, qf (.getfield 146) 3 8 5 0), (64, qk (.iconst (-1)) 1 (-1)), (65, qm [false, false, false, false] (qc (.invokevirtual 203) 3 161 3 1 [2, 5, 3])), (68, qa .ireturn 1)])]
-- 165 TinStencilsModel.necks(III)V
def tb_165 : qz_B := [(12, [(0, qa (.aload_n 0) 1), (1, qa (.iload_n 1) 1), (2, qa (.iload_n 2) 1), (3, qk (.iconst (-1)) 1 (-1)), (4, qc (.invokevirtual 386) 3 146 4 1 [2, 6, 12]), (7, qa (.istore 4) 2), (9, qk (.iconst 0) 1 (nI 0)), (10, qm [true, true, true, true, true, true, false] (qa (.istore 5) 2))]),
  (30, [(12, qa (.iload 5) 2), (14, qk (.sipush 400) 3 (nI 400)), (17, qj (.if_icmp .ge 23) 3 40 [true, true, true, true, true, false, false]), (20, qa (.aload_n 0) 1), (21, qf (.getfield 82) 3 12 35 1), (24, qa (.iload 5) 2), (26, qa (.aload_n 0) 1), (27, qf (.getfield 67) 3 12 30 1)]),
  (45, [(30, qa (.iload 5) 2), (32, qa .iaload 1), (33, qa .iastore 1), (34, qk (.iinc 5 1) 3 (nI 1)), (37, qj (.goto (-25)) 3 12 [true, true, true, true, true, true, false]), (40, qa (.aload_n 0) 1), (41, qk (.iconst 0) 1 (nI 0)), (42, qf (.putfield 421) 3 12 39 0)]),
  (58, [(45, qa (.aload_n 0) 1), (46, qk (.iconst 0) 1 (nI 0)), (47, qf (.putfield 424) 3 12 40 0), (50, qa (.aload_n 0) 1), (51, qk (.iconst 0) 1 (nI 0)), (52, qf (.putfield 427) 3 12 41 0), (55, qk (.iconst 0) 1 (nI 0)), (56, qm [true, true, true, true, true, true, false] (qa (.istore 5) 2))]),
  (76, [(58, qa (.iload 5) 2), (60, qk (.sipush 400) 3 (nI 400)), (63, qj (.if_icmp .ge 94) 3 157 [false, false, false, false, false, false, false]), (66, qa (.aload_n 0) 1), (67, qf (.getfield 82) 3 12 35 1), (70, qa (.iload 5) 2), (72, qa .iaload 1), (73, qj (.ifCond .eq 78) 3 151 [true, true, true, true, true, true, false])]),
  (90, [(76, qa (.iload 5) 2), (78, qa (.iload_n 2) 1), (79, qj (.if_icmp .ne 6) 3 85 [true, true, true, true, true, true, false]), (82, qj (.goto 69) 3 151 [true, true, true, true, true, true, false]), (85, qa (.aload_n 0) 1), (86, qa (.iload_n 1) 1), (87, qa (.iload_n 2) 1), (88, qa (.iload 5) 2)]),
  (107, [(90, qa (.iload 4) 2), (92, qc (.invokevirtual 408) 3 150 5 1 [0, 5, 12]), (95, qa (.istore 6) 2), (97, qa (.iload 6) 2), (99, qj (.ifCond .ne 6) 3 105 []), (102, qj (.goto 49) 3 151 [true, true, true, true, true, true, false]), (105, qa (.aload_n 0) 1), (106, qa .dup 1)]),
  (122, [(107, qf (.getfield 421) 3 12 39 0), (110, qk (.iconst 1) 1 (nI 1)), (111, qa .iadd 1), (112, qf (.putfield 421) 3 12 39 0), (115, qa (.aload_n 0) 1), (116, qa (.aload_n 0) 1), (117, qf (.getfield 424) 3 12 40 0), (120, qa (.iload 6) 2)]),
  (139, [(122, qc (.invokestatic 430) 3 162 2 1 [0, 2]), (125, qf (.putfield 424) 3 12 40 0), (128, qa (.aload_n 0) 1), (129, qa .dup 1), (130, qf (.getfield 427) 3 12 41 0), (133, qa (.iload 6) 2), (135, qa (.iload_n 3) 1), (136, qj (.if_icmp .le 7) 3 143 [true, true, true, true, true, true, false])]),
  (157, [(139, qk (.iconst 1) 1 (nI 1)), (140, qj (.goto 4) 3 144 [true, true, true, true, true, true, false]), (143, qm [true, true, true, true, true, true, false] (qk (.iconst 0) 1 (nI 0))), (144, qc (.invokestatic 319) 3 104 1 1 [0, 1]), (147, qa .iadd 1), (148, qm [true, true, true, true, true, true, false] (qf (.putfield 427) 3 12 41 0)), (151, qk (.iinc 5 1) 3 (nI 1)), (154, qj (.goto (-96)) 3 58 [true, true, true, true, true, true, false])]),
  (158, [(157, qa .return_ 1)])]
-- 166 TinStencilsModel.tongues(II)I
def tb_166 : qz_B := [(14, [(0, qa (.aload_n 0) 1), (1, qa (.iload_n 1) 1), (2, qc (.invokevirtual 402) 3 120 2 1 [0, 2, 12]), (5, qj (.ifCond .eq 12) 3 17 [false, false, false]), (8, qa (.iload_n 2) 1), (9, qk (.iconst 0) 1 (nI 0)), (10, qk (.iconst 2) 1 (nI 2)), (11, qc (.invokestatic 156) 3 72 3 1 [0, 3])]),
  (26, [(14, qm [false, false, false] (qj (.ifCond .ne 5) 3 19 [])), (17, qk (.iconst (-1)) 1 (-1)), (18, qa .ireturn 1), (19, qa (.aload_n 0) 1), (20, qa (.iload_n 1) 1), (21, qa (.aload_n 0) 1), (22, qa (.iload_n 1) 1), (23, qc (.invokevirtual 405) 3 121 2 1 [0, 2, 12])]),
  (39, [(26, qc (.invokevirtual 383) 3 123 3 0 [1, 4, 12]), (29, qa (.aload_n 0) 1), (30, qa (.iload_n 1) 1), (31, qk (.iconst (-1)) 1 (-1)), (32, qa (.aload_n 0) 1), (33, qf (.getfield 17) 3 12 2 1), (36, qk (.bipush 16) 2 (nI 16)), (38, qa (.iload_n 1) 1)]),
  (52, [(39, qa .imul 1), (40, qk (.bipush 7) 2 (nI 7)), (42, qa .iadd 1), (43, qa .iaload 1), (44, qc (.invokevirtual 435) 3 165 4 0 [3, 7, 12]), (47, qa (.iload_n 2) 1), (48, qj (.ifCond .ne 10) 3 58 [true, false, true]), (51, qa (.aload_n 0) 1)]),
  (70, [(52, qf (.getfield 421) 3 12 39 0), (55, qj (.goto 19) 3 74 [false, false, false]), (58, qa (.iload_n 2) 1), (59, qk (.iconst 1) 1 (nI 1)), (60, qj (.if_icmp .ne 10) 3 70 [true, false, false]), (63, qa (.aload_n 0) 1), (64, qf (.getfield 424) 3 12 40 0), (67, qj (.goto 7) 3 74 [false, false, false])]),
  (75, [(70, qa (.aload_n 0) 1), (71, qm [false, false, false] (qf (.getfield 427) 3 12 41 0)), (74, qa .ireturn 1)])]
-- 167 TinStencils.change(IIIZ)Z
def tb_167 : qz_B := [(15, [(0, qa (.aload_n 0) 1), (1, qa (.iload_n 1) 1), (2, qc (.invokevirtual 118) 3 115 2 3 [0, 2, 11]), (5, qa (.astore 5) 2), (7, qa (.aload 5) 2), (9, qj (.ifnull 13) 3 22 [true, false, false, false, false, false]), (12, qa (.aload 5) 2), (14, qa (.iload_n 2) 1)]),
  (29, [(15, qa (.iload_n 3) 1), (16, qc (.invokevirtual 156) 3 46 3 1 [0, 3, 8]), (19, qm [true, false, false, false, false, false] (qj (.ifCond .ne 15) 3 34 [false, false, true, true, true, true])), (22, qa (.aload_n 0) 1), (23, qf (.getfield 20) 3 11 3 1), (26, qk (.iconst 0) 1 (nI 0)), (27, qa .dup2 1), (28, qa .iaload 1)]),
  (38, [(29, qk (.iconst 1) 1 (nI 1)), (30, qa .iadd 1), (31, qa .iastore 1), (32, qk (.iconst 0) 1 (nI 0)), (33, qm [false, false, true, true, true, true] (qf .ireturn 1 0 0 1)), (34, qa (.aload 5) 2), (36, qa (.iload_n 2) 1), (37, qa (.iload_n 3) 1)]),
  (45, [(38, qa (.iload 4) 2), (40, qc (.invokevirtual 209) 3 47 4 0 [0, 4, 8]), (43, qk (.iconst 1) 1 (nI 1)), (44, qf .ireturn 1 0 0 1)])]
-- 168 TinStencilsModel.refuses(I)Z
def tb_168 : qz_B := [(10, [(0, qa (.aload_n 0) 1), (1, qf (.getfield 7) 3 12 0 1), (4, qa (.iload_n 1) 1), (5, qa .dup2 1), (6, qa .iaload 1), (7, qk (.iconst 1) 1 (nI 1)), (8, qa .iadd 1), (9, qa .iastore 1)]),
  (12, [(10, qk (.iconst 0) 1 (nI 0)), (11, qf .ireturn 1 0 0 1)])]
-- 169 TinStencilsModel.change(IIIZ)Z
def tb_169 : qz_B := [(12, [(0, qa (.aload_n 0) 1), (1, qa (.iload_n 1) 1), (2, qc (.invokevirtual 402) 3 120 2 1 [0, 2, 12]), (5, qj (.ifCond .eq 13) 3 18 [true, false, false, false, false]), (8, qa (.aload_n 0) 1), (9, qa (.iload_n 1) 1), (10, qa (.iload_n 2) 1), (11, qa (.iload_n 3) 1)]),
  (28, [(12, qc (.invokevirtual 288) 3 94 4 1 [0, 4, 12]), (15, qm [true, false, false, false, false] (qj (.ifCond .ne 9) 3 24 [])), (18, qa (.aload_n 0) 1), (19, qk (.iconst 0) 1 (nI 0)), (20, qc (.invokevirtual 439) 3 168 2 1 [0, 2, 12]), (23, qf .ireturn 1 0 0 1), (24, qa (.aload_n 0) 1), (25, qf (.getfield 23) 3 12 4 1)]),
  (41, [(28, qa (.iload_n 1) 1), (29, qa (.iload_n 2) 1), (30, qa (.iload_n 3) 1), (31, qc (.invokestatic 262) 3 84 3 1 [0, 3]), (34, qa (.iload 4) 2), (36, qc (.invokestatic 319) 3 104 1 1 [0, 1]), (39, qa .iastore 1), (40, qk (.iconst 1) 1 (nI 1))]),
  (42, [(41, qf .ireturn 1 0 0 1)])]
-- 170 TinStencils$Bridges.has(I)Z
def tb_170 : qz_B := [(16, [(0, qa (.iload_n 1) 1), (1, qj (.ifCond .lt 15) 3 16 [false, false]), (4, qa (.iload_n 1) 1), (5, qa (.aload_n 0) 1), (6, qf (.getfield 9) 3 0 0 0), (9, qj (.if_icmp .ge 7) 3 16 [false, false]), (12, qk (.iconst 1) 1 (nI 1)), (13, qj (.goto 4) 3 17 [false, false])]),
  (18, [(16, qm [false, false] (qk (.iconst 0) 1 (nI 0))), (17, qf .ireturn 1 0 0 1)])]
-- 171 TinStencils$Sheet.bridgedThrough(I)I
def tb_171 : qz_B := [(12, [(0, qk (.iconst 0) 1 (nI 0)), (1, qa (.istore_n 2) 1), (2, qk (.iconst 0) 1 (nI 0)), (3, qa (.istore_n 3) 1), (4, qa (.iload_n 3) 1), (5, qa (.aload_n 0) 1), (6, qf (.getfield 19) 3 8 2 0), (9, qj (.if_icmp .ge 36) 3 45 [false, false, true, false])]),
  (25, [(12, qa (.iload_n 2) 1), (13, qa (.aload_n 0) 1), (14, qf (.getfield 44) 3 8 9 1), (17, qf (.getfield 90) 3 0 5 1), (20, qa (.iload_n 1) 1), (21, qk (.bipush 20) 2 (nI 20)), (23, qa .imul 1), (24, qa (.iload_n 3) 1)]),
  (37, [(25, qa .iadd 1), (26, qa .iaload 1), (27, qa (.aload_n 0) 1), (28, qf (.getfield 34) 3 8 7 1), (31, qa (.iload_n 3) 1), (32, qa .iaload 1), (33, qa .iand 1), (34, qc (.invokestatic 100) 3 62 1 1 [0, 1])]),
  (47, [(37, qa .iadd 1), (38, qa (.istore_n 2) 1), (39, qk (.iinc 3 1) 3 (nI 1)), (42, qj (.goto (-38)) 3 4 []), (45, qa (.iload_n 2) 1), (46, qa .ireturn 1)])]
-- 172 TinStencils.bridge(III)I
def tb_172 : qz_B := [(17, [(0, qa (.aload_n 0) 1), (1, qa (.iload_n 1) 1), (2, qc (.invokevirtual 118) 3 115 2 3 [0, 2, 11]), (5, qa (.astore 4) 2), (7, qa (.aload 4) 2), (9, qj (.ifnull 15) 3 24 [false, false, false, false, false]), (12, qa (.aload 4) 2), (14, qf (.getfield 131) 3 8 9 1)]),
  (66, [(17, qa (.iload_n 2) 1), (18, qc (.invokevirtual 213) 3 170 2 1 [0, 2, 0]), (21, qm [false, false, false, false, false] (qj (.ifCond .ne 5) 3 26 [false, false, true, true, true])), (24, qk (.iconst (-1)) 1 (-1)), (25, qm [false, false, true, true, true] (qa .ireturn 1)), (26, qa (.iload_n 3) 1), (27, qs (.tableswitch 102 0 5 #[37, 48, 58, 65, 78, 91]) 37 129 0 [false, false, true, false, true] [64, 75, 85, 92, 105, 118]), (64, qa (.aload 4) 2)]),
  (81, [(66, qf (.getfield 131) 3 8 9 1), (69, qf (.getfield 214) 3 0 3 1), (72, qa (.iload_n 2) 1), (73, qa .iaload 1), (74, qm [false, false, true, false, true] (qa .ireturn 1)), (75, qa (.aload 4) 2), (77, qf (.getfield 131) 3 8 9 1), (80, qa (.iload_n 2) 1)]),
  (97, [(81, qc (.invokevirtual 217) 3 63 2 1 [2, 4, 0]), (84, qm [false, false, true, false, true] (qa .ireturn 1)), (85, qa (.aload 4) 2), (87, qa (.iload_n 2) 1), (88, qc (.invokevirtual 220) 3 171 2 1 [2, 4, 8]), (91, qm [false, false, true, false, true] (qa .ireturn 1)), (92, qa (.aload 4) 2), (94, qf (.getfield 131) 3 8 9 1)]),
  (110, [(97, qf (.getfield 223) 3 0 2 0), (100, qa (.iload_n 2) 1), (101, qa .ishr 1), (102, qk (.iconst 1) 1 (nI 1)), (103, qa .iand 1), (104, qm [false, false, true, false, true] (qa .ireturn 1)), (105, qa (.aload 4) 2), (107, qf (.getfield 131) 3 8 9 1)]),
  (123, [(110, qf (.getfield 140) 3 0 1 0), (113, qa (.iload_n 2) 1), (114, qa .ishr 1), (115, qk (.iconst 1) 1 (nI 1)), (116, qa .iand 1), (117, qm [false, false, true, false, true] (qa .ireturn 1)), (118, qa (.aload 4) 2), (120, qf (.getfield 131) 3 8 9 1)]),
  (131, [(123, qf (.getfield 226) 3 0 4 1), (126, qa (.iload_n 2) 1), (127, qa .iaload 1), (128, qm [false, false, false, false, false] (qa .ireturn 1)), (129, qk (.iconst (-1)) 1 (-1)), (130, qa .ireturn 1)])]
-- 173 TinStencilsModel.isBridge(II)Z
def tb_173 : qz_B := [(14, [(0, qa (.aload_n 0) 1), (1, qa (.iload_n 1) 1), (2, qc (.invokevirtual 402) 3 120 2 1 [0, 2, 12]), (5, qj (.ifCond .eq 28) 3 33 [false, false, false]), (8, qa (.iload_n 2) 1), (9, qk (.iconst 0) 1 (nI 0)), (10, qa (.aload_n 0) 1), (11, qf (.getfield 17) 3 12 2 1)]),
  (23, [(14, qk (.bipush 16) 2 (nI 16)), (16, qa (.iload_n 1) 1), (17, qa .imul 1), (18, qk (.iconst 4) 1 (nI 4)), (19, qa .iadd 1), (20, qa .iaload 1), (21, qk (.iconst 1) 1 (nI 1)), (22, qa .isub 1)]),
  (35, [(23, qc (.invokestatic 156) 3 72 3 1 [0, 3]), (26, qj (.ifCond .eq 7) 3 33 [false, false, false]), (29, qk (.iconst 1) 1 (nI 1)), (30, qj (.goto 4) 3 34 [false, false, false]), (33, qm [false, false, false] (qk (.iconst 0) 1 (nI 0))), (34, qf .ireturn 1 0 0 1)])]
-- 174 TinStencilsModel.bridge(III)I
def tb_174 : qz_B := [(13, [(0, qa (.aload_n 0) 1), (1, qa (.iload_n 1) 1), (2, qa (.iload_n 2) 1), (3, qc (.invokevirtual 441) 3 173 3 1 [0, 3, 12]), (6, qj (.ifCond .ne 5) 3 11 [true, true, true, true, false]), (9, qk (.iconst (-1)) 1 (-1)), (10, qm [true, true, true, true, false] (qa .ireturn 1)), (11, qk (.bipush 12) 2 (nI 12))]),
  (61, [(13, qa (.iload_n 1) 1), (14, qa .imul 1), (15, qa (.iload_n 2) 1), (16, qa .iadd 1), (17, qa (.istore 4) 2), (19, qa (.iload_n 3) 1), (20, qs (.tableswitch 93 0 5 #[40, 48, 56, 64, 72, 85]) 40 113 0 [true, true, true, false, true] [60, 68, 76, 84, 92, 105]), (60, qa (.aload_n 0) 1)]),
  (72, [(61, qf (.getfield 41) 3 12 10 1), (64, qa (.iload 4) 2), (66, qa .iaload 1), (67, qm [true, true, true, false, false] (qa .ireturn 1)), (68, qa (.aload_n 0) 1), (69, qa (.iload_n 1) 1), (70, qa (.iload_n 2) 1), (71, qk (.iconst 0) 1 (nI 0))]),
  (84, [(72, qc (.invokevirtual 315) 3 105 4 1 [2, 6, 12]), (75, qm [true, true, true, false, false] (qa .ireturn 1)), (76, qa (.aload_n 0) 1), (77, qa (.iload_n 1) 1), (78, qa (.iload_n 2) 1), (79, qk (.iconst 1) 1 (nI 1)), (80, qc (.invokevirtual 315) 3 105 4 1 [2, 6, 12]), (83, qm [true, false, false, false, true] (qa .ireturn 1))]),
  (97, [(84, qa (.aload_n 0) 1), (85, qf (.getfield 44) 3 12 11 1), (88, qa (.iload 4) 2), (90, qa .iaload 1), (91, qm [true, true, true, false, false] (qa .ireturn 1)), (92, qa (.aload_n 0) 1), (93, qa (.iload_n 1) 1), (94, qc (.invokevirtual 405) 3 121 2 1 [0, 2, 12])]),
  (112, [(97, qa (.iload_n 2) 1), (98, qc (.invokestatic 281) 3 92 2 1 [0, 2]), (101, qc (.invokestatic 319) 3 104 1 1 [0, 1]), (104, qm [true, false, false, false, true] (qa .ireturn 1)), (105, qa (.aload_n 0) 1), (106, qf (.getfield 47) 3 12 12 1), (109, qa (.iload 4) 2), (111, qa .iaload 1)]),
  (115, [(112, qm [false, false, false, false, false] (qa .ireturn 1)), (113, qk (.iconst (-1)) 1 (-1)), (114, qa .ireturn 1)])]
-- 175 TinStencils.put(IIZ)Z
def tb_175 : qz_B := [(17, [(0, qa (.aload_n 0) 1), (1, qa (.iload_n 1) 1), (2, qc (.invokevirtual 118) 3 115 2 3 [0, 2, 11]), (5, qa (.astore 4) 2), (7, qa (.aload 4) 2), (9, qj (.ifnull 15) 3 24 [true, false, false, false, false, false]), (12, qa (.aload 4) 2), (14, qf (.getfield 131) 3 8 9 1)]),
  (31, [(17, qa (.iload_n 2) 1), (18, qc (.invokevirtual 213) 3 170 2 1 [0, 2, 0]), (21, qm [true, false, false, false, false, false] (qj (.ifCond .ne 15) 3 36 [false, false, true, true, true, false])), (24, qa (.aload_n 0) 1), (25, qf (.getfield 20) 3 11 3 1), (28, qk (.iconst 0) 1 (nI 0)), (29, qa .dup2 1), (30, qa .iaload 1)]),
  (39, [(31, qk (.iconst 1) 1 (nI 1)), (32, qa .iadd 1), (33, qa .iastore 1), (34, qk (.iconst 0) 1 (nI 0)), (35, qm [false, false, true, true, true, false] (qf .ireturn 1 0 0 1)), (36, qk (.iconst 1) 1 (nI 1)), (37, qa (.iload_n 2) 1), (38, qa .ishl 1)]),
  (58, [(39, qa (.istore 5) 2), (41, qa (.aload 4) 2), (43, qf (.getfield 131) 3 8 9 1), (46, qa (.iload_n 3) 1), (47, qj (.ifCond .eq 17) 3 64 [false, false, false, false, true, true]), (50, qa (.aload 4) 2), (52, qf (.getfield 131) 3 8 9 1), (55, qf (.getfield 140) 3 0 1 0)]),
  (75, [(58, qa (.iload 5) 2), (60, qa .ior 1), (61, qj (.goto 16) 3 77 [false, false, false, false, false, false]), (64, qa (.aload 4) 2), (66, qf (.getfield 131) 3 8 9 1), (69, qf (.getfield 140) 3 0 1 0), (72, qa (.iload 5) 2), (74, qk (.iconst (-1)) 1 (-1))]),
  (82, [(75, qa .ixor 1), (76, qm [false, false, false, false, false, false] (qa .iand 1)), (77, qf (.putfield 140) 3 0 1 0), (80, qk (.iconst 1) 1 (nI 1)), (81, qf .ireturn 1 0 0 1)])]
-- 176 TinStencilsModel.put(IIZ)Z
def tb_176 : qz_B := [(14, [(0, qa (.aload_n 0) 1), (1, qa (.iload_n 1) 1), (2, qa (.iload_n 2) 1), (3, qc (.invokevirtual 441) 3 173 3 1 [0, 3, 12]), (6, qj (.ifCond .ne 9) 3 15 [true, true, true, true, false]), (9, qa (.aload_n 0) 1), (10, qk (.iconst 0) 1 (nI 0)), (11, qc (.invokevirtual 439) 3 168 2 1 [0, 2, 12])]),
  (24, [(14, qm [true, true, true, true, false] (qf .ireturn 1 0 0 1)), (15, qk (.bipush 16) 2 (nI 16)), (17, qa (.iload_n 1) 1), (18, qa .imul 1), (19, qk (.iconst 5) 1 (nI 5)), (20, qa .iadd 1), (21, qa (.istore 4) 2), (23, qa (.aload_n 0) 1)]),
  (40, [(24, qf (.getfield 17) 3 12 2 1), (27, qa (.iload 4) 2), (29, qa (.iload_n 3) 1), (30, qj (.ifCond .eq 17) 3 47 [true, false, true, false, true]), (33, qa (.aload_n 0) 1), (34, qf (.getfield 17) 3 12 2 1), (37, qa (.iload 4) 2), (39, qa .iaload 1)]),
  (53, [(40, qk (.iconst 1) 1 (nI 1)), (41, qa (.iload_n 2) 1), (42, qa .ishl 1), (43, qa .ior 1), (44, qj (.goto 16) 3 60 [false, false, false, false, false]), (47, qa (.aload_n 0) 1), (48, qf (.getfield 17) 3 12 2 1), (51, qa (.iload 4) 2)]),
  (61, [(53, qa .iaload 1), (54, qk (.iconst 1) 1 (nI 1)), (55, qa (.iload_n 2) 1), (56, qa .ishl 1), (57, qk (.iconst (-1)) 1 (-1)), (58, qa .ixor 1), (59, qm [false, false, false, false, false] (qa .iand 1)), (60, qa .iastore 1)]),
  (63, [(61, qk (.iconst 1) 1 (nI 1)), (62, qf .ireturn 1 0 0 1)])]
-- 177 TinStencils$Hanging.loose()I
def tb_177 : qz_B := [(11, [(0, qk (.iconst 0) 1 (nI 0)), (1, qa (.istore_n 1) 1), (2, qk (.iconst 0) 1 (nI 0)), (3, qa (.istore_n 2) 1), (4, qa (.iload_n 2) 1), (5, qk (.bipush 20) 2 (nI 20)), (7, qj (.if_icmp .ge 21) 3 28 [false, true, false]), (10, qa (.iload_n 1) 1)]),
  (25, [(11, qa (.aload_n 0) 1), (12, qf (.getfield 18) 3 3 2 1), (15, qa (.iload_n 2) 1), (16, qa .iaload 1), (17, qc (.invokestatic 60) 3 62 1 1 [0, 1]), (20, qa .iadd 1), (21, qa (.istore_n 1) 1), (22, qk (.iinc 2 1) 3 (nI 1))]),
  (30, [(25, qj (.goto (-21)) 3 4 []), (28, qa (.iload_n 1) 1), (29, qa .ireturn 1)])]
-- 178 TinStencils$Bridges.firstBelow(I)I
def tb_178 : qz_B := [(14, [(0, qk (.iconst 0) 1 (nI 0)), (1, qa (.istore_n 2) 1), (2, qa (.iload_n 2) 1), (3, qa (.aload_n 0) 1), (4, qf (.getfield 9) 3 0 0 0), (7, qj (.if_icmp .ge 32) 3 39 [false, false, false]), (10, qa (.aload_n 0) 1), (11, qf (.getfield 15) 3 0 1 0)]),
  (26, [(14, qa (.iload_n 2) 1), (15, qa .ishr 1), (16, qk (.iconst 1) 1 (nI 1)), (17, qa .iand 1), (18, qj (.ifCond .eq 15) 3 33 []), (21, qa (.aload_n 0) 1), (22, qf (.getfield 25) 3 0 4 1), (25, qa (.iload_n 2) 1)]),
  (40, [(26, qa .iaload 1), (27, qa (.iload_n 1) 1), (28, qj (.if_icmp .ge 5) 3 33 []), (31, qa (.iload_n 2) 1), (32, qa .ireturn 1), (33, qk (.iinc 2 1) 3 (nI 1)), (36, qj (.goto (-34)) 3 2 []), (39, qk (.iconst (-1)) 1 (-1))]),
  (41, [(40, qa .ireturn 1)])]
-- 179 TinStencils$Bridges.over(II)I
def tb_179 : qz_B := [(14, [(0, qk (.iconst 0) 1 (nI 0)), (1, qa (.istore_n 3) 1), (2, qk (.iconst 0) 1 (nI 0)), (3, qa (.istore 4) 2), (5, qa (.iload 4) 2), (7, qa (.aload_n 0) 1), (8, qf (.getfield 9) 3 0 0 0), (11, qj (.if_icmp .ge 31) 3 42 [false, false, false, true, false])]),
  (26, [(14, qa (.iload_n 3) 1), (15, qa (.aload_n 0) 1), (16, qf (.getfield 28) 3 0 5 1), (19, qa (.iload 4) 2), (21, qk (.bipush 20) 2 (nI 20)), (23, qa .imul 1), (24, qa (.iload_n 2) 1), (25, qa .iadd 1)]),
  (35, [(26, qa .iaload 1), (27, qa (.iload_n 1) 1), (28, qa .ishr 1), (29, qk (.iconst 1) 1 (nI 1)), (30, qa .iand 1), (31, qa (.iload 4) 2), (33, qa .ishl 1), (34, qa .ior 1)]),
  (44, [(35, qa (.istore_n 3) 1), (36, qk (.iinc 4 1) 3 (nI 1)), (39, qj (.goto (-34)) 3 5 []), (42, qa (.iload_n 3) 1), (43, qa .ireturn 1)])]
-- 180 TinStencils$Sheet.showing(IIILTinStencils$Sheet;)I
def tb_180 : qz_B := [(10, [(0, qa (.aload_n 0) 1), (1, qf (.getfield 34) 3 8 7 1), (4, qa (.iload_n 2) 1), (5, qa .iaload 1), (6, qa (.iload_n 1) 1), (7, qa .ishr 1), (8, qk (.iconst 1) 1 (nI 1)), (9, qa .iand 1)]),
  (24, [(10, qj (.ifCond .ne 5) 3 15 [true, true, true, true, true, false, false]), (13, qk (.iconst 0) 1 (nI 0)), (14, qm [true, true, true, true, true, false, false] (qa .ireturn 1)), (15, qa (.aload_n 0) 1), (16, qf (.getfield 44) 3 8 9 1), (19, qa (.iload_n 1) 1), (20, qa (.iload_n 2) 1), (21, qc (.invokevirtual 105) 3 179 3 1 [2, 5, 0])]),
  (37, [(24, qa (.iload_n 3) 1), (25, qa .iand 1), (26, qa (.istore 5) 2), (28, qa (.aload 4) 2), (30, qj (.ifnull 31) 3 61 [true, false, false, false, false, true, false]), (33, qa (.aload 4) 2), (35, qa (.iload_n 1) 1), (36, qa (.iload_n 2) 1)]),
  (52, [(37, qc (.invokevirtual 79) 3 46 3 1 [0, 3, 8]), (40, qj (.ifCond .eq 21) 3 61 [true, false, false, false, false, true, false]), (43, qa (.aload 4) 2), (45, qf (.getfield 34) 3 8 7 1), (48, qa (.iload_n 2) 1), (49, qa .iaload 1), (50, qa (.iload_n 1) 1), (51, qa .ishr 1)]),
  (66, [(52, qk (.iconst 1) 1 (nI 1)), (53, qa .iand 1), (54, qj (.ifCond .eq 7) 3 61 [true, false, false, false, false, true, false]), (57, qk (.iconst 1) 1 (nI 1)), (58, qj (.goto 4) 3 62 [true, false, false, false, false, true, false]), (61, qm [true, false, false, false, false, true, false] (qk (.iconst 0) 1 (nI 0))), (62, qa (.istore 6) 2), (64, qa (.iload 6) 2)]),
  (81, [(66, qj (.ifCond .eq 18) 3 84 [false, false, false, false, false, true, false]), (69, qa (.iload 5) 2), (71, qa (.aload_n 0) 1), (72, qf (.getfield 44) 3 8 9 1), (75, qf (.getfield 108) 3 0 2 0), (78, qk (.iconst (-1)) 1 (-1)), (79, qa .ixor 1), (80, qa .iand 1)]),
  (87, [(81, qj (.goto 5) 3 86 [false, false, false, false, false, false, false]), (84, qm [false, false, false, false, false, false, false] (qa (.iload 5) 2)), (86, qa .ireturn 1)])]
-- 181 TinStencils$Sheet.seen(ILTinStencils$Sheet;)I
def tb_181 : qz_B := [(14, [(0, qk (.iconst 0) 1 (nI 0)), (1, qa (.istore_n 3) 1), (2, qk (.iconst 0) 1 (nI 0)), (3, qm [true, true, true, true, true, false] (qa (.istore 4) 2)), (5, qa (.iload 4) 2), (7, qa (.aload_n 0) 1), (8, qf (.getfield 19) 3 8 2 0), (11, qj (.if_icmp .ge 56) 3 67 [false, false, false, true, false, false])]),
  (29, [(14, qk (.iconst 0) 1 (nI 0)), (15, qa (.istore 5) 2), (17, qa (.iload 5) 2), (19, qa (.aload_n 0) 1), (20, qf (.getfield 15) 3 8 1 0), (23, qj (.if_icmp .ge 38) 3 61 [true, true, true, true, true, false]), (26, qa (.aload_n 0) 1), (27, qa (.iload 5) 2)]),
  (44, [(29, qa (.iload 4) 2), (31, qa (.iload_n 1) 1), (32, qa (.aload_n 2) 1), (33, qc (.invokevirtual 111) 3 180 5 1 [2, 7, 8]), (36, qj (.ifCond .eq 19) 3 55 []), (39, qa (.iload_n 3) 1), (40, qa (.aload_n 0) 1), (41, qf (.getfield 38) 3 8 8 1)]),
  (55, [(44, qa (.iload 4) 2), (46, qk (.bipush 20) 2 (nI 20)), (48, qa .imul 1), (49, qa (.iload 5) 2), (51, qa .iadd 1), (52, qa .iaload 1), (53, qa .iadd 1), (54, qa (.istore_n 3) 1)]),
  (69, [(55, qk (.iinc 5 1) 3 (nI 1)), (58, qj (.goto (-41)) 3 17 []), (61, qk (.iinc 4 1) 3 (nI 1)), (64, qj (.goto (-59)) 3 5 [true, true, true, true, true, false]), (67, qa (.iload_n 3) 1), (68, qa .ireturn 1)])]
-- 182 TinStencils.judge(II)I
def tb_182 : qz_B := [(12, [(0, qa (.aload_n 0) 1), (1, qa (.iload_n 1) 1), (2, qc (.invokevirtual 118) 3 115 2 3 [0, 2, 11]), (5, qa (.astore_n 3) 1), (6, qa (.aload_n 3) 1), (7, qj (.ifnonnull 5) 3 12 []), (10, qk (.iconst (-1)) 1 (-1)), (11, qa .ireturn 1)]),
  (52, [(12, qa (.iload_n 2) 1), (13, qs (.tableswitch 89 0 2 #[27, 58, 70]) 27 102 0 [true, true, false, true] [40, 71, 83]), (40, qa (.aload_n 0) 1), (41, qf (.getfield 54) 3 11 9 1), (44, qa (.aload_n 3) 1), (45, qa (.aload_n 3) 1), (46, qf (.getfield 131) 3 8 9 1), (49, qf (.getfield 140) 3 0 1 0)]),
  (70, [(52, qc (.invokevirtual 170) 3 129 3 0 [3, 6, 3]), (55, qa (.aload_n 0) 1), (56, qf (.getfield 54) 3 11 9 1), (59, qc (.invokevirtual 229) 3 177 1 1 [2, 3, 3]), (62, qj (.ifCond .ne 7) 3 69 [false, false, false, false]), (65, qk (.iconst 1) 1 (nI 1)), (66, qj (.goto 4) 3 70 [false, false, false, false]), (69, qm [false, false, false, false] (qk (.iconst 0) 1 (nI 0)))]),
  (84, [(70, qm [false, false, false, true] (qa .ireturn 1)), (71, qa (.aload_n 3) 1), (72, qf (.getfield 131) 3 8 9 1), (75, qa (.aload_n 3) 1), (76, qf (.getfield 149) 3 8 6 0), (79, qc (.invokevirtual 232) 3 178 2 1 [1, 3, 0]), (82, qm [true, true, false, true] (qa .ireturn 1)), (83, qa (.aload_n 3) 1)]),
  (98, [(84, qa (.aload_n 3) 1), (85, qf (.getfield 131) 3 8 9 1), (88, qf (.getfield 140) 3 0 1 0), (91, qa (.aload_n 0) 1), (92, qa (.iload_n 1) 1), (93, qk (.iconst 1) 1 (nI 1)), (94, qa .iadd 1), (95, qc (.invokevirtual 118) 3 115 2 3 [0, 2, 11])]),
  (104, [(98, qc (.invokevirtual 235) 3 181 3 1 [3, 6, 8]), (101, qm [false, false, false, false] (qa .ireturn 1)), (102, qk (.iconst (-1)) 1 (-1)), (103, qa .ireturn 1)])]
-- 183 TinStencilsModel.allHang(II)Z
def tb_183 : qz_B := [(10, [(0, qa (.aload_n 0) 1), (1, qa (.iload_n 1) 1), (2, qa (.iload_n 2) 1), (3, qc (.invokevirtual 383) 3 123 3 0 [1, 4, 12]), (6, qa (.aload_n 0) 1), (7, qa (.iload_n 1) 1), (8, qk (.iconst (-1)) 1 (-1)), (9, qk (.iconst (-1)) 1 (-1))]),
  (26, [(10, qc (.invokevirtual 386) 3 146 4 1 [2, 6, 12]), (13, qa (.aload_n 0) 1), (14, qc (.invokevirtual 389) 3 124 1 1 [2, 3, 12]), (17, qj (.if_icmp .ne 7) 3 24 [false, false, false]), (20, qk (.iconst 1) 1 (nI 1)), (21, qj (.goto 4) 3 25 [false, false, false]), (24, qm [false, false, false] (qk (.iconst 0) 1 (nI 0))), (25, qf .ireturn 1 0 0 1)])]
-- 184 TinStencilsModel.hiddenOnes(I)I
def tb_184 : qz_B := [(11, [(0, qk (.iconst 0) 1 (nI 0)), (1, qa (.istore_n 2) 1), (2, qk (.iconst 0) 1 (nI 0)), (3, qa (.istore_n 3) 1), (4, qa (.iload_n 3) 1), (5, qa (.aload_n 0) 1), (6, qf (.getfield 17) 3 12 2 1), (9, qk (.bipush 16) 2 (nI 16))]),
  (21, [(11, qa (.iload_n 1) 1), (12, qa .imul 1), (13, qk (.iconst 4) 1 (nI 4)), (14, qa .iadd 1), (15, qa .iaload 1), (16, qj (.if_icmp .ge 25) 3 41 [false, false, true, false]), (19, qa (.iload_n 2) 1), (20, qa (.aload_n 0) 1)]),
  (32, [(21, qf (.getfield 44) 3 12 11 1), (24, qk (.bipush 12) 2 (nI 12)), (26, qa (.iload_n 1) 1), (27, qa .imul 1), (28, qa (.iload_n 3) 1), (29, qa .iadd 1), (30, qa .iaload 1), (31, qa (.iload_n 3) 1)]),
  (43, [(32, qa .ishl 1), (33, qa .ior 1), (34, qa (.istore_n 2) 1), (35, qk (.iinc 3 1) 3 (nI 1)), (38, qj (.goto (-34)) 3 4 []), (41, qa (.iload_n 2) 1), (42, qa .ireturn 1)])]
-- 185 TinStencilsModel.isCutBelow(III)Z
def tb_185 : qz_B := [(13, [(0, qa (.iload_n 1) 1), (1, qk (.iconst 1) 1 (nI 1)), (2, qa .iadd 1), (3, qk (.bipush 6) 2 (nI 6)), (5, qj (.if_icmp .ge 48) 3 53 [false, false, false, false]), (8, qa (.aload_n 0) 1), (9, qf (.getfield 20) 3 12 3 1), (12, qa (.iload_n 1) 1)]),
  (23, [(13, qk (.iconst 1) 1 (nI 1)), (14, qa .iadd 1), (15, qa .iaload 1), (16, qk (.iconst 1) 1 (nI 1)), (17, qj (.if_icmp .ne 36) 3 53 [false, false, false, false]), (20, qa (.aload_n 0) 1), (21, qa (.iload_n 1) 1), (22, qk (.iconst 1) 1 (nI 1))]),
  (37, [(23, qa .iadd 1), (24, qa (.iload_n 2) 1), (25, qa (.iload_n 3) 1), (26, qc (.invokevirtual 288) 3 94 4 1 [0, 4, 12]), (29, qj (.ifCond .eq 24) 3 53 [false, false, false, false]), (32, qa (.aload_n 0) 1), (33, qf (.getfield 23) 3 12 4 1), (36, qa (.iload_n 1) 1)]),
  (49, [(37, qk (.iconst 1) 1 (nI 1)), (38, qa .iadd 1), (39, qa (.iload_n 2) 1), (40, qa (.iload_n 3) 1), (41, qc (.invokestatic 262) 3 84 3 1 [0, 3]), (44, qa .iaload 1), (45, qk (.iconst 1) 1 (nI 1)), (46, qj (.if_icmp .ne 7) 3 53 [false, false, false, false])]),
  (55, [(49, qk (.iconst 1) 1 (nI 1)), (50, qj (.goto 4) 3 54 [false, false, false, false]), (53, qm [false, false, false, false] (qk (.iconst 0) 1 (nI 0))), (54, qf .ireturn 1 0 0 1)])]
-- 186 TinStencilsModel.seen(II)I
def tb_186 : qz_B := [(10, [(0, qa (.iload_n 2) 1), (1, qa (.aload_n 0) 1), (2, qa (.iload_n 1) 1), (3, qc (.invokevirtual 444) 3 184 2 1 [2, 4, 12]), (6, qk (.iconst (-1)) 1 (-1)), (7, qa .ixor 1), (8, qa .iand 1), (9, qa (.istore_n 3) 1)]),
  (23, [(10, qk (.iconst 0) 1 (nI 0)), (11, qa (.istore 4) 2), (13, qk (.iconst 0) 1 (nI 0)), (14, qm [true, true, true, true, true, true, false, false] (qa (.istore 5) 2)), (16, qa (.iload 5) 2), (18, qa (.aload_n 0) 1), (19, qa (.iload_n 1) 1), (20, qc (.invokevirtual 160) 3 81 2 1 [0, 2, 12])]),
  (39, [(23, qj (.if_icmp .ge 99) 3 122 [false, false, false, false, true, false, false, false]), (26, qk (.iconst 0) 1 (nI 0)), (27, qm [true, true, true, true, true, true, true, false] (qa (.istore 6) 2)), (29, qa (.iload 6) 2), (31, qa (.aload_n 0) 1), (32, qa (.iload_n 1) 1), (33, qc (.invokevirtual 152) 3 82 2 1 [0, 2, 12]), (36, qj (.if_icmp .ge 80) 3 116 [true, true, true, true, true, true, false, false])]),
  (55, [(39, qa (.iload_n 1) 1), (40, qa (.iload 6) 2), (42, qa (.iload 5) 2), (44, qc (.invokestatic 262) 3 84 3 1 [0, 3]), (47, qa (.istore 7) 2), (49, qa (.aload_n 0) 1), (50, qf (.getfield 23) 3 12 4 1), (53, qa (.iload 7) 2)]),
  (68, [(55, qa .iaload 1), (56, qj (.ifCond .eq 54) 3 110 [true, true, true, true, true, true, true, false]), (59, qa (.aload_n 0) 1), (60, qf (.getfield 29) 3 12 6 1), (63, qa (.iload 7) 2), (65, qa .iaload 1), (66, qa (.iload_n 2) 1), (67, qa .iand 1)]),
  (83, [(68, qj (.ifCond .eq 42) 3 110 [true, true, true, true, true, true, true, false]), (71, qa (.aload_n 0) 1), (72, qf (.getfield 29) 3 12 6 1), (75, qa (.iload 7) 2), (77, qa .iaload 1), (78, qa (.iload_n 3) 1), (79, qa .iand 1), (80, qj (.ifCond .ne 18) 3 98 [])]),
  (100, [(83, qa (.aload_n 0) 1), (84, qa (.iload_n 1) 1), (85, qa (.iload 6) 2), (87, qa (.iload 5) 2), (89, qc (.invokevirtual 447) 3 185 4 1 [0, 4, 12]), (92, qj (.ifCond .eq 6) 3 98 []), (95, qj (.goto 15) 3 110 [true, true, true, true, true, true, true, false]), (98, qa (.iload 4) 2)]),
  (116, [(100, qa (.aload_n 0) 1), (101, qf (.getfield 26) 3 12 5 1), (104, qa (.iload 7) 2), (106, qa .iaload 1), (107, qa .iadd 1), (108, qm [true, true, true, true, true, true, true, false] (qa (.istore 4) 2)), (110, qk (.iinc 6 1) 3 (nI 1)), (113, qj (.goto (-84)) 3 29 [true, true, true, true, true, true, true, false])]),
  (125, [(116, qk (.iinc 5 1) 3 (nI 1)), (119, qj (.goto (-103)) 3 16 [true, true, true, true, true, true, false, false]), (122, qa (.iload 4) 2), (124, qa .ireturn 1)])]
-- 187 TinStencilsModel.judge(II)I
def tb_187 : qz_B := [(14, [(0, qa (.aload_n 0) 1), (1, qa (.iload_n 1) 1), (2, qc (.invokevirtual 402) 3 120 2 1 [0, 2, 12]), (5, qj (.ifCond .eq 12) 3 17 [false, false, false, false, false]), (8, qa (.iload_n 2) 1), (9, qk (.iconst 0) 1 (nI 0)), (10, qk (.iconst 2) 1 (nI 2)), (11, qc (.invokestatic 156) 3 72 3 1 [0, 3])]),
  (26, [(14, qm [false, false, false, false, false] (qj (.ifCond .ne 5) 3 19 [true, true, true, false, false])), (17, qk (.iconst (-1)) 1 (-1)), (18, qm [true, true, true, false, false] (qa .ireturn 1)), (19, qa (.aload_n 0) 1), (20, qa (.iload_n 1) 1), (21, qc (.invokevirtual 405) 3 121 2 1 [0, 2, 12]), (24, qa (.istore_n 3) 1), (25, qa (.iload_n 2) 1)]),
  (40, [(26, qj (.ifCond .ne 13) 3 39 [true, true, true, true, false]), (29, qa (.aload_n 0) 1), (30, qa (.iload_n 1) 1), (31, qa (.iload_n 3) 1), (32, qc (.invokevirtual 450) 3 183 3 1 [0, 3, 12]), (35, qc (.invokestatic 319) 3 104 1 1 [0, 1]), (38, qm [true, true, true, true, false] (qa .ireturn 1)), (39, qa (.iload_n 2) 1)]),
  (52, [(40, qk (.iconst 2) 1 (nI 2)), (41, qj (.if_icmp .ne 10) 3 51 [true, true, false, true, false]), (44, qa (.aload_n 0) 1), (45, qa (.iload_n 1) 1), (46, qa (.iload_n 3) 1), (47, qc (.invokevirtual 453) 3 186 3 1 [5, 8, 12]), (50, qm [true, true, false, true, false] (qa .ireturn 1)), (51, qk (.iconst 0) 1 (nI 0))]),
  (70, [(52, qm [true, true, false, true, true] (qa (.istore 4) 2)), (54, qa (.iload 4) 2), (56, qk (.bipush 12) 2 (nI 12)), (58, qj (.if_icmp .ge 48) 3 106 [false, false, false, false, false]), (61, qa (.iload_n 3) 1), (62, qa (.iload 4) 2), (64, qc (.invokestatic 281) 3 92 2 1 [0, 2]), (67, qj (.ifCond .eq 33) 3 100 [true, true, false, true, true])]),
  (82, [(70, qa (.aload_n 0) 1), (71, qf (.getfield 47) 3 12 12 1), (74, qk (.bipush 12) 2 (nI 12)), (76, qa (.iload_n 1) 1), (77, qa .imul 1), (78, qa (.iload 4) 2), (80, qa .iadd 1), (81, qa .iaload 1)]),
  (94, [(82, qa (.aload_n 0) 1), (83, qf (.getfield 17) 3 12 2 1), (86, qk (.bipush 16) 2 (nI 16)), (88, qa (.iload_n 1) 1), (89, qa .imul 1), (90, qk (.bipush 8) 2 (nI 8)), (92, qa .iadd 1), (93, qa .iaload 1)]),
  (108, [(94, qj (.if_icmp .ge 6) 3 100 [true, true, false, true, true]), (97, qa (.iload 4) 2), (99, qm [true, true, false, true, true] (qa .ireturn 1)), (100, qk (.iinc 4 1) 3 (nI 1)), (103, qj (.goto (-49)) 3 54 [true, true, false, true, true]), (106, qk (.iconst (-1)) 1 (-1)), (107, qa .ireturn 1)])]
-- 188 TinStencils.joinable(LTinStencils$Sheet;)Z
def tb_188 : qz_B := [(15, [(0, qa (.aload_n 0) 1), (1, qa (.aload_n 1) 1), (2, qk (.iconst 0) 1 (nI 0)), (3, qc (.invokevirtual 177) 3 134 3 0 [0, 3, 11]), (6, qa (.aload_n 0) 1), (7, qf (.getfield 61) 3 11 10 1), (10, qf (.getfield 313) 3 5 0 0), (13, qk (.bipush 7) 2 (nI 7))]),
  (24, [(15, qj (.if_icmp .gt 7) 3 22 [false, false]), (18, qk (.iconst 1) 1 (nI 1)), (19, qj (.goto 4) 3 23 [false, false]), (22, qm [false, false] (qk (.iconst 0) 1 (nI 0))), (23, qf .ireturn 1 0 0 1)])]
-- 189 TinStencils$Joining.setPrices(LTinStencils$Sheet;Z)V
def tb_189 : qz_B := [(16, [(0, qa (.aload_n 0) 1), (1, qf (.getfield 16) 3 4 1 1), (4, qk (.iconst (-1)) 1 (-1)), (5, qc (.invokestatic 53) 3 31 2 0 [2, 4]), (8, qa (.aload_n 0) 1), (9, qf (.getfield 16) 3 4 1 1), (12, qk (.sipush 400) 3 (nI 400)), (15, qk (.iconst 0) 1 (nI 0))]),
  (28, [(16, qa .iastore 1), (17, qk (.iconst 0) 1 (nI 0)), (18, qm [true, true, true, true, false, false, false] (qa (.istore_n 3) 1)), (19, qa (.iload_n 3) 1), (20, qa (.aload_n 1) 1), (21, qf (.getfield 59) 3 8 2 0), (24, qj (.if_icmp .ge 80) 3 104 [true, true, false, false, false, false, false]), (27, qk (.iconst 0) 1 (nI 0))]),
  (43, [(28, qm [true, true, true, true, true, false, false] (qa (.istore 4) 2)), (30, qa (.iload 4) 2), (32, qa (.aload_n 1) 1), (33, qf (.getfield 64) 3 8 1 0), (36, qj (.if_icmp .ge 62) 3 98 [true, true, true, true, false, false, false]), (39, qa (.iload_n 3) 1), (40, qk (.bipush 20) 2 (nI 20)), (42, qa .imul 1)]),
  (58, [(43, qa (.iload 4) 2), (45, qa .iadd 1), (46, qa (.istore 5) 2), (48, qa (.iload_n 2) 1), (49, qj (.ifCond .eq 13) 3 62 [true, true, true, true, true, true, false]), (52, qa (.aload_n 1) 1), (53, qf (.getfield 67) 3 8 8 1), (56, qa (.iload 5) 2)]),
  (72, [(58, qa .iaload 1), (59, qj (.goto 4) 3 63 [true, true, true, true, true, true, false]), (62, qm [true, true, true, true, true, true, false] (qk (.iconst 1) 1 (nI 1))), (63, qa (.istore 6) 2), (65, qa (.aload_n 0) 1), (66, qf (.getfield 16) 3 4 1 1), (69, qa (.iload 5) 2), (71, qa (.aload_n 1) 1)]),
  (85, [(72, qf (.getfield 70) 3 8 7 1), (75, qa (.iload_n 3) 1), (76, qa .iaload 1), (77, qa (.iload 4) 2), (79, qa .ishr 1), (80, qk (.iconst 1) 1 (nI 1)), (81, qa .iand 1), (82, qj (.ifCond .eq 8) 3 90 [true, true, true, true, true, false, false])]),
  (104, [(85, qa (.iload 6) 2), (87, qj (.goto 4) 3 91 [true, true, true, true, true, false, false]), (90, qm [true, true, true, true, true, false, false] (qk (.iconst 0) 1 (nI 0))), (91, qa .iastore 1), (92, qk (.iinc 4 1) 3 (nI 1)), (95, qj (.goto (-65)) 3 30 [true, true, true, true, true, false, false]), (98, qk (.iinc 3 1) 3 (nI 1)), (101, qj (.goto (-82)) 3 19 [true, true, true, true, false, false, false])]),
  (117, [(104, qk (.iconst 0) 1 (nI 0)), (105, qm [true, true, false, true, false, false, false] (qa (.istore_n 3) 1)), (106, qa (.iload_n 3) 1), (107, qk (.bipush 20) 2 (nI 20)), (109, qj (.if_icmp .ge 20) 3 129 [false, false, false, false, false, false, false]), (112, qa (.aload_n 0) 1), (113, qf (.getfield 19) 3 4 2 1), (116, qa (.iload_n 3) 1)]),
  (130, [(117, qa (.aload_n 1) 1), (118, qa (.iload_n 3) 1), (119, qc (.invokevirtual 73) 3 126 2 1 [1, 3, 8]), (122, qa .iastore 1), (123, qk (.iinc 3 1) 3 (nI 1)), (126, qj (.goto (-20)) 3 106 [true, true, false, true, false, false, false]), (129, qa .return_ 1)])]
-- 190 TinStencils$Joining.begin(ILTinStencils$Parts;)V
def tb_190 : qz_B := [(14, [(0, qa (.iload_n 1) 1), (1, qk (.sipush 401) 3 (nI 401)), (4, qa .imul 1), (5, qa (.istore_n 3) 1), (6, qk (.iconst 0) 1 (nI 0)), (7, qm [true, true, true, true, true, false] (qa (.istore 4) 2)), (9, qa (.iload 4) 2), (11, qk (.sipush 400) 3 (nI 400))]),
  (30, [(14, qj (.if_icmp .ge 47) 3 61 [true, false, false, true, false, false]), (17, qa (.aload_n 2) 1), (18, qf (.getfield 77) 3 5 1 1), (21, qa (.iload 4) 2), (23, qa .iaload 1), (24, qa (.istore 5) 2), (26, qa (.aload_n 0) 1), (27, qf (.getfield 12) 3 4 0 1)]),
  (42, [(30, qa (.iload_n 3) 1), (31, qa (.iload 4) 2), (33, qa .iadd 1), (34, qa (.iload 5) 2), (36, qk (.iconst (-1)) 1 (-1)), (37, qj (.if_icmp .eq 15) 3 52 [true, true, true, true, true, false]), (40, qa (.iload_n 1) 1), (41, qk (.iconst 1) 1 (nI 1))]),
  (58, [(42, qa (.iload 5) 2), (44, qa .ishl 1), (45, qj (.if_icmp .ne 7) 3 52 [true, true, true, true, true, false]), (48, qk (.iconst 0) 1 (nI 0)), (49, qj (.goto 5) 3 54 [true, true, true, true, true, false]), (52, qm [true, true, true, true, true, false] (qk (.ldc 80) 2 (nI 1000000))), (54, qa .iastore 1), (55, qk (.iinc 4 1) 3 (nI 1))]),
  (73, [(58, qj (.goto (-49)) 3 9 [true, true, true, true, true, false]), (61, qa (.aload_n 0) 1), (62, qf (.getfield 12) 3 4 0 1), (65, qa (.iload_n 3) 1), (66, qk (.sipush 400) 3 (nI 400)), (69, qa .iadd 1), (70, qk (.ldc 80) 2 (nI 1000000)), (72, qa .iastore 1)]),
  (74, [(73, qa .return_ 1)])]
-- 191 TinStencils$Joining.merge(II)V
def tb_191 : qz_B := [(13, [(0, qa (.iload_n 1) 1), (1, qk (.sipush 401) 3 (nI 401)), (4, qa .imul 1), (5, qa (.istore_n 3) 1), (6, qa (.iload_n 2) 1), (7, qk (.sipush 401) 3 (nI 401)), (10, qa .imul 1), (11, qa (.istore 4) 2)]),
  (25, [(13, qa (.iload_n 1) 1), (14, qa (.iload_n 2) 1), (15, qa .ixor 1), (16, qk (.sipush 401) 3 (nI 401)), (19, qa .imul 1), (20, qa (.istore 5) 2), (22, qk (.iconst 0) 1 (nI 0)), (23, qm [true, false, false, true, true, true, true, false] (qa (.istore 6) 2))]),
  (41, [(25, qa (.iload 6) 2), (27, qk (.sipush 401) 3 (nI 401)), (30, qj (.if_icmp .ge 74) 3 104 [false, false, false, false, false, false, false, false]), (33, qa (.aload_n 0) 1), (34, qf (.getfield 16) 3 4 1 1), (37, qa (.iload 6) 2), (39, qa .iaload 1), (40, qk (.iconst (-1)) 1 (-1))]),
  (55, [(41, qj (.if_icmp .eq 57) 3 98 [true, false, false, true, true, true, true, false]), (44, qa (.aload_n 0) 1), (45, qf (.getfield 12) 3 4 0 1), (48, qa (.iload 4) 2), (50, qa (.iload 6) 2), (52, qa .iadd 1), (53, qa .iaload 1), (54, qa (.aload_n 0) 1)]),
  (69, [(55, qf (.getfield 12) 3 4 0 1), (58, qa (.iload 5) 2), (60, qa (.iload 6) 2), (62, qa .iadd 1), (63, qa .iaload 1), (64, qa .iadd 1), (65, qa (.aload_n 0) 1), (66, qf (.getfield 16) 3 4 1 1)]),
  (82, [(69, qa (.iload 6) 2), (71, qa .iaload 1), (72, qa .isub 1), (73, qa (.istore 7) 2), (75, qa (.aload_n 0) 1), (76, qf (.getfield 12) 3 4 0 1), (79, qa (.iload_n 3) 1), (80, qa (.iload 6) 2)]),
  (94, [(82, qa .iadd 1), (83, qa (.aload_n 0) 1), (84, qf (.getfield 12) 3 4 0 1), (87, qa (.iload_n 3) 1), (88, qa (.iload 6) 2), (90, qa .iadd 1), (91, qa .iaload 1), (92, qa (.iload 7) 2)]),
  (105, [(94, qc (.invokestatic 31) 3 136 2 1 [0, 2]), (97, qm [true, false, false, true, true, true, true, false] (qa .iastore 1)), (98, qk (.iinc 6 1) 3 (nI 1)), (101, qj (.goto (-76)) 3 25 [true, false, false, true, true, true, true, false]), (104, qa .return_ 1)])]
-- 192 TinStencils$Joining.relaxSquare(II)Z
def tb_192 : qz_B := [(14, [(0, qa (.aload_n 0) 1), (1, qf (.getfield 19) 3 4 2 1), (4, qa (.iload_n 2) 1), (5, qc (.invokestatic 85) 3 130 2 1 [0, 2]), (8, qa (.istore_n 3) 1), (9, qa (.iload_n 3) 1), (10, qj (.ifCond .eq 16) 3 26 [true, true, true, true, false, false, false]), (13, qa (.aload_n 0) 1)]),
  (30, [(14, qf (.getfield 12) 3 4 0 1), (17, qa (.iload_n 1) 1), (18, qk (.sipush 400) 3 (nI 400)), (21, qa .iadd 1), (22, qa .iaload 1), (23, qj (.goto 5) 3 28 [true, true, true, true, false, false, false]), (26, qm [true, true, true, true, false, false, false] (qk (.ldc 80) 2 (nI 1000000))), (28, qa (.istore 4) 2)]),
  (45, [(30, qk (.iconst 0) 1 (nI 0)), (31, qm [true, true, true, true, true, true, false] (qa (.istore 5) 2)), (33, qa (.iload 5) 2), (35, qk (.iconst 4) 1 (nI 4)), (36, qj (.if_icmp .ge 50) 3 86 [true, true, true, true, true, false, false]), (39, qa (.iload_n 2) 1), (40, qa (.iload 5) 2), (42, qc (.invokestatic 89) 3 131 2 1 [2, 4])]),
  (60, [(45, qa (.istore 6) 2), (47, qa (.iload 6) 2), (49, qk (.iconst (-1)) 1 (-1)), (50, qj (.if_icmp .eq 30) 3 80 [true, true, true, true, true, true, false]), (53, qa (.aload_n 0) 1), (54, qf (.getfield 16) 3 4 1 1), (57, qa (.iload 6) 2), (59, qa .iaload 1)]),
  (74, [(60, qk (.iconst (-1)) 1 (-1)), (61, qj (.if_icmp .eq 19) 3 80 [true, true, true, true, true, true, false]), (64, qa (.iload 4) 2), (66, qa (.aload_n 0) 1), (67, qf (.getfield 12) 3 4 0 1), (70, qa (.iload_n 1) 1), (71, qa (.iload 6) 2), (73, qa .iadd 1)]),
  (92, [(74, qa .iaload 1), (75, qc (.invokestatic 31) 3 136 2 1 [0, 2]), (78, qm [true, true, true, true, true, true, false] (qa (.istore 4) 2)), (80, qk (.iinc 5 1) 3 (nI 1)), (83, qj (.goto (-50)) 3 33 [true, true, true, true, true, true, false]), (86, qa (.iload 4) 2), (88, qa (.aload_n 0) 1), (89, qf (.getfield 16) 3 4 1 1)]),
  (102, [(92, qa (.iload_n 2) 1), (93, qa .iaload 1), (94, qa .iadd 1), (95, qa (.aload_n 0) 1), (96, qf (.getfield 12) 3 4 0 1), (99, qa (.iload_n 1) 1), (100, qa (.iload_n 2) 1), (101, qa .iadd 1)]),
  (118, [(102, qa .iaload 1), (103, qj (.if_icmp .ge 7) 3 110 [true, true, true, true, true, false, false]), (106, qk (.iconst 1) 1 (nI 1)), (107, qj (.goto 4) 3 111 [true, true, true, true, true, false, false]), (110, qm [true, true, true, true, true, false, false] (qk (.iconst 0) 1 (nI 0))), (111, qa (.istore 5) 2), (113, qa (.iload 5) 2), (115, qj (.ifCond .eq 20) 3 135 [true, true, true, true, false, true, false])]),
  (131, [(118, qa (.aload_n 0) 1), (119, qf (.getfield 12) 3 4 0 1), (122, qa (.iload_n 1) 1), (123, qa (.iload_n 2) 1), (124, qa .iadd 1), (125, qa (.iload 4) 2), (127, qa (.aload_n 0) 1), (128, qf (.getfield 16) 3 4 1 1)]),
  (143, [(131, qa (.iload_n 2) 1), (132, qa .iaload 1), (133, qa .iadd 1), (134, qm [true, true, true, true, false, true, false] (qa .iastore 1)), (135, qa (.iload_n 3) 1), (136, qj (.ifCond .eq 45) 3 181 [false, false, false, false, false, true, false]), (139, qa (.aload_n 0) 1), (140, qf (.getfield 12) 3 4 0 1)]),
  (155, [(143, qa (.iload_n 1) 1), (144, qa (.iload_n 2) 1), (145, qa .iadd 1), (146, qa .iaload 1), (147, qa (.aload_n 0) 1), (148, qf (.getfield 12) 3 4 0 1), (151, qa (.iload_n 1) 1), (152, qk (.sipush 400) 3 (nI 400))]),
  (169, [(155, qa .iadd 1), (156, qa .iaload 1), (157, qj (.if_icmp .ge 24) 3 181 [false, false, false, false, false, true, false]), (160, qa (.aload_n 0) 1), (161, qf (.getfield 12) 3 4 0 1), (164, qa (.iload_n 1) 1), (165, qk (.sipush 400) 3 (nI 400)), (168, qa .iadd 1)]),
  (179, [(169, qa (.aload_n 0) 1), (170, qf (.getfield 12) 3 4 0 1), (173, qa (.iload_n 1) 1), (174, qa (.iload_n 2) 1), (175, qa .iadd 1), (176, qa .iaload 1), (177, qa .iastore 1), (178, qk (.iconst 1) 1 (nI 1))]),
  (184, [(179, qm [false, false, false, false, false, true, false] (qa (.istore 5) 2)), (181, qa (.iload 5) 2), (183, qf .ireturn 1 0 0 1)])]
-- 193 TinStencils$Joining.relax(I)V
def tb_193 : qz_B := [(11, [(0, qa (.iload_n 1) 1), (1, qk (.sipush 401) 3 (nI 401)), (4, qa .imul 1), (5, qa (.istore_n 2) 1), (6, qk (.iconst 1) 1 (nI 1)), (7, qa (.istore_n 3) 1), (8, qk (.iconst 0) 1 (nI 0)), (9, qm [true, false, true, true, true, false] (qa (.istore 4) 2))]),
  (26, [(11, qa (.iload 4) 2), (13, qk (.sipush 401) 3 (nI 401)), (16, qj (.if_icmp .gt 94) 3 110 [false, false, false, false, false, false]), (19, qa (.iload_n 3) 1), (20, qj (.ifCond .eq 90) 3 110 [false, false, false, false, false, false]), (23, qk (.iconst 0) 1 (nI 0)), (24, qa (.istore_n 3) 1), (25, qk (.iconst 0) 1 (nI 0))]),
  (43, [(26, qm [true, false, true, true, true, true] (qa (.istore 5) 2)), (28, qa (.iload 5) 2), (30, qk (.sipush 400) 3 (nI 400)), (33, qj (.if_icmp .ge 32) 3 65 [true, false, true, true, true, false]), (36, qa (.aload_n 0) 1), (37, qf (.getfield 16) 3 4 1 1), (40, qa (.iload 5) 2), (42, qa .iaload 1)]),
  (58, [(43, qk (.iconst (-1)) 1 (-1)), (44, qj (.if_icmp .eq 15) 3 59 [true, false, true, true, true, true]), (47, qa (.aload_n 0) 1), (48, qa (.iload_n 2) 1), (49, qa (.iload 5) 2), (51, qc (.invokevirtual 81) 3 192 3 1 [4, 7, 4]), (54, qj (.ifCond .eq 5) 3 59 [true, false, true, true, true, true]), (57, qk (.iconst 1) 1 (nI 1))]),
  (76, [(58, qm [true, false, true, true, true, true] (qa (.istore_n 3) 1)), (59, qk (.iinc 5 1) 3 (nI 1)), (62, qj (.goto (-34)) 3 28 [true, false, true, true, true, true]), (65, qk (.sipush 399) 3 (nI 399)), (68, qm [true, false, true, true, true, true] (qa (.istore 5) 2)), (70, qa (.iload 5) 2), (72, qj (.ifCond .lt 32) 3 104 [true, false, true, true, true, false]), (75, qa (.aload_n 0) 1)]),
  (90, [(76, qf (.getfield 16) 3 4 1 1), (79, qa (.iload 5) 2), (81, qa .iaload 1), (82, qk (.iconst (-1)) 1 (-1)), (83, qj (.if_icmp .eq 15) 3 98 [true, false, true, true, true, true]), (86, qa (.aload_n 0) 1), (87, qa (.iload_n 2) 1), (88, qa (.iload 5) 2)]),
  (110, [(90, qc (.invokevirtual 81) 3 192 3 1 [4, 7, 4]), (93, qj (.ifCond .eq 5) 3 98 [true, false, true, true, true, true]), (96, qk (.iconst 1) 1 (nI 1)), (97, qm [true, false, true, true, true, true] (qa (.istore_n 3) 1)), (98, qk (.iinc 5 (-1)) 3 (-1)), (101, qj (.goto (-31)) 3 70 [true, false, true, true, true, true]), (104, qk (.iinc 4 1) 3 (nI 1)), (107, qj (.goto (-96)) 3 11 [true, false, true, true, true, false])]),
  (111, [(110, qa .return_ 1)])]
-- 194 TinStencils$Joining.join(LTinStencils$Sheet;LTinStencils$Parts;Z)V
def tb_194 : qz_B := [(13, [(0, qa (.aload_n 0) 1), (1, qk (.iconst 1) 1 (nI 1)), (2, qa (.aload_n 2) 1), (3, qf (.getfield 26) 3 5 0 0), (6, qk (.bipush 7) 2 (nI 7)), (8, qc (.invokestatic 31) 3 136 2 1 [0, 2]), (11, qa .ishl 1), (12, qk (.iconst 1) 1 (nI 1))]),
  (26, [(13, qa .isub 1), (14, qf (.putfield 22) 3 4 3 0), (17, qa (.aload_n 0) 1), (18, qa (.aload_n 1) 1), (19, qa (.iload_n 3) 1), (20, qc (.invokevirtual 37) 3 189 3 0 [4, 7, 4]), (23, qk (.iconst 1) 1 (nI 1)), (24, qm [true, false, true, false, true, false] (qa (.istore 4) 2))]),
  (42, [(26, qa (.iload 4) 2), (28, qa (.aload_n 0) 1), (29, qf (.getfield 22) 3 4 3 0), (32, qj (.if_icmp .gt 61) 3 93 [false, false, false, false, false, false]), (35, qa (.aload_n 0) 1), (36, qa (.iload 4) 2), (38, qa (.aload_n 2) 1), (39, qc (.invokevirtual 41) 3 190 3 0 [3, 6, 4])]),
  (55, [(42, qa (.iload 4) 2), (44, qk (.iconst 1) 1 (nI 1)), (45, qa .isub 1), (46, qa (.iload 4) 2), (48, qa .iand 1), (49, qm [true, false, true, false, true, true] (qa (.istore 5) 2)), (51, qa (.iload 5) 2), (53, qa (.iload 4) 2)]),
  (71, [(55, qa (.iload 5) 2), (57, qa .ixor 1), (58, qj (.if_icmp .le 23) 3 81 [true, false, true, false, true, false]), (61, qa (.aload_n 0) 1), (62, qa (.iload 4) 2), (64, qa (.iload 5) 2), (66, qc (.invokevirtual 45) 3 191 3 0 [5, 8, 4]), (69, qa (.iload 5) 2)]),
  (84, [(71, qk (.iconst 1) 1 (nI 1)), (72, qa .isub 1), (73, qa (.iload 4) 2), (75, qa .iand 1), (76, qa (.istore 5) 2), (78, qj (.goto (-27)) 3 51 [true, false, true, false, true, true]), (81, qa (.aload_n 0) 1), (82, qa (.iload 4) 2)]),
  (94, [(84, qc (.invokevirtual 49) 3 193 2 0 [4, 6, 4]), (87, qk (.iinc 4 1) 3 (nI 1)), (90, qj (.goto (-64)) 3 26 [true, false, true, false, true, false]), (93, qa .return_ 1)])]
-- 195 TinStencils$Joining.joinedToFrame(I)I
def tb_195 : qz_B := [(16, [(0, qa (.iload_n 1) 1), (1, qj (.ifCond .ne 7) 3 8 []), (4, qk (.iconst 0) 1 (nI 0)), (5, qj (.goto 17) 3 22 [false, false]), (8, qa (.aload_n 0) 1), (9, qf (.getfield 12) 3 4 0 1), (12, qa (.iload_n 1) 1), (13, qk (.sipush 401) 3 (nI 401))]),
  (23, [(16, qa .imul 1), (17, qk (.sipush 400) 3 (nI 400)), (20, qa .iadd 1), (21, qm [false, false] (qa .iaload 1)), (22, qa .ireturn 1)])]
-- 196 TinStencils$Joining.cheapestJoin()I
def tb_196 : qz_B := [(9, [(0, qa (.aload_n 0) 1), (1, qa (.aload_n 0) 1), (2, qf (.getfield 22) 3 4 3 0), (5, qc (.invokevirtual 92) 3 195 2 1 [0, 2, 4]), (8, qa .ireturn 1)])]
-- 197 TinStencils.cheapest(I)I
def tb_197 : qz_B := [(12, [(0, qa (.aload_n 0) 1), (1, qa (.iload_n 1) 1), (2, qc (.invokevirtual 118) 3 115 2 3 [0, 2, 11]), (5, qa (.astore_n 2) 1), (6, qa (.aload_n 2) 1), (7, qj (.ifnull 11) 3 18 [false, false, false]), (10, qa (.aload_n 0) 1), (11, qa (.aload_n 2) 1)]),
  (26, [(12, qc (.invokevirtual 239) 3 188 2 1 [0, 2, 11]), (15, qm [false, false, false] (qj (.ifCond .ne 5) 3 20 [true, false, true])), (18, qk (.iconst (-1)) 1 (-1)), (19, qm [true, false, true] (qa .ireturn 1)), (20, qa (.aload_n 0) 1), (21, qf (.getfield 68) 3 11 11 1), (24, qa (.aload_n 2) 1), (25, qa (.aload_n 0) 1)]),
  (41, [(26, qf (.getfield 61) 3 11 10 1), (29, qk (.iconst 1) 1 (nI 1)), (30, qc (.invokevirtual 243) 3 194 4 0 [2, 6, 4]), (33, qa (.aload_n 0) 1), (34, qf (.getfield 68) 3 11 11 1), (37, qc (.invokevirtual 247) 3 196 1 1 [0, 1, 4]), (40, qa .ireturn 1)])]
-- 198 TinStencilsModel.costs(IZ)V
def tb_198 : qz_B := [(14, [(0, qk (.iconst 0) 1 (nI 0)), (1, qa (.istore_n 3) 1), (2, qa (.iload_n 3) 1), (3, qk (.sipush 400) 3 (nI 400)), (6, qj (.if_icmp .ge 71) 3 77 [false, false, false, false]), (9, qa (.aload_n 0) 1), (10, qf (.getfield 101) 3 12 45 1), (13, qa (.iload_n 3) 1)]),
  (24, [(14, qa (.aload_n 0) 1), (15, qa (.iload_n 1) 1), (16, qa (.iload_n 3) 1), (17, qk (.bipush 20) 2 (nI 20)), (19, qa .irem 1), (20, qa (.iload_n 3) 1), (21, qk (.bipush 20) 2 (nI 20)), (23, qa .idiv 1)]),
  (42, [(24, qc (.invokevirtual 288) 3 94 4 1 [0, 4, 12]), (27, qj (.ifCond .ne 9) 3 36 []), (30, qk (.ldc_w 475) 3 (nI 1000000000)), (33, qj (.goto 37) 3 70 []), (36, qa (.aload_n 0) 1), (37, qf (.getfield 64) 3 12 29 1), (40, qa (.iload_n 3) 1), (41, qa .iaload 1)]),
  (58, [(42, qk (.iconst 1) 1 (nI 1)), (43, qj (.if_icmp .ne 7) 3 50 []), (46, qk (.iconst 0) 1 (nI 0)), (47, qj (.goto 23) 3 70 []), (50, qa (.iload_n 2) 1), (51, qj (.ifCond .eq 18) 3 69 []), (54, qa (.aload_n 0) 1), (55, qf (.getfield 26) 3 12 5 1)]),
  (70, [(58, qk (.sipush 400) 3 (nI 400)), (61, qa (.iload_n 1) 1), (62, qa .imul 1), (63, qa (.iload_n 3) 1), (64, qa .iadd 1), (65, qa .iaload 1), (66, qj (.goto 4) 3 70 []), (69, qk (.iconst 1) 1 (nI 1))]),
  (78, [(70, qa .iastore 1), (71, qk (.iinc 3 1) 3 (nI 1)), (74, qj (.goto (-72)) 3 2 []), (77, qa .return_ 1)])]
-- 199 TinStencilsModel.bits(I)I
def tb_199 : qz_B := [(10, [(0, qk (.iconst 0) 1 (nI 0)), (1, qa (.istore_n 1) 1), (2, qa (.iload_n 0) 1), (3, qm [false, true, true] (qa (.istore_n 2) 1)), (4, qa (.iload_n 2) 1), (5, qj (.ifCond .le 16) 3 21 [false, true, false]), (8, qa (.iload_n 1) 1), (9, qa (.iload_n 2) 1)]),
  (18, [(10, qk (.iconst 1) 1 (nI 1)), (11, qa .iand 1), (12, qa .iadd 1), (13, qa (.istore_n 1) 1), (14, qa (.iload_n 2) 1), (15, qk (.iconst 1) 1 (nI 1)), (16, qa .ishr 1), (17, qa (.istore_n 2) 1)]),
  (23, [(18, qj (.goto (-14)) 3 4 [false, true, true]), (21, qa (.iload_n 1) 1), (22, qa .ireturn 1)])]
-- 200 TinStencilsModel.goesOn(I)V
def tb_200 : qz_B := [(12, [(0, qk (.sipush 400) 3 (nI 400)), (3, qa (.iload_n 1) 1), (4, qa .imul 1), (5, qa (.istore_n 2) 1), (6, qk (.iconst 0) 1 (nI 0)), (7, qm [true, false, true, true, false, false, false] (qa (.istore_n 3) 1)), (8, qa (.iload_n 3) 1), (9, qk (.sipush 400) 3 (nI 400))]),
  (28, [(12, qj (.if_icmp .ge 16) 3 28 [true, false, true, false, false, false, false]), (15, qa (.aload_n 0) 1), (16, qf (.getfield 104) 3 12 46 1), (19, qa (.iload_n 3) 1), (20, qk (.iconst 0) 1 (nI 0)), (21, qa .iastore 1), (22, qk (.iinc 3 1) 3 (nI 1)), (25, qj (.goto (-17)) 3 8 [true, false, true, true, false, false, false])]),
  (41, [(28, qk (.iconst 0) 1 (nI 0)), (29, qm [true, false, true, true, false, false, false] (qa (.istore_n 3) 1)), (30, qa (.iload_n 3) 1), (31, qk (.sipush 400) 3 (nI 400)), (34, qj (.if_icmp .ge 181) 3 215 [false, false, false, false, false, false, false]), (37, qk (.iconst (-1)) 1 (-1)), (38, qa (.istore 4) 2), (40, qk (.iconst 0) 1 (nI 0))]),
  (58, [(41, qm [true, false, true, true, true, true, false] (qa (.istore 5) 2)), (43, qa (.iload 5) 2), (45, qk (.sipush 400) 3 (nI 400)), (48, qj (.if_icmp .ge 65) 3 113 [true, false, true, true, true, false, false]), (51, qa (.aload_n 0) 1), (52, qf (.getfield 104) 3 12 46 1), (55, qa (.iload 5) 2), (57, qa .iaload 1)]),
  (73, [(58, qj (.ifCond .ne 49) 3 107 [true, false, true, true, true, true, false]), (61, qa (.aload_n 0) 1), (62, qf (.getfield 95) 3 12 43 1), (65, qa (.iload_n 2) 1), (66, qa (.iload 5) 2), (68, qa .iadd 1), (69, qa .iaload 1), (70, qk (.ldc_w 475) 3 (nI 1000000000))]),
  (89, [(73, qj (.if_icmp .ge 34) 3 107 [true, false, true, true, true, true, false]), (76, qa (.iload 4) 2), (78, qk (.iconst (-1)) 1 (-1)), (79, qj (.if_icmp .eq 24) 3 103 [true, false, true, true, false, true, false]), (82, qa (.aload_n 0) 1), (83, qf (.getfield 95) 3 12 43 1), (86, qa (.iload_n 2) 1), (87, qa (.iload 5) 2)]),
  (100, [(89, qa .iadd 1), (90, qa .iaload 1), (91, qa (.aload_n 0) 1), (92, qf (.getfield 95) 3 12 43 1), (95, qa (.iload_n 2) 1), (96, qa (.iload 4) 2), (98, qa .iadd 1), (99, qa .iaload 1)]),
  (119, [(100, qm [true, false, true, true, false, true, false] (qj (.if_icmp .ge 7) 3 107 [true, false, true, true, true, true, false])), (103, qa (.iload 5) 2), (105, qm [true, false, true, true, true, true, false] (qa (.istore 4) 2)), (107, qk (.iinc 5 1) 3 (nI 1)), (110, qj (.goto (-67)) 3 43 [true, false, true, true, true, true, false]), (113, qa (.iload 4) 2), (115, qk (.iconst (-1)) 1 (-1)), (116, qj (.if_icmp .ne 4) 3 120 [true, false, true, true, true, false, false])]),
  (131, [(119, qm [true, false, true, true, true, false, false] (qa .return_ 1)), (120, qa (.aload_n 0) 1), (121, qf (.getfield 104) 3 12 46 1), (124, qa (.iload 4) 2), (126, qk (.iconst 1) 1 (nI 1)), (127, qa .iastore 1), (128, qk (.iconst 0) 1 (nI 0)), (129, qm [true, false, true, true, true, true, false] (qa (.istore 5) 2))]),
  (148, [(131, qa (.iload 5) 2), (133, qk (.iconst 4) 1 (nI 4)), (134, qj (.if_icmp .ge 75) 3 209 [true, false, true, true, false, false, false]), (137, qa (.iload 4) 2), (139, qa (.iload 5) 2), (141, qc (.invokestatic 371) 3 144 2 1 [2, 4]), (144, qa (.istore 6) 2), (146, qa (.iload 6) 2)]),
  (165, [(148, qk (.iconst (-1)) 1 (-1)), (149, qj (.if_icmp .eq 54) 3 203 [true, false, true, true, true, true, false]), (152, qa (.aload_n 0) 1), (153, qf (.getfield 101) 3 12 45 1), (156, qa (.iload 6) 2), (158, qa .iaload 1), (159, qk (.ldc_w 475) 3 (nI 1000000000)), (162, qj (.if_icmp .ge 41) 3 203 [true, false, true, true, true, true, false])]),
  (178, [(165, qa (.aload_n 0) 1), (166, qf (.getfield 95) 3 12 43 1), (169, qa (.iload_n 2) 1), (170, qa (.iload 6) 2), (172, qa .iadd 1), (173, qa (.aload_n 0) 1), (174, qf (.getfield 95) 3 12 43 1), (177, qa (.iload_n 2) 1)]),
  (190, [(178, qa (.iload 6) 2), (180, qa .iadd 1), (181, qa .iaload 1), (182, qa (.aload_n 0) 1), (183, qf (.getfield 95) 3 12 43 1), (186, qa (.iload_n 2) 1), (187, qa (.iload 4) 2), (189, qa .iadd 1)]),
  (203, [(190, qa .iaload 1), (191, qa (.aload_n 0) 1), (192, qf (.getfield 101) 3 12 45 1), (195, qa (.iload 6) 2), (197, qa .iaload 1), (198, qa .iadd 1), (199, qc (.invokestatic 476) 3 136 2 1 [0, 2]), (202, qm [true, false, true, true, true, true, false] (qa .iastore 1))]),
  (216, [(203, qk (.iinc 5 1) 3 (nI 1)), (206, qj (.goto (-75)) 3 131 [true, false, true, true, true, true, false]), (209, qk (.iinc 3 1) 3 (nI 1)), (212, qj (.goto (-182)) 3 30 [true, false, true, true, false, false, false]), (215, qa .return_ 1)])]
-- 201 TinStencilsModel.joins(IZ)V
def tb_201 : qz_B := [(12, [(0, qa (.aload_n 0) 1), (1, qa (.iload_n 1) 1), (2, qa (.iload_n 2) 1), (3, qc (.invokevirtual 479) 3 198 3 0 [1, 4, 12]), (6, qa (.aload_n 0) 1), (7, qf (.getfield 98) 3 12 44 1), (10, qk (.iconst 0) 1 (nI 0)), (11, qk (.iconst 0) 1 (nI 0))]),
  (22, [(12, qa .iastore 1), (13, qk (.iconst 1) 1 (nI 1)), (14, qm [true, true, false, true, false, false, false, false, false] (qa (.istore_n 3) 1)), (15, qa (.iload_n 3) 1), (16, qk (.iconst 1) 1 (nI 1)), (17, qa (.aload_n 0) 1), (18, qf (.getfield 393) 3 12 36 0), (21, qa .ishl 1)]),
  (40, [(22, qj (.if_icmp .ge 328) 3 350 [false, false, false, false, false, false, false, false, false]), (25, qk (.iconst 0) 1 (nI 0)), (26, qm [true, true, false, true, true, false, false, false, false] (qa (.istore 4) 2)), (28, qa (.iload 4) 2), (30, qk (.sipush 400) 3 (nI 400)), (33, qj (.if_icmp .ge 161) 3 194 [true, true, false, true, false, false, false, false, false]), (36, qa (.iload_n 3) 1), (37, qc (.invokestatic 462) 3 199 1 1 [2, 3])]),
  (55, [(40, qk (.iconst 1) 1 (nI 1)), (41, qj (.if_icmp .ne 32) 3 73 [true, true, false, true, true, false, false, false, false]), (44, qa (.aload_n 0) 1), (45, qf (.getfield 73) 3 12 32 1), (48, qa (.iload 4) 2), (50, qa .iaload 1), (51, qk (.iconst (-1)) 1 (-1)), (52, qj (.if_icmp .eq 21) 3 73 [true, true, false, true, true, false, false, false, false])]),
  (70, [(55, qa (.iload_n 3) 1), (56, qa (.aload_n 0) 1), (57, qf (.getfield 73) 3 12 32 1), (60, qa (.iload 4) 2), (62, qa .iaload 1), (63, qc (.invokestatic 281) 3 92 2 1 [0, 2]), (66, qj (.ifCond .eq 7) 3 73 [true, true, false, true, true, false, false, false, false]), (69, qk (.iconst 0) 1 (nI 0))]),
  (83, [(70, qj (.goto 6) 3 76 [true, true, false, true, true, false, false, false, false]), (73, qm [true, true, false, true, true, false, false, false, false] (qk (.ldc_w 475) 3 (nI 1000000000))), (76, qa (.istore 5) 2), (78, qa (.iload_n 3) 1), (79, qk (.iconst 1) 1 (nI 1)), (80, qa .isub 1), (81, qa (.iload_n 3) 1), (82, qa .iand 1)]),
  (100, [(83, qm [true, true, false, true, true, true, true, false, false] (qa (.istore 6) 2)), (85, qa (.iload 6) 2), (87, qj (.ifCond .le 86) 3 173 [true, true, false, true, true, true, false, false, false]), (90, qa (.aload_n 0) 1), (91, qf (.getfield 95) 3 12 43 1), (94, qk (.sipush 400) 3 (nI 400)), (97, qa (.iload 6) 2), (99, qa .imul 1)]),
  (114, [(100, qa (.iload 4) 2), (102, qa .iadd 1), (103, qa .iaload 1), (104, qa (.istore 7) 2), (106, qa (.aload_n 0) 1), (107, qf (.getfield 95) 3 12 43 1), (110, qk (.sipush 400) 3 (nI 400)), (113, qa (.iload_n 3) 1)]),
  (124, [(114, qa (.iload 6) 2), (116, qk (.iconst (-1)) 1 (-1)), (117, qa .ixor 1), (118, qa .iand 1), (119, qa .imul 1), (120, qa (.iload 4) 2), (122, qa .iadd 1), (123, qa .iaload 1)]),
  (144, [(124, qa (.istore 8) 2), (126, qa (.iload 7) 2), (128, qk (.ldc_w 475) 3 (nI 1000000000)), (131, qj (.if_icmp .ge 31) 3 162 [true, true, false, true, true, true, true, false, false]), (134, qa (.iload 8) 2), (136, qk (.ldc_w 475) 3 (nI 1000000000)), (139, qj (.if_icmp .ge 23) 3 162 [true, true, false, true, true, true, true, false, false]), (142, qa (.iload 5) 2)]),
  (157, [(144, qa (.iload 7) 2), (146, qa (.iload 8) 2), (148, qa .iadd 1), (149, qa (.aload_n 0) 1), (150, qf (.getfield 101) 3 12 45 1), (153, qa (.iload 4) 2), (155, qa .iaload 1), (156, qa .isub 1)]),
  (170, [(157, qc (.invokestatic 476) 3 136 2 1 [0, 2]), (160, qm [true, true, false, true, true, true, true, false, false] (qa (.istore 5) 2)), (162, qa (.iload 6) 2), (164, qk (.iconst 1) 1 (nI 1)), (165, qa .isub 1), (166, qa (.iload_n 3) 1), (167, qa .iand 1), (168, qa (.istore 6) 2)]),
  (185, [(170, qj (.goto (-85)) 3 85 [true, true, false, true, true, true, true, false, false]), (173, qa (.aload_n 0) 1), (174, qf (.getfield 95) 3 12 43 1), (177, qk (.sipush 400) 3 (nI 400)), (180, qa (.iload_n 3) 1), (181, qa .imul 1), (182, qa (.iload 4) 2), (184, qa .iadd 1)]),
  (200, [(185, qa (.iload 5) 2), (187, qa .iastore 1), (188, qk (.iinc 4 1) 3 (nI 1)), (191, qj (.goto (-163)) 3 28 [true, true, false, true, true, false, false, false, false]), (194, qa (.aload_n 0) 1), (195, qa (.iload_n 3) 1), (196, qc (.invokevirtual 483) 3 200 2 0 [5, 7, 12]), (199, qa (.aload_n 0) 1)]),
  (216, [(200, qf (.getfield 98) 3 12 44 1), (203, qa (.iload_n 3) 1), (204, qk (.ldc_w 475) 3 (nI 1000000000)), (207, qa .iastore 1), (208, qk (.iconst 0) 1 (nI 0)), (209, qm [true, true, false, true, true, false, false, false, false] (qa (.istore 4) 2)), (211, qa (.iload 4) 2), (213, qk (.sipush 400) 3 (nI 400))]),
  (233, [(216, qj (.if_icmp .ge 71) 3 287 [true, true, false, true, false, false, false, false, false]), (219, qa (.aload_n 0) 1), (220, qf (.getfield 101) 3 12 45 1), (223, qa (.iload 4) 2), (225, qa .iaload 1), (226, qk (.ldc_w 475) 3 (nI 1000000000)), (229, qj (.if_icmp .ge 52) 3 281 [true, true, false, true, true, false, false, false, false]), (232, qa (.aload_n 0) 1)]),
  (249, [(233, qa (.iload_n 1) 1), (234, qa (.iload 4) 2), (236, qc (.invokevirtual 374) 3 142 3 1 [3, 6, 12]), (239, qj (.ifCond .ne 14) 3 253 [true, true, false, true, true, false, false, false, false]), (242, qa (.aload_n 0) 1), (243, qf (.getfield 67) 3 12 30 1), (246, qa (.iload 4) 2), (248, qa .iaload 1)]),
  (263, [(249, qk (.iconst 1) 1 (nI 1)), (250, qm [true, true, false, true, true, false, false, false, false] (qj (.if_icmp .ne 31) 3 281 [true, true, false, true, true, false, false, false, false])), (253, qa (.aload_n 0) 1), (254, qf (.getfield 98) 3 12 44 1), (257, qa (.iload_n 3) 1), (258, qa (.aload_n 0) 1), (259, qf (.getfield 98) 3 12 44 1), (262, qa (.iload_n 3) 1)]),
  (276, [(263, qa .iaload 1), (264, qa (.aload_n 0) 1), (265, qf (.getfield 95) 3 12 43 1), (268, qk (.sipush 400) 3 (nI 400)), (271, qa (.iload_n 3) 1), (272, qa .imul 1), (273, qa (.iload 4) 2), (275, qa .iadd 1)]),
  (290, [(276, qa .iaload 1), (277, qc (.invokestatic 476) 3 136 2 1 [0, 2]), (280, qm [true, true, false, true, true, false, false, false, false] (qa .iastore 1)), (281, qk (.iinc 4 1) 3 (nI 1)), (284, qj (.goto (-73)) 3 211 [true, true, false, true, true, false, false, false, false]), (287, qa (.iload_n 3) 1), (288, qk (.iconst 1) 1 (nI 1)), (289, qa .isub 1)]),
  (304, [(290, qa (.iload_n 3) 1), (291, qa .iand 1), (292, qm [true, true, false, true, true, false, false, false, false] (qa (.istore 4) 2)), (294, qa (.iload 4) 2), (296, qj (.ifCond .le 48) 3 344 [true, true, false, true, false, false, false, false, false]), (299, qa (.aload_n 0) 1), (300, qf (.getfield 98) 3 12 44 1), (303, qa (.iload_n 3) 1)]),
  (317, [(304, qa (.aload_n 0) 1), (305, qf (.getfield 98) 3 12 44 1), (308, qa (.iload_n 3) 1), (309, qa .iaload 1), (310, qa (.aload_n 0) 1), (311, qf (.getfield 98) 3 12 44 1), (314, qa (.iload 4) 2), (316, qa .iaload 1)]),
  (328, [(317, qa (.aload_n 0) 1), (318, qf (.getfield 98) 3 12 44 1), (321, qa (.iload_n 3) 1), (322, qa (.iload 4) 2), (324, qk (.iconst (-1)) 1 (-1)), (325, qa .ixor 1), (326, qa .iand 1), (327, qa .iaload 1)]),
  (339, [(328, qa .iadd 1), (329, qc (.invokestatic 476) 3 136 2 1 [0, 2]), (332, qa .iastore 1), (333, qa (.iload 4) 2), (335, qk (.iconst 1) 1 (nI 1)), (336, qa .isub 1), (337, qa (.iload_n 3) 1), (338, qa .iand 1)]),
  (351, [(339, qa (.istore 4) 2), (341, qj (.goto (-47)) 3 294 [true, true, false, true, true, false, false, false, false]), (344, qk (.iinc 3 1) 3 (nI 1)), (347, qj (.goto (-332)) 3 15 [true, true, false, true, false, false, false, false, false]), (350, qa .return_ 1)])]
-- 202 TinStencilsModel.cheapest(I)I
def tb_202 : qz_B := [(12, [(0, qa (.aload_n 0) 1), (1, qa (.iload_n 1) 1), (2, qc (.invokevirtual 402) 3 120 2 1 [0, 2, 12]), (5, qj (.ifCond .ne 5) 3 10 []), (8, qk (.iconst (-1)) 1 (-1)), (9, qa .ireturn 1), (10, qa (.aload_n 0) 1), (11, qa (.iload_n 1) 1)]),
  (27, [(12, qk (.iconst 0) 1 (nI 0)), (13, qc (.invokevirtual 412) 3 149 3 0 [0, 3, 12]), (16, qa (.aload_n 0) 1), (17, qf (.getfield 393) 3 12 36 0), (20, qk (.bipush 7) 2 (nI 7)), (22, qj (.if_icmp .le 5) 3 27 []), (25, qk (.iconst (-1)) 1 (-1)), (26, qa .ireturn 1)]),
  (39, [(27, qa (.aload_n 0) 1), (28, qa (.iload_n 1) 1), (29, qk (.iconst 1) 1 (nI 1)), (30, qc (.invokevirtual 486) 3 201 3 0 [6, 9, 12]), (33, qa (.aload_n 0) 1), (34, qf (.getfield 98) 3 12 44 1), (37, qk (.iconst 1) 1 (nI 1)), (38, qa (.aload_n 0) 1)]),
  (47, [(39, qf (.getfield 393) 3 12 36 0), (42, qa .ishl 1), (43, qk (.iconst 1) 1 (nI 1)), (44, qa .isub 1), (45, qa .iaload 1), (46, qa .ireturn 1)])]
-- 203 TinStencils$Joining.fewestChanges(LTinStencils$Parts;)I
def tb_203 : qz_B := [(13, [(0, qk (.ldc 80) 2 (nI 1000000)), (2, qa (.istore_n 2) 1), (3, qk (.iconst 0) 1 (nI 0)), (4, qm [true, true, true, true, false, false] (qa (.istore_n 3) 1)), (5, qa (.iload_n 3) 1), (6, qa (.aload_n 0) 1), (7, qf (.getfield 22) 3 4 3 0), (10, qj (.if_icmp .gt 66) 3 76 [false, false, true, false, false, false])]),
  (26, [(13, qa (.aload_n 0) 1), (14, qa (.iload_n 3) 1), (15, qc (.invokevirtual 92) 3 195 2 1 [0, 2, 4]), (18, qa (.istore 4) 2), (20, qk (.iconst 0) 1 (nI 0)), (21, qa (.istore 5) 2), (23, qa (.iload 5) 2), (25, qa (.aload_n 1) 1)]),
  (40, [(26, qf (.getfield 26) 3 5 0 0), (29, qj (.if_icmp .ge 34) 3 63 [true, true, true, true, true, false]), (32, qa (.iload 4) 2), (34, qa (.iload_n 3) 1), (35, qa (.iload 5) 2), (37, qa .ishr 1), (38, qk (.iconst 1) 1 (nI 1)), (39, qa .iand 1)]),
  (55, [(40, qj (.ifCond .ne 13) 3 53 [true, true, true, true, false, true]), (43, qa (.aload_n 1) 1), (44, qf (.getfield 95) 3 5 2 1), (47, qa (.iload 5) 2), (49, qa .iaload 1), (50, qj (.goto 4) 3 54 [true, true, true, true, false, true]), (53, qm [true, true, true, true, false, true] (qk (.iconst 0) 1 (nI 0))), (54, qa .iadd 1)]),
  (73, [(55, qa (.istore 4) 2), (57, qk (.iinc 5 1) 3 (nI 1)), (60, qj (.goto (-37)) 3 23 []), (63, qa (.iload_n 2) 1), (64, qa (.iload 4) 2), (66, qc (.invokestatic 31) 3 136 2 1 [0, 2]), (69, qa (.istore_n 2) 1), (70, qk (.iinc 3 1) 3 (nI 1))]),
  (78, [(73, qj (.goto (-68)) 3 5 [true, true, true, true, false, false]), (76, qa (.iload_n 2) 1), (77, qa .ireturn 1)])]
-- 204 TinStencils.made(I)I
def tb_204 : qz_B := [(12, [(0, qa (.aload_n 0) 1), (1, qa (.iload_n 1) 1), (2, qc (.invokevirtual 118) 3 115 2 3 [0, 2, 11]), (5, qa (.astore_n 2) 1), (6, qa (.aload_n 2) 1), (7, qj (.ifnull 11) 3 18 [false, false, false]), (10, qa (.aload_n 0) 1), (11, qa (.aload_n 2) 1)]),
  (26, [(12, qc (.invokevirtual 239) 3 188 2 1 [0, 2, 11]), (15, qm [false, false, false] (qj (.ifCond .ne 5) 3 20 [true, false, true])), (18, qk (.iconst (-1)) 1 (-1)), (19, qm [true, false, true] (qa .ireturn 1)), (20, qa (.aload_n 0) 1), (21, qf (.getfield 68) 3 11 11 1), (24, qa (.aload_n 2) 1), (25, qa (.aload_n 0) 1)]),
  (44, [(26, qf (.getfield 61) 3 11 10 1), (29, qk (.iconst 0) 1 (nI 0)), (30, qc (.invokevirtual 243) 3 194 4 0 [2, 6, 4]), (33, qa (.aload_n 0) 1), (34, qf (.getfield 68) 3 11 11 1), (37, qa (.aload_n 0) 1), (38, qf (.getfield 61) 3 11 10 1), (41, qc (.invokevirtual 250) 3 203 2 1 [4, 6, 4])]),
  (45, [(44, qa .ireturn 1)])]
-- 205 TinStencilsModel.made(I)I
def tb_205 : qz_B := [(12, [(0, qa (.aload_n 0) 1), (1, qa (.iload_n 1) 1), (2, qc (.invokevirtual 402) 3 120 2 1 [0, 2, 12]), (5, qj (.ifCond .ne 5) 3 10 [true, true, false, false, false, false]), (8, qk (.iconst (-1)) 1 (-1)), (9, qm [true, true, false, false, false, false] (qa .ireturn 1)), (10, qa (.aload_n 0) 1), (11, qa (.iload_n 1) 1)]),
  (27, [(12, qk (.iconst 0) 1 (nI 0)), (13, qc (.invokevirtual 412) 3 149 3 0 [0, 3, 12]), (16, qa (.aload_n 0) 1), (17, qf (.getfield 393) 3 12 36 0), (20, qk (.bipush 7) 2 (nI 7)), (22, qj (.if_icmp .le 5) 3 27 [true, true, false, false, false, false]), (25, qk (.iconst (-1)) 1 (-1)), (26, qm [true, true, false, false, false, false] (qa .ireturn 1))]),
  (39, [(27, qa (.aload_n 0) 1), (28, qa (.iload_n 1) 1), (29, qk (.iconst 0) 1 (nI 0)), (30, qc (.invokevirtual 486) 3 201 3 0 [6, 9, 12]), (33, qk (.ldc_w 475) 3 (nI 1000000000)), (36, qa (.istore_n 2) 1), (37, qk (.iconst 0) 1 (nI 0)), (38, qm [true, false, true, true, false, false] (qa (.istore_n 3) 1))]),
  (53, [(39, qa (.iload_n 3) 1), (40, qk (.iconst 1) 1 (nI 1)), (41, qa (.aload_n 0) 1), (42, qf (.getfield 393) 3 12 36 0), (45, qa .ishl 1), (46, qj (.if_icmp .ge 67) 3 113 [false, false, true, false, false, false]), (49, qa (.aload_n 0) 1), (50, qf (.getfield 98) 3 12 44 1)]),
  (66, [(53, qa (.iload_n 3) 1), (54, qa .iaload 1), (55, qa (.istore 4) 2), (57, qk (.iconst 0) 1 (nI 0)), (58, qm [true, false, true, true, true, true] (qa (.istore 5) 2)), (60, qa (.iload 5) 2), (62, qa (.aload_n 0) 1), (63, qf (.getfield 393) 3 12 36 0)]),
  (84, [(66, qj (.if_icmp .ge 34) 3 100 [true, false, true, true, true, false]), (69, qa (.iload 4) 2), (71, qa (.iload_n 3) 1), (72, qa (.iload 5) 2), (74, qc (.invokestatic 281) 3 92 2 1 [0, 2]), (77, qj (.ifCond .eq 7) 3 84 [true, false, true, true, false, true]), (80, qk (.iconst 0) 1 (nI 0)), (81, qj (.goto 10) 3 91 [true, false, true, true, false, true])]),
  (100, [(84, qa (.aload_n 0) 1), (85, qf (.getfield 79) 3 12 34 1), (88, qa (.iload 5) 2), (90, qm [true, false, true, true, false, true] (qa .iaload 1)), (91, qa .iadd 1), (92, qa (.istore 4) 2), (94, qk (.iinc 5 1) 3 (nI 1)), (97, qj (.goto (-37)) 3 60 [true, false, true, true, true, true])]),
  (115, [(100, qa (.iload_n 2) 1), (101, qa (.iload 4) 2), (103, qc (.invokestatic 476) 3 136 2 1 [0, 2]), (106, qa (.istore_n 2) 1), (107, qk (.iinc 3 1) 3 (nI 1)), (110, qj (.goto (-71)) 3 39 [true, false, true, true, false, false]), (113, qa (.iload_n 2) 1), (114, qa .ireturn 1)])]
-- 206 TinStencils$Choosing.weigh(LTinStencils$Sheet;LTinStencils$Sheet;)V
def tb_206 : qz_B := [(12, [(0, qa (.aload_n 0) 1), (1, qf (.getfield 9) 3 1 0 1), (4, qk (.iconst 0) 1 (nI 0)), (5, qc (.invokestatic 37) 3 31 2 0 [2, 4]), (8, qk (.iconst 0) 1 (nI 0)), (9, qm [true, true, true, true, false] (qa (.istore_n 3) 1)), (10, qa (.iload_n 3) 1), (11, qa (.aload_n 1) 1)]),
  (30, [(12, qf (.getfield 60) 3 8 2 0), (15, qj (.if_icmp .ge 59) 3 74 [true, false, false, false, false]), (18, qk (.iconst 0) 1 (nI 0)), (19, qa (.istore 4) 2), (21, qa (.iload 4) 2), (23, qa (.aload_n 1) 1), (24, qf (.getfield 63) 3 8 1 0), (27, qj (.if_icmp .ge 41) 3 68 [true, true, true, true, false])]),
  (43, [(30, qa (.aload_n 0) 1), (31, qf (.getfield 9) 3 1 0 1), (34, qa (.aload_n 1) 1), (35, qa (.iload 4) 2), (37, qa (.iload_n 3) 1), (38, qa (.aload_n 0) 1), (39, qf (.getfield 18) 3 1 2 0), (42, qa (.aload_n 2) 1)]),
  (56, [(43, qc (.invokevirtual 66) 3 180 5 1 [2, 7, 8]), (46, qa .dup2 1), (47, qa .iaload 1), (48, qa (.aload_n 1) 1), (49, qf (.getfield 70) 3 8 8 1), (52, qa (.iload_n 3) 1), (53, qk (.bipush 20) 2 (nI 20)), (55, qa .imul 1)]),
  (71, [(56, qa (.iload 4) 2), (58, qa .iadd 1), (59, qa .iaload 1), (60, qa .iadd 1), (61, qa .iastore 1), (62, qk (.iinc 4 1) 3 (nI 1)), (65, qj (.goto (-44)) 3 21 []), (68, qk (.iinc 3 1) 3 (nI 1))]),
  (85, [(71, qj (.goto (-61)) 3 10 [true, true, true, true, false]), (74, qk (.iconst 1) 1 (nI 1)), (75, qm [true, false, false, true, false] (qa (.istore_n 3) 1)), (76, qa (.iload_n 3) 1), (77, qa (.aload_n 0) 1), (78, qf (.getfield 18) 3 1 2 0), (81, qj (.if_icmp .gt 54) 3 135 [false, false, false, false, false]), (84, qk (.iconst 0) 1 (nI 0))]),
  (100, [(85, qm [true, false, false, true, true] (qa (.istore 4) 2)), (87, qa (.iload 4) 2), (89, qa (.aload_n 0) 1), (90, qf (.getfield 18) 3 1 2 0), (93, qj (.if_icmp .gt 35) 3 128 [true, false, false, true, false]), (96, qa (.iload 4) 2), (98, qa (.iload_n 3) 1), (99, qa .iand 1)]),
  (115, [(100, qj (.ifCond .eq 22) 3 122 [true, false, false, true, true]), (103, qa (.aload_n 0) 1), (104, qf (.getfield 9) 3 1 0 1), (107, qa (.iload 4) 2), (109, qa .dup2 1), (110, qa .iaload 1), (111, qa (.aload_n 0) 1), (112, qf (.getfield 9) 3 1 0 1)]),
  (128, [(115, qa (.iload 4) 2), (117, qa (.iload_n 3) 1), (118, qa .ixor 1), (119, qa .iaload 1), (120, qa .iadd 1), (121, qm [true, false, false, true, true] (qa .iastore 1)), (122, qk (.iinc 4 1) 3 (nI 1)), (125, qj (.goto (-38)) 3 87 [true, false, false, true, true])]),
  (136, [(128, qa (.iload_n 3) 1), (129, qk (.iconst 2) 1 (nI 2)), (130, qa .imul 1), (131, qa (.istore_n 3) 1), (132, qj (.goto (-56)) 3 76 [true, false, false, true, false]), (135, qa .return_ 1)])]
-- 207 TinStencils$Choosing.seenBy(I)I
def tb_207 : qz_B := [(14, [(0, qa (.aload_n 0) 1), (1, qf (.getfield 9) 3 1 0 1), (4, qa (.aload_n 0) 1), (5, qf (.getfield 18) 3 1 2 0), (8, qa .iaload 1), (9, qa (.aload_n 0) 1), (10, qf (.getfield 9) 3 1 0 1), (13, qa (.aload_n 0) 1)]),
  (24, [(14, qf (.getfield 18) 3 1 2 0), (17, qa (.iload_n 1) 1), (18, qk (.iconst (-1)) 1 (-1)), (19, qa .ixor 1), (20, qa .iand 1), (21, qa .iaload 1), (22, qa .isub 1), (23, qa .ireturn 1)])]
-- 208 TinStencils$Choosing.isBetter(II)Z
def tb_208 : qz_B := [(13, [(0, qa (.aload_n 0) 1), (1, qa (.iload_n 1) 1), (2, qc (.invokevirtual 51) 3 207 2 1 [0, 2, 1]), (5, qa (.istore_n 3) 1), (6, qa (.aload_n 0) 1), (7, qa (.iload_n 2) 1), (8, qc (.invokevirtual 51) 3 207 2 1 [0, 2, 1]), (11, qa (.istore 4) 2)]),
  (29, [(13, qa (.iload_n 3) 1), (14, qa (.iload 4) 2), (16, qj (.if_icmp .lt 20) 3 36 [false, false, false, false, false]), (19, qa (.iload_n 3) 1), (20, qa (.iload 4) 2), (22, qj (.if_icmp .ne 18) 3 40 [false, false, false, false, false]), (25, qa (.iload_n 1) 1), (26, qc (.invokestatic 55) 3 62 1 1 [0, 1])]),
  (42, [(29, qa (.iload_n 2) 1), (30, qc (.invokestatic 55) 3 62 1 1 [0, 1]), (33, qm [false, false, false, false, false] (qj (.if_icmp .ge 7) 3 40 [false, false, false, false, false])), (36, qk (.iconst 1) 1 (nI 1)), (37, qj (.goto 4) 3 41 [false, false, false, false, false]), (40, qm [false, false, false, false, false] (qk (.iconst 0) 1 (nI 0))), (41, qf .ireturn 1 0 0 1)])]
-- 209 TinStencils$Choosing.allHangs(ILTinStencils$Sheet;LTinStencils$Hanging;)Z
def tb_209 : qz_B := [(12, [(0, qa (.aload_n 0) 1), (1, qf (.getfield 15) 3 1 1 1), (4, qa (.iload_n 1) 1), (5, qa .iaload 1), (6, qj (.ifCond .ne 27) 3 33 [true, true, false, false]), (9, qa (.aload_n 3) 1), (10, qa (.aload_n 2) 1), (11, qa (.iload_n 1) 1)]),
  (28, [(12, qc (.invokevirtual 77) 3 129 3 0 [3, 6, 3]), (15, qa (.aload_n 0) 1), (16, qf (.getfield 15) 3 1 1 1), (19, qa (.iload_n 1) 1), (20, qa (.aload_n 3) 1), (21, qc (.invokevirtual 83) 3 177 1 1 [2, 3, 3]), (24, qj (.ifCond .ne 7) 3 31 [true, true, false, false]), (27, qk (.iconst 1) 1 (nI 1))]),
  (40, [(28, qj (.goto 4) 3 32 [true, true, false, false]), (31, qm [true, true, false, false] (qk (.iconst 2) 1 (nI 2))), (32, qm [true, true, false, false] (qa .iastore 1)), (33, qa (.aload_n 0) 1), (34, qf (.getfield 15) 3 1 1 1), (37, qa (.iload_n 1) 1), (38, qa .iaload 1), (39, qk (.iconst 1) 1 (nI 1))]),
  (49, [(40, qj (.if_icmp .ne 7) 3 47 [false, false, false, false]), (43, qk (.iconst 1) 1 (nI 1)), (44, qj (.goto 4) 3 48 [false, false, false, false]), (47, qm [false, false, false, false] (qk (.iconst 0) 1 (nI 0))), (48, qf .ireturn 1 0 0 1)])]
-- 210 TinStencils$Choosing.holds(ILTinStencils$Sheet;LTinStencils$Hanging;Z)Z
def tb_210 : qz_B := [(12, [(0, qa (.aload_n 0) 1), (1, qa (.iload_n 1) 1), (2, qa (.aload_n 2) 1), (3, qa (.aload_n 3) 1), (4, qc (.invokevirtual 73) 3 209 4 1 [0, 4, 1]), (7, qj (.ifCond .ne 5) 3 12 [true, true, true, true, true, false]), (10, qk (.iconst 0) 1 (nI 0)), (11, qm [true, true, true, true, true, false] (qf .ireturn 1 0 0 1))]),
  (29, [(12, qk (.iconst 0) 1 (nI 0)), (13, qa (.istore 5) 2), (15, qa (.iload 4) 2), (17, qj (.ifCond .eq 47) 3 64 [false, false, false, false, false, false]), (20, qa (.iload 5) 2), (22, qa (.aload_n 2) 1), (23, qf (.getfield 22) 3 8 9 1), (26, qf (.getfield 28) 3 0 0 0)]),
  (42, [(29, qj (.if_icmp .ge 35) 3 64 [false, false, false, false, false, false]), (32, qa (.iload_n 1) 1), (33, qa (.iload 5) 2), (35, qa .ishr 1), (36, qk (.iconst 1) 1 (nI 1)), (37, qa .iand 1), (38, qj (.ifCond .eq 20) 3 58 []), (41, qa (.aload_n 0) 1)]),
  (53, [(42, qa (.iload_n 1) 1), (43, qk (.iconst 1) 1 (nI 1)), (44, qa (.iload 5) 2), (46, qa .ishl 1), (47, qa .ixor 1), (48, qa (.aload_n 2) 1), (49, qa (.aload_n 3) 1), (50, qc (.invokevirtual 73) 3 209 4 1 [0, 4, 1])]),
  (66, [(53, qj (.ifCond .ne 5) 3 58 []), (56, qk (.iconst 0) 1 (nI 0)), (57, qf .ireturn 1 0 0 1), (58, qk (.iinc 5 1) 3 (nI 1)), (61, qj (.goto (-46)) 3 15 []), (64, qk (.iconst 1) 1 (nI 1)), (65, qf .ireturn 1 0 0 1)])]
-- 211 TinStencils$Choosing.choose(LTinStencils$Sheet;LTinStencils$Sheet;LTinStencils$Hanging;Z)I
def tb_211 : qz_B := [(12, [(0, qa (.aload_n 0) 1), (1, qk (.iconst 1) 1 (nI 1)), (2, qa (.aload_n 1) 1), (3, qf (.getfield 22) 3 8 9 1), (6, qf (.getfield 28) 3 0 0 0), (9, qa .ishl 1), (10, qk (.iconst 1) 1 (nI 1)), (11, qa .isub 1)]),
  (26, [(12, qf (.putfield 18) 3 1 2 0), (15, qa (.aload_n 0) 1), (16, qa (.aload_n 1) 1), (17, qa (.aload_n 2) 1), (18, qc (.invokevirtual 33) 3 206 3 0 [2, 5, 1]), (21, qa (.aload_n 0) 1), (22, qf (.getfield 15) 3 1 1 1), (25, qk (.iconst 0) 1 (nI 0))]),
  (41, [(26, qc (.invokestatic 37) 3 31 2 0 [2, 4]), (29, qk (.iconst (-1)) 1 (-1)), (30, qa (.istore 5) 2), (32, qk (.iconst 0) 1 (nI 0)), (33, qm [true, true, false, true, true, true, true] (qa (.istore 6) 2)), (35, qa (.iload 6) 2), (37, qa (.aload_n 0) 1), (38, qf (.getfield 18) 3 1 2 0)]),
  (58, [(41, qj (.if_icmp .gt 43) 3 84 [false, false, false, false, false, true, false]), (44, qa (.iload 5) 2), (46, qk (.iconst (-1)) 1 (-1)), (47, qj (.if_icmp .eq 14) 3 61 [true, true, false, true, true, true, true]), (50, qa (.aload_n 0) 1), (51, qa (.iload 6) 2), (53, qa (.iload 5) 2), (55, qc (.invokevirtual 43) 3 208 3 1 [2, 5, 1])]),
  (74, [(58, qm [true, true, false, true, true, true, true] (qj (.ifCond .eq 20) 3 78 [true, true, false, true, true, true, true])), (61, qa (.aload_n 0) 1), (62, qa (.iload 6) 2), (64, qa (.aload_n 1) 1), (65, qa (.aload_n 3) 1), (66, qa (.iload 4) 2), (68, qc (.invokevirtual 47) 3 210 5 1 [1, 6, 1]), (71, qj (.ifCond .eq 7) 3 78 [true, true, false, true, true, true, true])]),
  (87, [(74, qa (.iload 6) 2), (76, qm [true, true, false, true, true, true, true] (qa (.istore 5) 2)), (78, qk (.iinc 6 1) 3 (nI 1)), (81, qj (.goto (-46)) 3 35 [true, true, false, true, true, true, true]), (84, qa (.iload 5) 2), (86, qa .ireturn 1)])]
-- 212 TinStencils.choice(IZI)I
def tb_212 : qz_B := [(16, [(0, qa (.aload_n 0) 1), (1, qa (.iload_n 1) 1), (2, qc (.invokevirtual 118) 3 115 2 3 [0, 2, 11]), (5, qa (.astore 4) 2), (7, qa (.aload 4) 2), (9, qj (.ifnull 12) 3 21 [false, false, false, false, false, false]), (12, qa (.iload_n 3) 1), (13, qj (.ifCond .lt 8) 3 21 [false, false, false, false, false, false])]),
  (29, [(16, qa (.iload_n 3) 1), (17, qk (.iconst 2) 1 (nI 2)), (18, qm [false, false, false, false, false, false] (qj (.if_icmp .le 5) 3 23 [true, true, true, true, true, false])), (21, qk (.iconst (-1)) 1 (-1)), (22, qm [true, true, true, true, true, false] (qa .ireturn 1)), (23, qa (.aload_n 0) 1), (24, qf (.getfield 75) 3 11 12 1), (27, qa (.aload 4) 2)]),
  (41, [(29, qa (.aload_n 0) 1), (30, qa (.iload_n 1) 1), (31, qk (.iconst 1) 1 (nI 1)), (32, qa .iadd 1), (33, qc (.invokevirtual 118) 3 115 2 3 [0, 2, 11]), (36, qa (.aload_n 0) 1), (37, qf (.getfield 54) 3 11 9 1), (40, qa (.iload_n 2) 1)]),
  (58, [(41, qc (.invokevirtual 254) 3 211 5 1 [2, 7, 1]), (44, qa (.istore 5) 2), (46, qa (.iload 5) 2), (48, qk (.iconst (-1)) 1 (-1)), (49, qj (.if_icmp .eq 7) 3 56 [false, false, false, false, false, true]), (52, qa (.iload_n 3) 1), (53, qm [false, false, false, false, false, true] (qj (.ifCond .ne 6) 3 59 [true, false, false, true, false, true])), (56, qa (.iload 5) 2)]),
  (73, [(58, qm [true, false, false, true, false, true] (qa .ireturn 1)), (59, qa (.iload_n 3) 1), (60, qk (.iconst 1) 1 (nI 1)), (61, qj (.if_icmp .ne 15) 3 76 [false, false, false, false, false, true]), (64, qa (.aload_n 0) 1), (65, qf (.getfield 75) 3 11 12 1), (68, qa (.iload 5) 2), (70, qc (.invokevirtual 258) 3 207 2 1 [0, 2, 1])]),
  (82, [(73, qj (.goto 8) 3 81 [false, false, false, false, false, false]), (76, qa (.iload 5) 2), (78, qm [false, false, false, false, false, false] (qc (.invokestatic 261) 3 62 1 1 [0, 1])), (81, qa .ireturn 1)])]
-- 213 TinStencilsModel.all(I)I
def tb_213 : qz_B := [(11, [(0, qk (.iconst 1) 1 (nI 1)), (1, qa (.aload_n 0) 1), (2, qf (.getfield 17) 3 12 2 1), (5, qk (.bipush 16) 2 (nI 16)), (7, qa (.iload_n 1) 1), (8, qa .imul 1), (9, qk (.iconst 4) 1 (nI 4)), (10, qa .iadd 1)]),
  (16, [(11, qa .iaload 1), (12, qa .ishl 1), (13, qk (.iconst 1) 1 (nI 1)), (14, qa .isub 1), (15, qa .ireturn 1)])]
-- 214 TinStencilsModel.isTwice(I)Z
def tb_214 : qz_B := [(11, [(0, qk (.iconst 1) 1 (nI 1)), (1, qa (.istore_n 2) 1), (2, qk (.iconst 0) 1 (nI 0)), (3, qa (.istore_n 3) 1), (4, qa (.iload_n 3) 1), (5, qk (.bipush 12) 2 (nI 12)), (7, qj (.if_icmp .ge 43) 3 50 [false, false, true, false]), (10, qa (.iload_n 2) 1)]),
  (27, [(11, qj (.ifCond .eq 31) 3 42 [true, true, false, true]), (14, qa (.iload_n 1) 1), (15, qa (.iload_n 3) 1), (16, qc (.invokestatic 281) 3 92 2 1 [0, 2]), (19, qj (.ifCond .eq 19) 3 38 [true, true, false, true]), (22, qa (.aload_n 0) 1), (23, qf (.getfield 91) 3 12 42 1), (26, qa (.iload_n 1) 1)]),
  (35, [(27, qk (.iconst 1) 1 (nI 1)), (28, qa (.iload_n 3) 1), (29, qa .ishl 1), (30, qk (.iconst (-1)) 1 (-1)), (31, qa .ixor 1), (32, qa .iand 1), (33, qa .iaload 1), (34, qk (.iconst 1) 1 (nI 1))]),
  (51, [(35, qm [true, true, false, true] (qj (.if_icmp .ne 7) 3 42 [true, true, false, true])), (38, qk (.iconst 1) 1 (nI 1)), (39, qj (.goto 4) 3 43 [true, true, false, true]), (42, qm [true, true, false, true] (qk (.iconst 0) 1 (nI 0))), (43, qa (.istore_n 2) 1), (44, qk (.iinc 3 1) 3 (nI 1)), (47, qj (.goto (-43)) 3 4 []), (50, qa (.iload_n 2) 1)]),
  (52, [(51, qf .ireturn 1 0 0 1)])]
-- 215 TinStencilsModel.choice(IZI)I
def tb_215 : qz_B := [(14, [(0, qa (.aload_n 0) 1), (1, qa (.iload_n 1) 1), (2, qc (.invokevirtual 402) 3 120 2 1 [0, 2, 12]), (5, qj (.ifCond .eq 12) 3 17 [false, false, false, false, false, false, false, false]), (8, qa (.iload_n 3) 1), (9, qk (.iconst 0) 1 (nI 0)), (10, qk (.iconst 2) 1 (nI 2)), (11, qc (.invokestatic 156) 3 72 3 1 [0, 3])]),
  (26, [(14, qm [false, false, false, false, false, false, false, false] (qj (.ifCond .ne 5) 3 19 [true, true, true, true, false, false, false, false])), (17, qk (.iconst (-1)) 1 (-1)), (18, qm [true, true, true, true, false, false, false, false] (qa .ireturn 1)), (19, qk (.iconst (-1)) 1 (-1)), (20, qa (.istore 4) 2), (22, qk (.iconst 0) 1 (nI 0)), (23, qa (.istore 5) 2), (25, qk (.iconst 0) 1 (nI 0))]),
  (42, [(26, qm [true, true, true, true, true, true, true, false] (qa (.istore 6) 2)), (28, qa (.iload 6) 2), (30, qa (.aload_n 0) 1), (31, qa (.iload_n 1) 1), (32, qc (.invokevirtual 456) 3 213 2 1 [0, 2, 12]), (35, qj (.if_icmp .gt 105) 3 140 [false, false, false, true, true, true, false, false]), (38, qa (.aload_n 0) 1), (39, qf (.getfield 91) 3 12 42 1)]),
  (56, [(42, qa (.iload 6) 2), (44, qa (.aload_n 0) 1), (45, qa (.iload_n 1) 1), (46, qa (.iload 6) 2), (48, qc (.invokevirtual 450) 3 183 3 1 [0, 3, 12]), (51, qc (.invokestatic 319) 3 104 1 1 [0, 1]), (54, qa .iastore 1), (55, qa (.aload_n 0) 1)]),
  (72, [(56, qf (.getfield 91) 3 12 42 1), (59, qa (.iload 6) 2), (61, qa .iaload 1), (62, qj (.ifCond .eq 72) 3 134 [true, true, true, true, true, true, true, false]), (65, qa (.iload_n 2) 1), (66, qj (.ifCond .eq 15) 3 81 [true, true, true, true, true, true, true, false]), (69, qa (.aload_n 0) 1), (70, qa (.iload 6) 2)]),
  (90, [(72, qc (.invokevirtual 459) 3 214 2 1 [2, 4, 12]), (75, qj (.ifCond .ne 6) 3 81 [true, true, true, true, true, true, true, false]), (78, qj (.goto 56) 3 134 [true, true, true, true, true, true, true, false]), (81, qa (.aload_n 0) 1), (82, qa (.iload_n 1) 1), (83, qa (.iload 6) 2), (85, qc (.invokevirtual 453) 3 186 3 1 [5, 8, 12]), (88, qa (.istore 7) 2)]),
  (107, [(90, qa (.iload 4) 2), (92, qk (.iconst (-1)) 1 (-1)), (93, qj (.if_icmp .eq 33) 3 126 [true, true, true, true, false, false, true, true]), (96, qa (.iload 7) 2), (98, qa (.iload 5) 2), (100, qj (.if_icmp .gt 34) 3 134 [true, true, true, true, true, true, true, false]), (103, qa (.iload 7) 2), (105, qa (.iload 5) 2)]),
  (128, [(107, qj (.if_icmp .ne 19) 3 126 [true, true, true, true, false, false, true, true]), (110, qa (.iload 6) 2), (112, qc (.invokestatic 462) 3 199 1 1 [2, 3]), (115, qa (.iload 4) 2), (117, qc (.invokestatic 462) 3 199 1 1 [2, 3]), (120, qj (.if_icmp .lt 6) 3 126 [true, true, true, true, false, false, true, true]), (123, qj (.goto 11) 3 134 [true, true, true, true, true, true, true, false]), (126, qa (.iload 6) 2)]),
  (146, [(128, qa (.istore 4) 2), (130, qa (.iload 7) 2), (132, qm [true, true, true, true, true, true, true, false] (qa (.istore 5) 2)), (134, qk (.iinc 6 1) 3 (nI 1)), (137, qj (.goto (-109)) 3 28 [true, true, true, true, true, true, true, false]), (140, qa (.iload 4) 2), (142, qk (.iconst (-1)) 1 (-1)), (143, qj (.if_icmp .ne 7) 3 150 [false, false, false, true, true, true, false, false])]),
  (161, [(146, qk (.iconst (-1)) 1 (-1)), (147, qj (.goto 27) 3 174 [false, false, false, false, false, false, false, false]), (150, qa (.iload_n 3) 1), (151, qj (.ifCond .ne 8) 3 159 [false, false, false, true, true, true, false, false]), (154, qa (.iload 4) 2), (156, qj (.goto 18) 3 174 [false, false, false, false, false, false, false, false]), (159, qa (.iload_n 3) 1), (160, qk (.iconst 1) 1 (nI 1))]),
  (175, [(161, qj (.if_icmp .ne 8) 3 169 [false, false, false, false, true, false, false, false]), (164, qa (.iload 5) 2), (166, qj (.goto 8) 3 174 [false, false, false, false, false, false, false, false]), (169, qa (.iload 4) 2), (171, qm [false, false, false, false, false, false, false, false] (qc (.invokestatic 462) 3 199 1 1 [2, 3])), (174, qa .ireturn 1)])]
-- 216 TinStencils$Sheet.isTin(II)Z
def tb_216 : qz_B := [(12, [(0, qa (.aload_n 0) 1), (1, qa (.iload_n 1) 1), (2, qa (.iload_n 2) 1), (3, qc (.invokevirtual 79) 3 46 3 1 [0, 3, 8]), (6, qj (.ifCond .eq 26) 3 32 [false, false, false]), (9, qa (.aload_n 0) 1), (10, qa (.iload_n 2) 1), (11, qa (.aload_n 0) 1)]),
  (28, [(12, qf (.getfield 44) 3 8 9 1), (15, qf (.getfield 93) 3 0 1 0), (18, qc (.invokevirtual 96) 3 117 3 1 [2, 5, 8]), (21, qa (.iload_n 1) 1), (22, qa .ishr 1), (23, qk (.iconst 1) 1 (nI 1)), (24, qa .iand 1), (25, qj (.ifCond .eq 7) 3 32 [false, false, false])]),
  (34, [(28, qk (.iconst 1) 1 (nI 1)), (29, qj (.goto 4) 3 33 [false, false, false]), (32, qm [false, false, false] (qk (.iconst 0) 1 (nI 0))), (33, qf .ireturn 1 0 0 1)])]
-- 217 TinStencils.walkFrom(LTinStencils$Sheet;II)V
def tb_217 : qz_B := [(16, [(0, qa (.aload_n 0) 1), (1, qf (.getfield 54) 3 11 9 1), (4, qa (.aload_n 1) 1), (5, qa (.aload_n 1) 1), (6, qf (.getfield 131) 3 8 9 1), (9, qf (.getfield 140) 3 0 1 0), (12, qc (.invokevirtual 170) 3 129 3 0 [3, 6, 3]), (15, qa (.aload_n 0) 1)]),
  (30, [(16, qf (.getfield 93) 3 11 15 1), (19, qk (.iconst 0) 1 (nI 0)), (20, qc (.invokestatic 351) 3 31 2 0 [2, 4]), (23, qa (.aload_n 0) 1), (24, qf (.getfield 93) 3 11 15 1), (27, qa (.iload_n 3) 1), (28, qk (.iconst 1) 1 (nI 1)), (29, qa (.iload_n 2) 1)]),
  (44, [(30, qa .ishl 1), (31, qa .iastore 1), (32, qa (.aload_n 0) 1), (33, qf (.getfield 54) 3 11 9 1), (36, qa (.aload_n 0) 1), (37, qf (.getfield 54) 3 11 9 1), (40, qf (.getfield 193) 3 3 0 1), (43, qa (.aload_n 0) 1)]),
  (51, [(44, qf (.getfield 93) 3 11 15 1), (47, qc (.invokevirtual 347) 3 139 3 0 [1, 4, 3]), (50, qa .return_ 1)])]
-- 218 TinStencils.sagOf(LTinStencils$Sheet;II)I
def tb_218 : qz_B := [(12, [(0, qa (.aload_n 0) 1), (1, qa (.aload_n 1) 1), (2, qa (.iload_n 2) 1), (3, qa (.iload_n 3) 1), (4, qc (.invokevirtual 357) 3 217 4 0 [0, 4, 11]), (7, qa (.aload_n 0) 1), (8, qf (.getfield 54) 3 11 9 1), (11, qa (.iload_n 3) 1)]),
  (21, [(12, qk (.bipush 20) 2 (nI 20)), (14, qa .imul 1), (15, qa (.iload_n 2) 1), (16, qa .iadd 1), (17, qc (.invokevirtual 206) 3 163 2 1 [2, 4, 3]), (20, qa .ireturn 1)])]
-- 219 TinStencils.sagsAbove(LTinStencils$Sheet;III)I
def tb_219 : qz_B := [(13, [(0, qa (.aload_n 0) 1), (1, qa (.aload_n 1) 1), (2, qa (.iload_n 2) 1), (3, qa (.iload_n 3) 1), (4, qc (.invokevirtual 357) 3 217 4 0 [0, 4, 11]), (7, qa (.aload_n 0) 1), (8, qf (.getfield 54) 3 11 9 1), (11, qa (.iload 4) 2)]),
  (26, [(13, qk (.iconst 0) 1 (nI 0)), (14, qc (.invokestatic 361) 3 162 2 1 [0, 2]), (17, qa (.iload_n 3) 1), (18, qk (.bipush 20) 2 (nI 20)), (20, qa .imul 1), (21, qa (.iload_n 2) 1), (22, qa .iadd 1), (23, qc (.invokevirtual 203) 3 161 3 1 [2, 5, 3])]),
  (27, [(26, qa .ireturn 1)])]
-- 220 TinStencils.sag(IIIII)I
def tb_220 : qz_B := [(15, [(0, qa (.aload_n 0) 1), (1, qa (.iload_n 1) 1), (2, qc (.invokevirtual 118) 3 115 2 3 [0, 2, 11]), (5, qa (.astore 6) 2), (7, qa (.aload 6) 2), (9, qj (.ifnull 24) 3 33 [false, false, false, false, false, false, false]), (12, qa (.aload 6) 2), (14, qa (.iload_n 2) 1)]),
  (33, [(15, qa (.iload_n 3) 1), (16, qc (.invokevirtual 266) 3 216 3 1 [0, 3, 8]), (19, qj (.ifCond .eq 14) 3 33 [false, false, false, false, false, false, false]), (22, qa (.iload 5) 2), (24, qj (.ifCond .lt 9) 3 33 [false, false, false, false, false, false, false]), (27, qa (.iload 5) 2), (29, qk (.iconst 1) 1 (nI 1)), (30, qm [false, false, false, false, false, false, false] (qj (.if_icmp .le 5) 3 35 [true, false, true, true, true, true, true]))]),
  (45, [(33, qk (.iconst (-1)) 1 (-1)), (34, qm [true, false, true, true, true, true, true] (qa .ireturn 1)), (35, qa (.iload 5) 2), (37, qj (.ifCond .ne 14) 3 51 [true, false, true, true, true, false, true]), (40, qa (.aload_n 0) 1), (41, qa (.aload 6) 2), (43, qa (.iload_n 2) 1), (44, qa (.iload_n 3) 1)]),
  (61, [(45, qc (.invokevirtual 269) 3 218 4 1 [0, 4, 11]), (48, qj (.goto 13) 3 61 [false, false, false, false, false, false, false]), (51, qa (.aload_n 0) 1), (52, qa (.aload 6) 2), (54, qa (.iload_n 2) 1), (55, qa (.iload_n 3) 1), (56, qa (.iload 4) 2), (58, qm [false, false, false, false, false, false, false] (qc (.invokevirtual 273) 3 219 5 1 [0, 5, 11]))]),
  (62, [(61, qa .ireturn 1)])]
-- 221 TinStencilsModel.isHeldBy(III)Z
def tb_221 : qz_B := [(12, [(0, qa (.aload_n 0) 1), (1, qa (.iload_n 1) 1), (2, qa (.iload_n 2) 1), (3, qa (.iload_n 3) 1), (4, qc (.invokevirtual 288) 3 94 4 1 [0, 4, 12]), (7, qj (.ifCond .ne 5) 3 12 []), (10, qk (.iconst 0) 1 (nI 0)), (11, qf .ireturn 1 0 0 1)]),
  (26, [(12, qa (.aload_n 0) 1), (13, qa (.iload_n 1) 1), (14, qa (.aload_n 0) 1), (15, qa (.iload_n 1) 1), (16, qc (.invokevirtual 405) 3 121 2 1 [0, 2, 12]), (19, qc (.invokevirtual 383) 3 123 3 0 [1, 4, 12]), (22, qa (.aload_n 0) 1), (23, qf (.getfield 64) 3 12 29 1)]),
  (37, [(26, qk (.bipush 20) 2 (nI 20)), (28, qa (.iload_n 3) 1), (29, qa .imul 1), (30, qa (.iload_n 2) 1), (31, qa .iadd 1), (32, qa .iaload 1), (33, qk (.iconst 1) 1 (nI 1)), (34, qj (.if_icmp .ne 7) 3 41 [false, false, false, false])]),
  (43, [(37, qk (.iconst 1) 1 (nI 1)), (38, qj (.goto 4) 3 42 [false, false, false, false]), (41, qm [false, false, false, false] (qk (.iconst 0) 1 (nI 0))), (42, qf .ireturn 1 0 0 1)])]
-- 222 TinStencilsModel.sag(IIIII)I
def tb_222 : qz_B := [(15, [(0, qa (.aload_n 0) 1), (1, qa (.iload_n 1) 1), (2, qc (.invokevirtual 402) 3 120 2 1 [0, 2, 12]), (5, qj (.ifCond .eq 23) 3 28 [false, false, false, false, false, false]), (8, qa (.iload 5) 2), (10, qk (.iconst 0) 1 (nI 0)), (11, qk (.iconst 1) 1 (nI 1)), (12, qc (.invokestatic 156) 3 72 3 1 [0, 3])]),
  (29, [(15, qj (.ifCond .eq 13) 3 28 [false, false, false, false, false, false]), (18, qa (.aload_n 0) 1), (19, qa (.iload_n 1) 1), (20, qa (.iload_n 2) 1), (21, qa (.iload_n 3) 1), (22, qc (.invokevirtual 468) 3 221 4 1 [0, 4, 12]), (25, qm [false, false, false, false, false, false] (qj (.ifCond .ne 5) 3 30 [])), (28, qk (.iconst (-1)) 1 (-1))]),
  (38, [(29, qa .ireturn 1), (30, qa (.aload_n 0) 1), (31, qa (.iload_n 1) 1), (32, qk (.bipush 20) 2 (nI 20)), (34, qa (.iload_n 3) 1), (35, qa .imul 1), (36, qa (.iload_n 2) 1), (37, qa .iadd 1)]),
  (56, [(38, qa (.iload 4) 2), (40, qc (.invokevirtual 435) 3 165 4 0 [3, 7, 12]), (43, qa (.iload 5) 2), (45, qj (.ifCond .ne 10) 3 55 [true, false, false, false, false, false]), (48, qa (.aload_n 0) 1), (49, qf (.getfield 424) 3 12 40 0), (52, qj (.goto 7) 3 59 [false, false, false, false, false, false]), (55, qa (.aload_n 0) 1)]),
  (60, [(56, qm [false, false, false, false, false, false] (qf (.getfield 427) 3 12 41 0)), (59, qa .ireturn 1)])]
-- 223 TinStencils.corner(I)I
def tb_223 : qz_B := [(12, [(0, qa (.aload_n 0) 1), (1, qa (.iload_n 1) 1), (2, qc (.invokevirtual 118) 3 115 2 3 [0, 2, 11]), (5, qa (.astore_n 2) 1), (6, qa (.aload_n 2) 1), (7, qj (.ifnonnull 5) 3 12 [true, false, true, false, false, false, false, false, false]), (10, qk (.iconst (-1)) 1 (-1)), (11, qm [true, false, true, false, false, false, false, false, false] (qa .ireturn 1))]),
  (23, [(12, qk (.iconst (-1)) 1 (-1)), (13, qa (.istore_n 3) 1), (14, qk (.iconst 0) 1 (nI 0)), (15, qa (.istore 4) 2), (17, qk (.iconst 0) 1 (nI 0)), (18, qm [true, false, true, true, true, true, false, false, false] (qa (.istore 5) 2)), (20, qa (.iload 5) 2), (22, qk (.iconst 4) 1 (nI 4))]),
  (39, [(23, qj (.if_icmp .ge 92) 3 115 [false, false, false, true, false, false, false, false, false]), (26, qa (.iload 5) 2), (28, qk (.iconst 1) 1 (nI 1)), (29, qj (.if_icmp .eq 9) 3 38 [true, false, true, true, true, true, false, false, false]), (32, qa (.iload 5) 2), (34, qk (.iconst 2) 1 (nI 2)), (35, qm [true, false, true, true, true, true, false, false, false] (qj (.if_icmp .ne 12) 3 47 [true, false, true, true, true, true, false, false, false])), (38, qa (.aload_n 2) 1)]),
  (53, [(39, qf (.getfield 122) 3 8 1 0), (42, qk (.iconst 1) 1 (nI 1)), (43, qa .isub 1), (44, qj (.goto 4) 3 48 [true, false, true, true, true, true, false, false, false]), (47, qm [true, false, true, true, true, true, false, false, false] (qk (.iconst 0) 1 (nI 0))), (48, qa (.istore 6) 2), (50, qa (.iload 5) 2), (52, qk (.iconst 2) 1 (nI 2))]),
  (68, [(53, qj (.if_icmp .lt 12) 3 65 [true, false, true, true, true, true, true, false, false]), (56, qa (.aload_n 2) 1), (57, qf (.getfield 125) 3 8 2 0), (60, qk (.iconst 1) 1 (nI 1)), (61, qa .isub 1), (62, qj (.goto 4) 3 66 [true, false, true, true, true, true, true, false, false]), (65, qm [true, false, true, true, true, true, true, false, false] (qk (.iconst 0) 1 (nI 0))), (66, qa (.istore 7) 2)]),
  (83, [(68, qa (.aload_n 2) 1), (69, qa (.iload 6) 2), (71, qa (.iload 7) 2), (73, qc (.invokevirtual 266) 3 216 3 1 [0, 3, 8]), (76, qj (.ifCond .eq 33) 3 109 [true, false, true, true, true, true, false, false, false]), (79, qa (.aload_n 0) 1), (80, qa (.aload_n 2) 1), (81, qa (.iload 6) 2)]),
  (99, [(83, qa (.iload 7) 2), (85, qc (.invokevirtual 269) 3 218 4 1 [0, 4, 11]), (88, qa (.istore 8) 2), (90, qa (.iload_n 3) 1), (91, qk (.iconst (-1)) 1 (-1)), (92, qj (.if_icmp .eq 10) 3 102 [true, false, true, false, false, true, false, false, true]), (95, qa (.iload 8) 2), (97, qa (.iload 4) 2)]),
  (116, [(99, qm [true, false, true, false, false, true, false, false, true] (qj (.if_icmp .ge 10) 3 109 [true, false, true, true, true, true, false, false, false])), (102, qa (.iload 5) 2), (104, qa (.istore_n 3) 1), (105, qa (.iload 8) 2), (107, qm [true, false, true, true, true, true, false, false, false] (qa (.istore 4) 2)), (109, qk (.iinc 5 1) 3 (nI 1)), (112, qj (.goto (-92)) 3 20 [true, false, true, true, true, true, false, false, false]), (115, qa (.iload_n 3) 1)]),
  (117, [(116, qa .ireturn 1)])]
-- 224 TinStencilsModel.corner(I)I
def tb_224 : qz_B := [(12, [(0, qa (.aload_n 0) 1), (1, qa (.iload_n 1) 1), (2, qc (.invokevirtual 402) 3 120 2 1 [0, 2, 12]), (5, qj (.ifCond .ne 5) 3 10 [true, true, false, false, false, false, false, false]), (8, qk (.iconst (-1)) 1 (-1)), (9, qm [true, true, false, false, false, false, false, false] (qa .ireturn 1)), (10, qk (.iconst (-1)) 1 (-1)), (11, qa (.istore_n 2) 1)]),
  (25, [(12, qk (.iconst 0) 1 (nI 0)), (13, qa (.istore_n 3) 1), (14, qk (.iconst 0) 1 (nI 0)), (15, qm [true, true, true, true, true, false, false, false] (qa (.istore 4) 2)), (17, qa (.iload 4) 2), (19, qk (.iconst 4) 1 (nI 4)), (20, qj (.if_icmp .ge 92) 3 112 [false, false, true, false, false, false, false, false]), (23, qa (.iload 4) 2)]),
  (40, [(25, qk (.iconst 1) 1 (nI 1)), (26, qj (.if_icmp .eq 9) 3 35 [true, true, true, true, true, false, false, false]), (29, qa (.iload 4) 2), (31, qk (.iconst 2) 1 (nI 2)), (32, qm [true, true, true, true, true, false, false, false] (qj (.if_icmp .ne 13) 3 45 [true, true, true, true, true, false, false, false])), (35, qa (.aload_n 0) 1), (36, qa (.iload_n 1) 1), (37, qc (.invokevirtual 152) 3 82 2 1 [0, 2, 12])]),
  (54, [(40, qk (.iconst 1) 1 (nI 1)), (41, qa .isub 1), (42, qj (.goto 4) 3 46 [true, true, true, true, true, false, false, false]), (45, qm [true, true, true, true, true, false, false, false] (qk (.iconst 0) 1 (nI 0))), (46, qa (.istore 5) 2), (48, qa (.iload 4) 2), (50, qk (.iconst 1) 1 (nI 1)), (51, qj (.if_icmp .le 13) 3 64 [true, true, true, true, true, true, false, false])]),
  (67, [(54, qa (.aload_n 0) 1), (55, qa (.iload_n 1) 1), (56, qc (.invokevirtual 160) 3 81 2 1 [0, 2, 12]), (59, qk (.iconst 1) 1 (nI 1)), (60, qa .isub 1), (61, qj (.goto 4) 3 65 [true, true, true, true, true, true, false, false]), (64, qm [true, true, true, true, true, true, false, false] (qk (.iconst 0) 1 (nI 0))), (65, qa (.istore 6) 2)]),
  (80, [(67, qa (.aload_n 0) 1), (68, qa (.iload_n 1) 1), (69, qa (.iload 5) 2), (71, qa (.iload 6) 2), (73, qk (.iconst 0) 1 (nI 0)), (74, qk (.iconst 0) 1 (nI 0)), (75, qc (.invokevirtual 471) 3 222 6 1 [0, 6, 12]), (78, qa (.istore 7) 2)]),
  (94, [(80, qa (.iload 7) 2), (82, qk (.iconst (-1)) 1 (-1)), (83, qj (.if_icmp .eq 23) 3 106 [true, true, true, true, true, false, false, false]), (86, qa (.iload_n 2) 1), (87, qk (.iconst (-1)) 1 (-1)), (88, qj (.if_icmp .eq 12) 3 100 [true, true, false, false, true, false, false, true]), (91, qa (.iload 7) 2), (93, qa (.iload_n 3) 1)]),
  (112, [(94, qj (.if_icmp .lt 6) 3 100 [true, true, false, false, true, false, false, true]), (97, qj (.goto 9) 3 106 [true, true, true, true, true, false, false, false]), (100, qa (.iload 4) 2), (102, qa (.istore_n 2) 1), (103, qa (.iload 7) 2), (105, qm [true, true, true, true, true, false, false, false] (qa (.istore_n 3) 1)), (106, qk (.iinc 4 1) 3 (nI 1)), (109, qj (.goto (-92)) 3 17 [true, true, true, true, true, false, false, false])]),
  (114, [(112, qa (.iload_n 2) 1), (113, qa .ireturn 1)])]
-- 225 TinStencils$Bridges.leastLasting()I
def tb_225 : qz_B := [(12, [(0, qk (.iconst (-1)) 1 (-1)), (1, qa (.istore_n 1) 1), (2, qk (.iconst 0) 1 (nI 0)), (3, qa (.istore_n 2) 1), (4, qa (.iload_n 2) 1), (5, qa (.aload_n 0) 1), (6, qf (.getfield 9) 3 0 0 0), (9, qj (.if_icmp .ge 42) 3 51 [false, true, false])]),
  (24, [(12, qa (.aload_n 0) 1), (13, qf (.getfield 15) 3 0 1 0), (16, qa (.iload_n 2) 1), (17, qa .ishr 1), (18, qk (.iconst 1) 1 (nI 1)), (19, qa .iand 1), (20, qj (.ifCond .eq 25) 3 45 []), (23, qa (.iload_n 1) 1)]),
  (38, [(24, qk (.iconst (-1)) 1 (-1)), (25, qj (.if_icmp .eq 18) 3 43 [true, false, true]), (28, qa (.aload_n 0) 1), (29, qf (.getfield 25) 3 0 4 1), (32, qa (.iload_n 2) 1), (33, qa .iaload 1), (34, qa (.aload_n 0) 1), (35, qf (.getfield 25) 3 0 4 1)]),
  (52, [(38, qa (.iload_n 1) 1), (39, qa .iaload 1), (40, qm [true, false, true] (qj (.if_icmp .ge 5) 3 45 [])), (43, qa (.iload_n 2) 1), (44, qa (.istore_n 1) 1), (45, qk (.iinc 2 1) 3 (nI 1)), (48, qj (.goto (-44)) 3 4 []), (51, qa (.iload_n 1) 1)]),
  (53, [(52, qa .ireturn 1)])]
-- 226 TinStencils.first(I)I
def tb_226 : qz_B := [(14, [(0, qa (.aload_n 0) 1), (1, qa (.iload_n 1) 1), (2, qc (.invokevirtual 118) 3 115 2 3 [0, 2, 11]), (5, qa (.astore_n 2) 1), (6, qa (.aload_n 2) 1), (7, qj (.ifnonnull 7) 3 14 [false, false, true]), (10, qk (.iconst (-1)) 1 (-1)), (11, qj (.goto 10) 3 21 [false, false, false])]),
  (22, [(14, qa (.aload_n 2) 1), (15, qf (.getfield 131) 3 8 9 1), (18, qm [false, false, false] (qc (.invokevirtual 277) 3 225 1 1 [2, 3, 0])), (21, qa .ireturn 1)])]
-- 227 TinStencilsModel.first(I)I
def tb_227 : qz_B := [(12, [(0, qa (.aload_n 0) 1), (1, qa (.iload_n 1) 1), (2, qc (.invokevirtual 402) 3 120 2 1 [0, 2, 12]), (5, qj (.ifCond .ne 5) 3 10 [true, true, false, false]), (8, qk (.iconst (-1)) 1 (-1)), (9, qm [true, true, false, false] (qa .ireturn 1)), (10, qk (.iconst (-1)) 1 (-1)), (11, qa (.istore_n 2) 1)]),
  (25, [(12, qk (.iconst 0) 1 (nI 0)), (13, qa (.istore_n 3) 1), (14, qa (.iload_n 3) 1), (15, qk (.bipush 12) 2 (nI 12)), (17, qj (.if_icmp .ge 53) 3 70 [false, false, true, false]), (20, qa (.aload_n 0) 1), (21, qa (.iload_n 1) 1), (22, qc (.invokevirtual 405) 3 121 2 1 [0, 2, 12])]),
  (41, [(25, qa (.iload_n 3) 1), (26, qc (.invokestatic 281) 3 92 2 1 [0, 2]), (29, qj (.ifCond .eq 35) 3 64 []), (32, qa (.iload_n 2) 1), (33, qk (.iconst (-1)) 1 (-1)), (34, qj (.if_icmp .eq 28) 3 62 [true, true, false, true]), (37, qa (.aload_n 0) 1), (38, qf (.getfield 47) 3 12 12 1)]),
  (52, [(41, qk (.bipush 12) 2 (nI 12)), (43, qa (.iload_n 1) 1), (44, qa .imul 1), (45, qa (.iload_n 3) 1), (46, qa .iadd 1), (47, qa .iaload 1), (48, qa (.aload_n 0) 1), (49, qf (.getfield 47) 3 12 12 1)]),
  (63, [(52, qk (.bipush 12) 2 (nI 12)), (54, qa (.iload_n 1) 1), (55, qa .imul 1), (56, qa (.iload_n 2) 1), (57, qa .iadd 1), (58, qa .iaload 1), (59, qm [true, true, false, true] (qj (.if_icmp .ge 5) 3 64 [])), (62, qa (.iload_n 3) 1)]),
  (72, [(63, qa (.istore_n 2) 1), (64, qk (.iinc 3 1) 3 (nI 1)), (67, qj (.goto (-53)) 3 14 []), (70, qa (.iload_n 2) 1), (71, qa .ireturn 1)])]
-- 228 TinStencils.spoilt(II)I
def tb_228 : qz_B := [(14, [(0, qa (.aload_n 0) 1), (1, qa (.iload_n 1) 1), (2, qc (.invokevirtual 118) 3 115 2 3 [0, 2, 11]), (5, qa (.astore_n 3) 1), (6, qa (.aload_n 3) 1), (7, qj (.ifnull 28) 3 35 [false, false, false, false, false]), (10, qa (.aload_n 3) 1), (11, qf (.getfield 131) 3 8 9 1)]),
  (30, [(14, qa (.iload_n 2) 1), (15, qc (.invokevirtual 213) 3 170 2 1 [0, 2, 0]), (18, qj (.ifCond .eq 17) 3 35 [false, false, false, false, false]), (21, qa (.aload_n 3) 1), (22, qf (.getfield 131) 3 8 9 1), (25, qf (.getfield 140) 3 0 1 0), (28, qa (.iload_n 2) 1), (29, qa .ishr 1)]),
  (42, [(30, qk (.iconst 1) 1 (nI 1)), (31, qa .iand 1), (32, qm [false, false, false, false, false] (qj (.ifCond .ne 5) 3 37 [true, false, true, true, false])), (35, qk (.iconst (-1)) 1 (-1)), (36, qm [true, false, true, true, false] (qa .ireturn 1)), (37, qa (.aload_n 0) 1), (38, qf (.getfield 54) 3 11 9 1), (41, qa (.aload_n 3) 1)]),
  (61, [(42, qa (.aload_n 3) 1), (43, qf (.getfield 131) 3 8 9 1), (46, qf (.getfield 140) 3 0 1 0), (49, qc (.invokevirtual 170) 3 129 3 0 [3, 6, 3]), (52, qa (.aload_n 0) 1), (53, qf (.getfield 54) 3 11 9 1), (56, qc (.invokevirtual 229) 3 177 1 1 [2, 3, 3]), (59, qa (.istore 4) 2)]),
  (75, [(61, qa (.aload_n 0) 1), (62, qf (.getfield 54) 3 11 9 1), (65, qa (.aload_n 3) 1), (66, qa (.aload_n 3) 1), (67, qf (.getfield 131) 3 8 9 1), (70, qf (.getfield 140) 3 0 1 0), (73, qk (.iconst 1) 1 (nI 1)), (74, qa (.iload_n 2) 1)]),
  (89, [(75, qa .ishl 1), (76, qk (.iconst (-1)) 1 (-1)), (77, qa .ixor 1), (78, qa .iand 1), (79, qc (.invokevirtual 170) 3 129 3 0 [3, 6, 3]), (82, qa (.aload_n 0) 1), (83, qf (.getfield 54) 3 11 9 1), (86, qc (.invokevirtual 229) 3 177 1 1 [2, 3, 3])]),
  (93, [(89, qa (.iload 4) 2), (91, qa .isub 1), (92, qa .ireturn 1)])]
-- 229 TinStencilsModel.falling(II)I
def tb_229 : qz_B := [(12, [(0, qa (.aload_n 0) 1), (1, qa (.iload_n 1) 1), (2, qa (.iload_n 2) 1), (3, qc (.invokevirtual 383) 3 123 3 0 [1, 4, 12]), (6, qa (.aload_n 0) 1), (7, qc (.invokevirtual 389) 3 124 1 1 [2, 3, 12]), (10, qa (.istore_n 3) 1), (11, qa (.iload_n 3) 1)]),
  (21, [(12, qa (.aload_n 0) 1), (13, qa (.iload_n 1) 1), (14, qk (.iconst (-1)) 1 (-1)), (15, qk (.iconst (-1)) 1 (-1)), (16, qc (.invokevirtual 386) 3 146 4 1 [2, 6, 12]), (19, qa .isub 1), (20, qa .ireturn 1)])]
-- 230 TinStencilsModel.spoilt(II)I
def tb_230 : qz_B := [(14, [(0, qa (.aload_n 0) 1), (1, qa (.iload_n 1) 1), (2, qa (.iload_n 2) 1), (3, qc (.invokevirtual 441) 3 173 3 1 [0, 3, 12]), (6, qj (.ifCond .eq 45) 3 51 [false, false, false]), (9, qa (.aload_n 0) 1), (10, qa (.iload_n 1) 1), (11, qc (.invokevirtual 405) 3 121 2 1 [0, 2, 12])]),
  (28, [(14, qa (.iload_n 2) 1), (15, qc (.invokestatic 281) 3 92 2 1 [0, 2]), (18, qj (.ifCond .eq 33) 3 51 [false, false, false]), (21, qa (.aload_n 0) 1), (22, qa (.iload_n 1) 1), (23, qa (.aload_n 0) 1), (24, qa (.iload_n 1) 1), (25, qc (.invokevirtual 405) 3 121 2 1 [0, 2, 12])]),
  (38, [(28, qk (.iconst 1) 1 (nI 1)), (29, qa (.iload_n 2) 1), (30, qa .ishl 1), (31, qk (.iconst (-1)) 1 (-1)), (32, qa .ixor 1), (33, qa .iand 1), (34, qc (.invokevirtual 465) 3 229 3 1 [1, 4, 12]), (37, qa (.aload_n 0) 1)]),
  (52, [(38, qa (.iload_n 1) 1), (39, qa (.aload_n 0) 1), (40, qa (.iload_n 1) 1), (41, qc (.invokevirtual 405) 3 121 2 1 [0, 2, 12]), (44, qc (.invokevirtual 465) 3 229 3 1 [1, 4, 12]), (47, qa .isub 1), (48, qj (.goto 4) 3 52 [false, false, false]), (51, qm [false, false, false] (qk (.iconst (-1)) 1 (-1)))]),
  (53, [(52, qa .ireturn 1)])]
-- 231 TinStencils$Pile.namesEachOnce(I)Z
def tb_231 : qz_B := [(13, [(0, qa (.iload_n 0) 1), (1, qj (.ifCond .lt 9) 3 10 [false, false, false, false]), (4, qa (.iload_n 0) 1), (5, qk (.ldc 37) 2 (nI 999999)), (7, qm [false, false, false, false] (qj (.if_icmp .le 5) 3 12 [true, false, false, false])), (10, qk (.iconst 0) 1 (nI 0)), (11, qm [true, false, false, false] (qf .ireturn 1 0 0 1)), (12, qa (.iload_n 0) 1)]),
  (24, [(13, qa (.istore_n 1) 1), (14, qk (.iconst 0) 1 (nI 0)), (15, qa (.istore_n 2) 1), (16, qk (.iconst 0) 1 (nI 0)), (17, qm [false, true, true, true] (qa (.istore_n 3) 1)), (18, qa (.iload_n 3) 1), (19, qk (.bipush 6) 2 (nI 6)), (21, qj (.if_icmp .ge 23) 3 44 [false, false, true, false])]),
  (33, [(24, qa (.iload_n 2) 1), (25, qk (.iconst 1) 1 (nI 1)), (26, qa (.iload_n 1) 1), (27, qk (.bipush 10) 2 (nI 10)), (29, qa .irem 1), (30, qa .ishl 1), (31, qa .ior 1), (32, qa (.istore_n 2) 1)]),
  (47, [(33, qa (.iload_n 1) 1), (34, qk (.bipush 10) 2 (nI 10)), (36, qa .idiv 1), (37, qa (.istore_n 1) 1), (38, qk (.iinc 3 1) 3 (nI 1)), (41, qj (.goto (-23)) 3 18 [false, true, true, true]), (44, qa (.iload_n 2) 1), (45, qk (.bipush 63) 2 (nI 63))]),
  (56, [(47, qj (.if_icmp .ne 7) 3 54 [false, false, false, false]), (50, qk (.iconst 1) 1 (nI 1)), (51, qj (.goto 4) 3 55 [false, false, false, false]), (54, qm [false, false, false, false] (qk (.iconst 0) 1 (nI 0))), (55, qf .ireturn 1 0 0 1)])]
-- 232 TinStencils$Pile.setOrder(I)Z
def tb_232 : qz_B := [(12, [(0, qa (.iload_n 1) 1), (1, qc (.invokestatic 33) 3 231 1 1 [3, 4]), (4, qj (.ifCond .ne 5) 3 9 [true, true, false, false]), (7, qk (.iconst 0) 1 (nI 0)), (8, qm [true, true, false, false] (qf .ireturn 1 0 0 1)), (9, qa (.iload_n 1) 1), (10, qa (.istore_n 2) 1), (11, qk (.iconst 5) 1 (nI 5))]),
  (25, [(12, qm [true, false, true, true] (qa (.istore_n 3) 1)), (13, qa (.iload_n 3) 1), (14, qj (.ifCond .lt 24) 3 38 [false, false, false, false]), (17, qa (.aload_n 0) 1), (18, qf (.getfield 17) 3 6 1 1), (21, qa (.iload_n 3) 1), (22, qa (.iload_n 2) 1), (23, qk (.bipush 10) 2 (nI 10))]),
  (38, [(25, qa .irem 1), (26, qa .iastore 1), (27, qa (.iload_n 2) 1), (28, qk (.bipush 10) 2 (nI 10)), (30, qa .idiv 1), (31, qa (.istore_n 2) 1), (32, qk (.iinc 3 (-1)) 3 (-1)), (35, qj (.goto (-22)) 3 13 [true, false, true, true])]),
  (40, [(38, qk (.iconst 1) 1 (nI 1)), (39, qf .ireturn 1 0 0 1)])]
-- 233 TinStencils.order(I)Z
def tb_233 : qz_B := [(16, [(0, qa (.aload_n 0) 1), (1, qf (.getfield 26) 3 11 4 1), (4, qa (.iload_n 1) 1), (5, qc (.invokevirtual 280) 3 232 2 1 [2, 4, 6]), (8, qj (.ifCond .ne 15) 3 23 [false, false]), (11, qa (.aload_n 0) 1), (12, qf (.getfield 20) 3 11 3 1), (15, qk (.iconst 0) 1 (nI 0))]),
  (24, [(16, qa .dup2 1), (17, qa .iaload 1), (18, qk (.iconst 1) 1 (nI 1)), (19, qa .iadd 1), (20, qa .iastore 1), (21, qk (.iconst 0) 1 (nI 0)), (22, qm [false, false] (qf .ireturn 1 0 0 1)), (23, qk (.iconst 1) 1 (nI 1))]),
  (25, [(24, qf .ireturn 1 0 0 1)])]
-- 234 TinStencilsModel.order(I)Z
def tb_234 : qz_B := [(11, [(0, qk (.iconst 0) 1 (nI 0)), (1, qa (.istore_n 2) 1), (2, qa (.iload_n 1) 1), (3, qa (.istore_n 3) 1), (4, qk (.iconst 0) 1 (nI 0)), (5, qa (.istore 4) 2), (7, qa (.iload 4) 2), (9, qk (.bipush 6) 2 (nI 6))]),
  (27, [(11, qj (.if_icmp .ge 36) 3 47 [true, true, true, true, false]), (14, qa (.iload_n 1) 1), (15, qj (.ifCond .lt 32) 3 47 [true, true, true, true, false]), (18, qa (.iload_n 3) 1), (19, qk (.bipush 10) 2 (nI 10)), (21, qa .irem 1), (22, qk (.bipush 6) 2 (nI 6)), (24, qj (.if_icmp .ge 12) 3 36 [])]),
  (36, [(27, qa (.iload_n 2) 1), (28, qk (.iconst 1) 1 (nI 1)), (29, qa (.iload_n 3) 1), (30, qk (.bipush 10) 2 (nI 10)), (32, qa .irem 1), (33, qa .ishl 1), (34, qa .ior 1), (35, qa (.istore_n 2) 1)]),
  (51, [(36, qa (.iload_n 3) 1), (37, qk (.bipush 10) 2 (nI 10)), (39, qa .idiv 1), (40, qa (.istore_n 3) 1), (41, qk (.iinc 4 1) 3 (nI 1)), (44, qj (.goto (-37)) 3 7 []), (47, qa (.iload_n 1) 1), (48, qj (.ifCond .lt 13) 3 61 [true, false, false, false, false])]),
  (66, [(51, qa (.iload_n 3) 1), (52, qj (.ifCond .gt 9) 3 61 [true, false, false, false, false]), (55, qa (.iload_n 2) 1), (56, qk (.bipush 63) 2 (nI 63)), (58, qm [true, false, false, false, false] (qj (.if_icmp .eq 9) 3 67 [true, true, false, false, false])), (61, qa (.aload_n 0) 1), (62, qk (.iconst 0) 1 (nI 0)), (63, qc (.invokevirtual 439) 3 168 2 1 [0, 2, 12])]),
  (74, [(66, qm [true, true, false, false, false] (qf .ireturn 1 0 0 1)), (67, qa (.aload_n 0) 1), (68, qa (.iload_n 1) 1), (69, qf (.putfield 13) 3 12 1 0), (72, qk (.iconst 1) 1 (nI 1)), (73, qf .ireturn 1 0 0 1)])]
-- 235 TinStencils$Pile.painter(II)I
def tb_235 : qz_B := [(14, [(0, qk (.iconst 5) 1 (nI 5)), (1, qm [true, true, true, true, false] (qa (.istore_n 3) 1)), (2, qa (.iload_n 3) 1), (3, qj (.ifCond .lt 57) 3 60 [false, false, false, false, false]), (6, qa (.aload_n 0) 1), (7, qf (.getfield 11) 3 6 0 1), (10, qa (.aload_n 0) 1), (11, qf (.getfield 17) 3 6 1 1)]),
  (29, [(14, qa (.iload_n 3) 1), (15, qa .iaload 1), (16, qa .aaload 1), (17, qa (.astore 4) 2), (19, qa (.aload 4) 2), (21, qf (.getfield 29) 3 8 0 0), (24, qj (.ifCond .eq 30) 3 54 [true, true, true, true, false]), (27, qa (.aload 4) 2)]),
  (44, [(29, qa (.iload_n 1) 1), (30, qa (.iload_n 2) 1), (31, qc (.invokevirtual 38) 3 46 3 1 [0, 3, 8]), (34, qj (.ifCond .eq 20) 3 54 [true, true, true, true, false]), (37, qa (.aload 4) 2), (39, qa (.iload_n 1) 1), (40, qa (.iload_n 2) 1), (41, qc (.invokevirtual 42) 3 216 3 1 [0, 3, 8])]),
  (60, [(44, qj (.ifCond .ne 10) 3 54 [true, true, true, true, false]), (47, qa (.aload_n 0) 1), (48, qf (.getfield 17) 3 6 1 1), (51, qa (.iload_n 3) 1), (52, qa .iaload 1), (53, qm [true, true, true, true, false] (qa .ireturn 1)), (54, qk (.iinc 3 (-1)) 3 (-1)), (57, qj (.goto (-55)) 3 2 [true, true, true, true, false])]),
  (62, [(60, qk (.iconst (-1)) 1 (-1)), (61, qa .ireturn 1)])]
-- 236 TinStencils.paint(II)I
def tb_236 : qz_B := [(10, [(0, qa (.aload_n 0) 1), (1, qf (.getfield 26) 3 11 4 1), (4, qa (.iload_n 1) 1), (5, qa (.iload_n 2) 1), (6, qc (.invokevirtual 283) 3 235 3 1 [2, 5, 6]), (9, qa .ireturn 1)])]
-- 237 TinStencilsModel.laysOver()V
def tb_237 : qz_B := [(14, [(0, qa (.aload_n 0) 1), (1, qk (.iconst 0) 1 (nI 0)), (2, qf (.putfield 489) 3 12 52 0), (5, qk (.iconst 0) 1 (nI 0)), (6, qm [true, true, false, false, false] (qa (.istore_n 1) 1)), (7, qa (.iload_n 1) 1), (8, qk (.sipush 400) 3 (nI 400)), (11, qj (.if_icmp .ge 23) 3 34 [true, false, false, false, false])]),
  (26, [(14, qa (.aload_n 0) 1), (15, qf (.getfield 113) 3 12 49 1), (18, qa (.iload_n 1) 1), (19, qk (.iconst 0) 1 (nI 0)), (20, qa .iastore 1), (21, qa (.aload_n 0) 1), (22, qf (.getfield 116) 3 12 50 1), (25, qa (.iload_n 1) 1)]),
  (39, [(26, qk (.iconst 0) 1 (nI 0)), (27, qa .iastore 1), (28, qk (.iinc 1 1) 3 (nI 1)), (31, qj (.goto (-24)) 3 7 [true, true, false, false, false]), (34, qk (.iconst 0) 1 (nI 0)), (35, qm [true, true, false, false, false] (qa (.istore_n 1) 1)), (36, qa (.iload_n 1) 1), (37, qk (.bipush 6) 2 (nI 6))]),
  (55, [(39, qj (.if_icmp .ge 148) 3 187 [false, false, false, false, false]), (42, qa (.aload_n 0) 1), (43, qf (.getfield 20) 3 12 3 1), (46, qa (.iload_n 1) 1), (47, qa .iaload 1), (48, qj (.ifCond .ne 6) 3 54 [true, true, false, false, false]), (51, qj (.goto 130) 3 181 [true, true, false, false, false]), (54, qa (.aload_n 0) 1)]),
  (69, [(55, qf (.getfield 119) 3 12 51 1), (58, qa (.aload_n 0) 1), (59, qf (.getfield 489) 3 12 52 0), (62, qa (.iload_n 1) 1), (63, qa .iastore 1), (64, qa (.aload_n 0) 1), (65, qa .dup 1), (66, qf (.getfield 489) 3 12 52 0)]),
  (79, [(69, qk (.iconst 1) 1 (nI 1)), (70, qa .iadd 1), (71, qf (.putfield 489) 3 12 52 0), (74, qk (.iconst 0) 1 (nI 0)), (75, qm [true, true, true, false, false] (qa (.istore_n 2) 1)), (76, qa (.iload_n 2) 1), (77, qa (.aload_n 0) 1), (78, qa (.iload_n 1) 1)]),
  (93, [(79, qc (.invokevirtual 160) 3 81 2 1 [0, 2, 12]), (82, qj (.if_icmp .ge 99) 3 181 [true, true, false, false, false]), (85, qk (.iconst 0) 1 (nI 0)), (86, qm [true, true, true, true, false] (qa (.istore_n 3) 1)), (87, qa (.iload_n 3) 1), (88, qa (.aload_n 0) 1), (89, qa (.iload_n 1) 1), (90, qc (.invokevirtual 152) 3 82 2 1 [0, 2, 12])]),
  (105, [(93, qj (.if_icmp .ge 82) 3 175 [true, true, true, false, false]), (96, qa (.aload_n 0) 1), (97, qa (.iload_n 1) 1), (98, qa (.iload_n 3) 1), (99, qa (.iload_n 2) 1), (100, qa (.aload_n 0) 1), (101, qa (.iload_n 1) 1), (102, qc (.invokevirtual 405) 3 121 2 1 [0, 2, 12])]),
  (122, [(105, qc (.invokevirtual 367) 3 122 5 1 [0, 5, 12]), (108, qa (.istore 4) 2), (110, qa (.iload 4) 2), (112, qj (.ifCond .ne 20) 3 132 []), (115, qa (.aload_n 0) 1), (116, qf (.getfield 113) 3 12 49 1), (119, qk (.bipush 20) 2 (nI 20)), (121, qa (.iload_n 2) 1)]),
  (130, [(122, qa .imul 1), (123, qa (.iload_n 3) 1), (124, qa .iadd 1), (125, qa .dup2 1), (126, qa .iaload 1), (127, qk (.iconst 1) 1 (nI 1)), (128, qa (.iload_n 1) 1), (129, qa .ishl 1)]),
  (143, [(130, qa .ior 1), (131, qa .iastore 1), (132, qa (.iload 4) 2), (134, qj (.ifCond .eq 35) 3 169 [true, true, true, true, false]), (137, qa (.aload_n 0) 1), (138, qf (.getfield 23) 3 12 4 1), (141, qa (.iload_n 1) 1), (142, qa (.iload_n 3) 1)]),
  (158, [(143, qa (.iload_n 2) 1), (144, qc (.invokestatic 262) 3 84 3 1 [0, 3]), (147, qa .iaload 1), (148, qk (.iconst 1) 1 (nI 1)), (149, qj (.if_icmp .ne 20) 3 169 [true, true, true, true, false]), (152, qa (.aload_n 0) 1), (153, qf (.getfield 116) 3 12 50 1), (156, qk (.bipush 20) 2 (nI 20))]),
  (166, [(158, qa (.iload_n 2) 1), (159, qa .imul 1), (160, qa (.iload_n 3) 1), (161, qa .iadd 1), (162, qa .dup2 1), (163, qa .iaload 1), (164, qk (.iconst 1) 1 (nI 1)), (165, qa (.iload_n 1) 1)]),
  (184, [(166, qa .ishl 1), (167, qa .ior 1), (168, qm [true, true, true, true, false] (qa .iastore 1)), (169, qk (.iinc 3 1) 3 (nI 1)), (172, qj (.goto (-85)) 3 87 [true, true, true, true, false]), (175, qk (.iinc 2 1) 3 (nI 1)), (178, qj (.goto (-102)) 3 76 [true, true, true, false, false]), (181, qk (.iinc 1 1) 3 (nI 1))]),
  (188, [(184, qj (.goto (-148)) 3 36 [true, true, false, false, false]), (187, qa .return_ 1)])]
-- 238 TinStencilsModel.byOrder()V
def tb_238 : qz_B := [(11, [(0, qk (.iconst 0) 1 (nI 0)), (1, qa (.istore_n 1) 1), (2, qk (.ldc_w 492) 3 (nI 100000)), (5, qa (.istore_n 2) 1), (6, qk (.iconst 0) 1 (nI 0)), (7, qm [true, true, true, true, false] (qa (.istore_n 3) 1)), (8, qa (.iload_n 3) 1), (9, qk (.bipush 6) 2 (nI 6))]),
  (25, [(11, qj (.if_icmp .ge 49) 3 60 [false, false, false, false, false]), (14, qa (.aload_n 0) 1), (15, qf (.getfield 13) 3 12 1 0), (18, qa (.iload_n 2) 1), (19, qa .idiv 1), (20, qk (.bipush 10) 2 (nI 10)), (22, qa .irem 1), (23, qa (.istore 4) 2)]),
  (37, [(25, qa (.iload_n 2) 1), (26, qk (.bipush 10) 2 (nI 10)), (28, qa .idiv 1), (29, qa (.istore_n 2) 1), (30, qa (.aload_n 0) 1), (31, qf (.getfield 20) 3 12 3 1), (34, qa (.iload 4) 2), (36, qa .iaload 1)]),
  (54, [(37, qj (.ifCond .ne 6) 3 43 []), (40, qj (.goto 14) 3 54 [true, true, true, true, false]), (43, qa (.aload_n 0) 1), (44, qf (.getfield 107) 3 12 47 1), (47, qa (.iload_n 1) 1), (48, qa (.iload 4) 2), (50, qa .iastore 1), (51, qm [true, true, true, true, false] (qk (.iinc 1 1) 3 (nI 1)))]),
  (61, [(54, qk (.iinc 3 1) 3 (nI 1)), (57, qj (.goto (-49)) 3 8 [true, true, true, true, false]), (60, qa .return_ 1)])]
-- 239 TinStencilsModel.paint(II)I
def tb_239 : qz_B := [(14, [(0, qa (.iload_n 1) 1), (1, qk (.iconst 0) 1 (nI 0)), (2, qk (.bipush 19) 2 (nI 19)), (4, qc (.invokestatic 156) 3 72 3 1 [0, 3]), (7, qj (.ifCond .eq 13) 3 20 [false, false, false, false, false]), (10, qa (.iload_n 2) 1), (11, qk (.iconst 0) 1 (nI 0)), (12, qk (.bipush 19) 2 (nI 19))]),
  (30, [(14, qc (.invokestatic 156) 3 72 3 1 [0, 3]), (17, qm [false, false, false, false, false] (qj (.ifCond .ne 5) 3 22 [true, true, true, false, false])), (20, qk (.iconst (-1)) 1 (-1)), (21, qm [true, true, true, false, false] (qa .ireturn 1)), (22, qa (.aload_n 0) 1), (23, qc (.invokevirtual 493) 3 237 1 0 [4, 5, 12]), (26, qa (.aload_n 0) 1), (27, qc (.invokevirtual 496) 3 238 1 0 [4, 5, 12])]),
  (44, [(30, qk (.iconst (-1)) 1 (-1)), (31, qa (.istore_n 3) 1), (32, qk (.iconst 0) 1 (nI 0)), (33, qa (.istore 4) 2), (35, qa (.iload 4) 2), (37, qa (.aload_n 0) 1), (38, qf (.getfield 489) 3 12 52 0), (41, qj (.if_icmp .ge 41) 3 82 [false, false, false, true, false])]),
  (55, [(44, qa (.aload_n 0) 1), (45, qf (.getfield 113) 3 12 49 1), (48, qk (.bipush 20) 2 (nI 20)), (50, qa (.iload_n 2) 1), (51, qa .imul 1), (52, qa (.iload_n 1) 1), (53, qa .iadd 1), (54, qa .iaload 1)]),
  (72, [(55, qa (.aload_n 0) 1), (56, qf (.getfield 107) 3 12 47 1), (59, qa (.iload 4) 2), (61, qa .iaload 1), (62, qc (.invokestatic 281) 3 92 2 1 [0, 2]), (65, qj (.ifCond .eq 11) 3 76 []), (68, qa (.aload_n 0) 1), (69, qf (.getfield 107) 3 12 47 1)]),
  (84, [(72, qa (.iload 4) 2), (74, qa .iaload 1), (75, qa (.istore_n 3) 1), (76, qk (.iinc 4 1) 3 (nI 1)), (79, qj (.goto (-44)) 3 35 []), (82, qa (.iload_n 3) 1), (83, qa .ireturn 1)])]
-- 240 TinStencils$Pile.toldSet()I
def tb_240 : qz_B := [(11, [(0, qk (.iconst 0) 1 (nI 0)), (1, qa (.istore_n 1) 1), (2, qk (.iconst 0) 1 (nI 0)), (3, qa (.istore_n 2) 1), (4, qa (.iload_n 2) 1), (5, qk (.bipush 6) 2 (nI 6)), (7, qj (.if_icmp .ge 31) 3 38 [false, true, false]), (10, qa (.iload_n 1) 1)]),
  (25, [(11, qa (.aload_n 0) 1), (12, qf (.getfield 11) 3 6 0 1), (15, qa (.iload_n 2) 1), (16, qa .aaload 1), (17, qf (.getfield 29) 3 8 0 0), (20, qj (.ifCond .eq 9) 3 29 [true, false, true]), (23, qk (.iconst 1) 1 (nI 1)), (24, qa (.iload_n 2) 1)]),
  (39, [(25, qa .ishl 1), (26, qj (.goto 4) 3 30 [true, false, true]), (29, qm [true, false, true] (qk (.iconst 0) 1 (nI 0))), (30, qa .ior 1), (31, qa (.istore_n 1) 1), (32, qk (.iinc 2 1) 3 (nI 1)), (35, qj (.goto (-31)) 3 4 []), (38, qa (.iload_n 1) 1)]),
  (40, [(39, qa .ireturn 1)])]
-- 241 TinStencils$Sheet.openRow(I)I
def tb_241 : qz_B := [(14, [(0, qa (.aload_n 0) 1), (1, qa (.iload_n 1) 1), (2, qc (.invokevirtual 83) 3 116 2 1 [0, 2, 8]), (5, qa (.aload_n 0) 1), (6, qa (.iload_n 1) 1), (7, qa (.aload_n 0) 1), (8, qf (.getfield 44) 3 8 9 1), (11, qf (.getfield 93) 3 0 1 0)]),
  (21, [(14, qc (.invokevirtual 96) 3 117 3 1 [2, 5, 8]), (17, qk (.iconst (-1)) 1 (-1)), (18, qa .ixor 1), (19, qa .iand 1), (20, qa .ireturn 1)])]
-- 242 TinStencils$Pile.leftOf(II)I
def tb_242 : qz_B := [(11, [(0, qa (.aload_n 0) 1), (1, qf (.getfield 11) 3 6 0 1), (4, qa (.iload_n 1) 1), (5, qa .aaload 1), (6, qa (.astore_n 3) 1), (7, qk (.iconst 0) 1 (nI 0)), (8, qa (.istore 4) 2), (10, qk (.iconst 0) 1 (nI 0))]),
  (28, [(11, qm [true, false, true, true, true, true, false, false] (qa (.istore 5) 2)), (13, qa (.iload 5) 2), (15, qa (.aload_n 3) 1), (16, qf (.getfield 49) 3 8 2 0), (19, qj (.if_icmp .ge 134) 3 153 [false, false, false, false, true, false, false, false]), (22, qa (.aload_n 3) 1), (23, qf (.getfield 53) 3 8 7 1), (26, qa (.iload 5) 2)]),
  (43, [(28, qa .iaload 1), (29, qa (.aload_n 3) 1), (30, qa (.iload 5) 2), (32, qa (.aload_n 3) 1), (33, qf (.getfield 56) 3 8 9 1), (36, qf (.getfield 60) 3 0 1 0), (39, qc (.invokevirtual 65) 3 117 3 1 [2, 5, 8]), (42, qa .iand 1)]),
  (60, [(43, qa (.istore 6) 2), (45, qk (.iconst 0) 1 (nI 0)), (46, qm [true, false, true, true, true, true, true, true] (qa (.istore 7) 2)), (48, qa (.iload 7) 2), (50, qk (.bipush 6) 2 (nI 6)), (52, qj (.if_icmp .ge 42) 3 94 [true, false, true, true, true, true, true, false]), (55, qa (.iload 6) 2), (57, qj (.ifCond .eq 37) 3 94 [true, false, true, true, true, true, true, false])]),
  (72, [(60, qa (.iload_n 2) 1), (61, qa (.iload 7) 2), (63, qa .ishr 1), (64, qk (.iconst 1) 1 (nI 1)), (65, qa .iand 1), (66, qj (.ifCond .eq 22) 3 88 [true, false, true, true, true, true, true, true]), (69, qa (.iload 6) 2), (71, qa (.aload_n 0) 1)]),
  (86, [(72, qf (.getfield 11) 3 6 0 1), (75, qa (.iload 7) 2), (77, qa .aaload 1), (78, qa (.iload 5) 2), (80, qc (.invokevirtual 68) 3 241 2 1 [0, 2, 8]), (83, qk (.iconst (-1)) 1 (-1)), (84, qa .ixor 1), (85, qa .iand 1)]),
  (104, [(86, qm [true, false, true, true, true, true, true, true] (qa (.istore 6) 2)), (88, qk (.iinc 7 1) 3 (nI 1)), (91, qj (.goto (-43)) 3 48 [true, false, true, true, true, true, true, true]), (94, qk (.iconst 0) 1 (nI 0)), (95, qm [true, false, true, true, true, true, true, true] (qa (.istore 7) 2)), (97, qa (.iload 7) 2), (99, qk (.bipush 20) 2 (nI 20)), (101, qj (.if_icmp .ge 46) 3 147 [true, false, true, true, true, true, false, false])]),
  (118, [(104, qa (.iload 6) 2), (106, qj (.ifCond .eq 41) 3 147 [true, false, true, true, true, true, false, false]), (109, qa (.iload 4) 2), (111, qa (.iload 6) 2), (113, qa (.iload 7) 2), (115, qa .ishr 1), (116, qk (.iconst 1) 1 (nI 1)), (117, qa .iand 1)]),
  (133, [(118, qj (.ifCond .eq 19) 3 137 [true, false, true, true, false, true, true, true]), (121, qa (.aload_n 3) 1), (122, qf (.getfield 72) 3 8 8 1), (125, qa (.iload 5) 2), (127, qk (.bipush 20) 2 (nI 20)), (129, qa .imul 1), (130, qa (.iload 7) 2), (132, qa .iadd 1)]),
  (150, [(133, qa .iaload 1), (134, qj (.goto 4) 3 138 [true, false, true, true, false, true, true, true]), (137, qm [true, false, true, true, false, true, true, true] (qk (.iconst 0) 1 (nI 0))), (138, qa .iadd 1), (139, qa (.istore 4) 2), (141, qk (.iinc 7 1) 3 (nI 1)), (144, qj (.goto (-47)) 3 97 [true, false, true, true, true, true, true, true]), (147, qk (.iinc 5 1) 3 (nI 1))]),
  (156, [(150, qj (.goto (-137)) 3 13 [true, false, true, true, true, true, false, false]), (153, qa (.iload 4) 2), (155, qa .ireturn 1)])]
-- 243 TinStencils$Pile.leftOfOrder()I
def tb_243 : qz_B := [(10, [(0, qk (.iconst 0) 1 (nI 0)), (1, qa (.istore_n 1) 1), (2, qk (.iconst 0) 1 (nI 0)), (3, qa (.istore_n 2) 1), (4, qk (.iconst 5) 1 (nI 5)), (5, qm [true, true, true, true, false] (qa (.istore_n 3) 1)), (6, qa (.iload_n 3) 1), (7, qj (.ifCond .lt 47) 3 54 [false, true, false, false, false])]),
  (24, [(10, qa (.aload_n 0) 1), (11, qf (.getfield 17) 3 6 1 1), (14, qa (.iload_n 3) 1), (15, qa .iaload 1), (16, qa (.istore 4) 2), (18, qa (.aload_n 0) 1), (19, qf (.getfield 11) 3 6 0 1), (22, qa (.iload 4) 2)]),
  (39, [(24, qa .aaload 1), (25, qf (.getfield 29) 3 8 0 0), (28, qj (.ifCond .eq 20) 3 48 [true, true, true, true, false]), (31, qa (.iload_n 1) 1), (32, qa (.aload_n 0) 1), (33, qa (.iload 4) 2), (35, qa (.iload_n 2) 1), (36, qc (.invokevirtual 45) 3 242 3 1 [5, 8, 6])]),
  (48, [(39, qa .iadd 1), (40, qa (.istore_n 1) 1), (41, qa (.iload_n 2) 1), (42, qk (.iconst 1) 1 (nI 1)), (43, qa (.iload 4) 2), (45, qa .ishl 1), (46, qa .ior 1), (47, qm [true, true, true, true, false] (qa (.istore_n 2) 1))]),
  (56, [(48, qk (.iinc 3 (-1)) 3 (-1)), (51, qj (.goto (-45)) 3 6 [true, true, true, true, false]), (54, qa (.iload_n 1) 1), (55, qa .ireturn 1)])]
-- 244 TinStencils$Pile.weighAhead(I)I
def tb_244 : qz_B := [(11, [(0, qk (.iconst (-1)) 1 (-1)), (1, qa (.istore_n 2) 1), (2, qk (.iconst 0) 1 (nI 0)), (3, qm [true, true, true, true, false, false] (qa (.istore_n 3) 1)), (4, qa (.iload_n 3) 1), (5, qk (.bipush 6) 2 (nI 6)), (7, qj (.if_icmp .ge 69) 3 76 [false, false, true, false, false, false]), (10, qa (.iload_n 1) 1)]),
  (21, [(11, qa (.iload_n 3) 1), (12, qa .ishr 1), (13, qk (.iconst 1) 1 (nI 1)), (14, qa .iand 1), (15, qj (.ifCond .eq 55) 3 70 [true, true, true, true, false, false]), (18, qa (.iload_n 1) 1), (19, qk (.iconst 1) 1 (nI 1)), (20, qa (.iload_n 3) 1)]),
  (31, [(21, qa .ishl 1), (22, qk (.iconst (-1)) 1 (-1)), (23, qa .ixor 1), (24, qa .iand 1), (25, qa (.istore 4) 2), (27, qa (.aload_n 0) 1), (28, qa (.iload_n 3) 1), (29, qa (.iload 4) 2)]),
  (45, [(31, qc (.invokevirtual 45) 3 242 3 1 [5, 8, 6]), (34, qa (.aload_n 0) 1), (35, qf (.getfield 21) 3 6 2 1), (38, qa (.iload 4) 2), (40, qa .iaload 1), (41, qa .iadd 1), (42, qa (.istore 5) 2), (44, qa (.iload_n 2) 1)]),
  (60, [(45, qk (.iconst (-1)) 1 (-1)), (46, qj (.if_icmp .eq 14) 3 60 [true, true, false, true, false, true]), (49, qa (.iload 5) 2), (51, qa (.aload_n 0) 1), (52, qf (.getfield 21) 3 6 2 1), (55, qa (.iload_n 1) 1), (56, qa .iaload 1), (57, qm [true, true, false, true, false, true] (qj (.if_icmp .ge 13) 3 70 [true, true, true, true, false, false]))]),
  (73, [(60, qa (.iload_n 3) 1), (61, qa (.istore_n 2) 1), (62, qa (.aload_n 0) 1), (63, qf (.getfield 21) 3 6 2 1), (66, qa (.iload_n 1) 1), (67, qa (.iload 5) 2), (69, qm [true, true, true, true, false, false] (qa .iastore 1)), (70, qk (.iinc 3 1) 3 (nI 1))]),
  (78, [(73, qj (.goto (-69)) 3 4 [true, true, true, true, false, false]), (76, qa (.iload_n 2) 1), (77, qa .ireturn 1)])]
-- 245 TinStencils$Pile.leastLeft()I
def tb_245 : qz_B := [(12, [(0, qa (.aload_n 0) 1), (1, qc (.invokevirtual 75) 3 240 1 1 [2, 3, 6]), (4, qa (.istore_n 1) 1), (5, qa (.aload_n 0) 1), (6, qf (.getfield 21) 3 6 2 1), (9, qk (.iconst 0) 1 (nI 0)), (10, qk (.iconst 0) 1 (nI 0)), (11, qa .iastore 1)]),
  (22, [(12, qk (.iconst 1) 1 (nI 1)), (13, qa (.istore_n 2) 1), (14, qa (.iload_n 2) 1), (15, qa (.iload_n 1) 1), (16, qj (.if_icmp .gt 23) 3 39 [true, true, false]), (19, qa (.iload_n 2) 1), (20, qa (.iload_n 1) 1), (21, qk (.iconst (-1)) 1 (-1))]),
  (36, [(22, qa .ixor 1), (23, qa .iand 1), (24, qj (.ifCond .ne 9) 3 33 []), (27, qa (.aload_n 0) 1), (28, qa (.iload_n 2) 1), (29, qc (.invokevirtual 79) 3 244 2 1 [4, 6, 6]), (32, qa .pop 1), (33, qk (.iinc 2 1) 3 (nI 1))]),
  (46, [(36, qj (.goto (-22)) 3 14 []), (39, qa (.aload_n 0) 1), (40, qf (.getfield 21) 3 6 2 1), (43, qa (.iload_n 1) 1), (44, qa .iaload 1), (45, qa .ireturn 1)])]
-- 246 TinStencils$Pile.leastOrder(I)I
def tb_246 : qz_B := [(12, [(0, qa (.aload_n 0) 1), (1, qc (.invokevirtual 75) 3 240 1 1 [2, 3, 6]), (4, qa (.istore_n 2) 1), (5, qk (.iconst (-1)) 1 (-1)), (6, qa (.istore_n 3) 1), (7, qk (.iconst 0) 1 (nI 0)), (8, qa (.istore 4) 2), (10, qa (.iload 4) 2)]),
  (28, [(12, qa (.iload_n 1) 1), (13, qj (.if_icmp .gt 36) 3 49 [false, false, false, true, false]), (16, qa (.iload 4) 2), (18, qk (.bipush 6) 2 (nI 6)), (20, qj (.if_icmp .gt 29) 3 49 [false, false, false, true, false]), (23, qa (.iload_n 2) 1), (24, qj (.ifCond .ne 5) 3 29 [true, true, true, false, true]), (27, qk (.iconst (-1)) 1 (-1))]),
  (38, [(28, qm [true, true, true, false, true] (qa .ireturn 1)), (29, qa (.aload_n 0) 1), (30, qa (.iload_n 2) 1), (31, qc (.invokevirtual 79) 3 244 2 1 [4, 6, 6]), (34, qa (.istore_n 3) 1), (35, qa (.iload_n 2) 1), (36, qk (.iconst 1) 1 (nI 1)), (37, qa (.iload_n 3) 1)]),
  (50, [(38, qa .ishl 1), (39, qk (.iconst (-1)) 1 (-1)), (40, qa .ixor 1), (41, qa .iand 1), (42, qa (.istore_n 2) 1), (43, qk (.iinc 4 1) 3 (nI 1)), (46, qj (.goto (-36)) 3 10 []), (49, qa (.iload_n 3) 1)]),
  (51, [(50, qa .ireturn 1)])]
-- 247 TinStencils.left(I)I
def tb_247 : qz_B := [(16, [(0, qa (.aload_n 0) 1), (1, qf (.getfield 26) 3 11 4 1), (4, qc (.invokevirtual 286) 3 240 1 1 [2, 3, 6]), (7, qj (.ifCond .ne 5) 3 12 [true, true, false]), (10, qk (.iconst (-1)) 1 (-1)), (11, qm [true, true, false] (qa .ireturn 1)), (12, qa (.iload_n 1) 1), (13, qj (.ifCond .ne 11) 3 24 [true, true, false])]),
  (32, [(16, qa (.aload_n 0) 1), (17, qf (.getfield 26) 3 11 4 1), (20, qc (.invokevirtual 289) 3 243 1 1 [4, 5, 6]), (23, qm [true, true, false] (qa .ireturn 1)), (24, qa (.aload_n 0) 1), (25, qf (.getfield 26) 3 11 4 1), (28, qc (.invokevirtual 292) 3 245 1 1 [2, 3, 6]), (31, qa (.istore_n 2) 1)]),
  (45, [(32, qa (.iload_n 1) 1), (33, qk (.iconst 1) 1 (nI 1)), (34, qj (.if_icmp .ne 5) 3 39 [true, true, false]), (37, qa (.iload_n 2) 1), (38, qm [true, true, false] (qa .ireturn 1)), (39, qa (.iload_n 1) 1), (40, qk (.bipush 10) 2 (nI 10)), (42, qj (.if_icmp .lt 17) 3 59 [false, false, false])]),
  (60, [(45, qa (.aload_n 0) 1), (46, qf (.getfield 26) 3 11 4 1), (49, qa (.iload_n 1) 1), (50, qk (.bipush 10) 2 (nI 10)), (52, qa .isub 1), (53, qc (.invokevirtual 295) 3 246 2 1 [3, 5, 6]), (56, qj (.goto 4) 3 60 [false, false, false]), (59, qm [false, false, false] (qk (.iconst (-1)) 1 (-1)))]),
  (61, [(60, qa .ireturn 1)])]
-- 248 TinStencilsModel.leftBy()I
def tb_248 : qz_B := [(12, [(0, qk (.iconst 0) 1 (nI 0)), (1, qa (.istore_n 1) 1), (2, qk (.iconst 0) 1 (nI 0)), (3, qm [true, true, true, false, false, false] (qa (.istore_n 2) 1)), (4, qa (.iload_n 2) 1), (5, qk (.sipush 400) 3 (nI 400)), (8, qj (.if_icmp .ge 98) 3 106 [false, true, false, false, false, false]), (11, qk (.iconst 0) 1 (nI 0))]),
  (26, [(12, qa (.istore_n 3) 1), (13, qa (.aload_n 0) 1), (14, qf (.getfield 489) 3 12 52 0), (17, qk (.iconst 1) 1 (nI 1)), (18, qa .isub 1), (19, qm [true, true, true, true, true, false] (qa (.istore 4) 2)), (21, qa (.iload 4) 2), (23, qj (.ifCond .lt 77) 3 100 [true, true, true, false, false, false])]),
  (41, [(26, qa (.aload_n 0) 1), (27, qf (.getfield 116) 3 12 50 1), (30, qa (.iload_n 2) 1), (31, qa .iaload 1), (32, qj (.ifCond .eq 68) 3 100 [true, true, true, false, false, false]), (35, qa (.aload_n 0) 1), (36, qf (.getfield 107) 3 12 47 1), (39, qa (.iload 4) 2)]),
  (55, [(41, qa .iaload 1), (42, qa (.istore 5) 2), (44, qa (.aload_n 0) 1), (45, qf (.getfield 116) 3 12 50 1), (48, qa (.iload_n 2) 1), (49, qa .iaload 1), (50, qa (.iload 5) 2), (52, qc (.invokestatic 281) 3 92 2 1 [0, 2])]),
  (72, [(55, qj (.ifCond .eq 23) 3 78 []), (58, qa (.iload_n 3) 1), (59, qj (.ifCond .ne 19) 3 78 []), (62, qa (.iload_n 1) 1), (63, qa (.aload_n 0) 1), (64, qf (.getfield 26) 3 12 5 1), (67, qk (.sipush 400) 3 (nI 400)), (70, qa (.iload 5) 2)]),
  (82, [(72, qa .imul 1), (73, qa (.iload_n 2) 1), (74, qa .iadd 1), (75, qa .iaload 1), (76, qa .iadd 1), (77, qa (.istore_n 1) 1), (78, qa (.aload_n 0) 1), (79, qf (.getfield 113) 3 12 49 1)]),
  (97, [(82, qa (.iload_n 2) 1), (83, qa .iaload 1), (84, qa (.iload 5) 2), (86, qc (.invokestatic 281) 3 92 2 1 [0, 2]), (89, qj (.ifCond .eq 5) 3 94 [true, true, true, true, true, false]), (92, qk (.iconst 1) 1 (nI 1)), (93, qm [true, true, true, true, true, false] (qa (.istore_n 3) 1)), (94, qk (.iinc 4 (-1)) 3 (-1))]),
  (108, [(97, qj (.goto (-76)) 3 21 [true, true, true, true, true, false]), (100, qk (.iinc 2 1) 3 (nI 1)), (103, qj (.goto (-99)) 3 4 [true, true, true, false, false, false]), (106, qa (.iload_n 1) 1), (107, qa .ireturn 1)])]
-- 249 TinStencilsModel.factorial(I)I
def tb_249 : qz_B := [(10, [(0, qk (.iconst 1) 1 (nI 1)), (1, qa (.istore_n 2) 1), (2, qk (.iconst 2) 1 (nI 2)), (3, qm [false, true, true, true] (qa (.istore_n 3) 1)), (4, qa (.iload_n 3) 1), (5, qa (.iload_n 1) 1), (6, qj (.if_icmp .gt 13) 3 19 [false, false, true, false]), (9, qa (.iload_n 2) 1)]),
  (21, [(10, qa (.iload_n 3) 1), (11, qa .imul 1), (12, qa (.istore_n 2) 1), (13, qk (.iinc 3 1) 3 (nI 1)), (16, qj (.goto (-12)) 3 4 [false, true, true, true]), (19, qa (.iload_n 2) 1), (20, qa .ireturn 1)])]
-- 250 TinStencilsModel.skips(IIII)I
def tb_250 : qz_B := [(11, [(0, qa (.iload_n 1) 1), (1, qa (.iload_n 2) 1), (2, qa .idiv 1), (3, qa (.iload 4) 2), (5, qa .irem 1), (6, qa (.istore 5) 2), (8, qk (.iconst 0) 1 (nI 0)), (9, qm [false, false, false, true, false, true, true] (qa (.istore 6) 2))]),
  (28, [(11, qa (.iload_n 3) 1), (12, qa (.iload 6) 2), (14, qc (.invokestatic 281) 3 92 2 1 [0, 2]), (17, qj (.ifCond .eq 8) 3 25 [false, false, false, true, false, true, true]), (20, qa (.iload 5) 2), (22, qm [false, false, false, true, false, true, true] (qj (.ifCond .le 23) 3 45 [false, false, false, false, false, false, true])), (25, qa (.iload 5) 2), (27, qa (.iload_n 3) 1)]),
  (47, [(28, qa (.iload 6) 2), (30, qc (.invokestatic 281) 3 92 2 1 [0, 2]), (33, qc (.invokestatic 319) 3 104 1 1 [0, 1]), (36, qa .isub 1), (37, qa (.istore 5) 2), (39, qk (.iinc 6 1) 3 (nI 1)), (42, qj (.goto (-31)) 3 11 [false, false, false, true, false, true, true]), (45, qa (.iload 6) 2)]),
  (48, [(47, qa .ireturn 1)])]
-- 251 TinStencilsModel.leastLeft()I
def tb_251 : qz_B := [(10, [(0, qk (.iconst (-1)) 1 (-1)), (1, qa (.istore_n 1) 1), (2, qk (.iconst 0) 1 (nI 0)), (3, qm [true, true, true, false, false, false] (qa (.istore_n 2) 1)), (4, qa (.iload_n 2) 1), (5, qa (.aload_n 0) 1), (6, qa (.aload_n 0) 1), (7, qf (.getfield 489) 3 12 52 0)]),
  (24, [(10, qc (.invokevirtual 499) 3 249 2 1 [2, 4, 12]), (13, qj (.if_icmp .ge 142) 3 155 [false, true, false, false, false, false]), (16, qk (.iconst 1) 1 (nI 1)), (17, qa (.aload_n 0) 1), (18, qf (.getfield 489) 3 12 52 0), (21, qa .ishl 1), (22, qk (.iconst 1) 1 (nI 1)), (23, qa .isub 1)]),
  (38, [(24, qa (.istore_n 3) 1), (25, qk (.iconst 0) 1 (nI 0)), (26, qm [true, true, true, true, true, false] (qa (.istore 4) 2)), (28, qa (.iload 4) 2), (30, qa (.aload_n 0) 1), (31, qf (.getfield 489) 3 12 52 0), (34, qj (.if_icmp .ge 60) 3 94 [true, true, true, false, false, false]), (37, qa (.aload_n 0) 1)]),
  (49, [(38, qa (.iload_n 2) 1), (39, qa (.aload_n 0) 1), (40, qa (.aload_n 0) 1), (41, qf (.getfield 489) 3 12 52 0), (44, qk (.iconst 1) 1 (nI 1)), (45, qa .isub 1), (46, qa (.iload 4) 2), (48, qa .isub 1)]),
  (65, [(49, qc (.invokevirtual 499) 3 249 2 1 [2, 4, 12]), (52, qa (.iload_n 3) 1), (53, qa (.aload_n 0) 1), (54, qf (.getfield 489) 3 12 52 0), (57, qa (.iload 4) 2), (59, qa .isub 1), (60, qc (.invokevirtual 502) 3 250 5 1 [2, 7, 12]), (63, qa (.istore 5) 2)]),
  (74, [(65, qa (.iload_n 3) 1), (66, qk (.iconst 1) 1 (nI 1)), (67, qa (.iload 5) 2), (69, qa .ishl 1), (70, qk (.iconst (-1)) 1 (-1)), (71, qa .ixor 1), (72, qa .iand 1), (73, qa (.istore_n 3) 1)]),
  (88, [(74, qa (.aload_n 0) 1), (75, qf (.getfield 107) 3 12 47 1), (78, qa (.iload 4) 2), (80, qa (.aload_n 0) 1), (81, qf (.getfield 119) 3 12 51 1), (84, qa (.iload 5) 2), (86, qa .iaload 1), (87, qa .iastore 1)]),
  (105, [(88, qk (.iinc 4 1) 3 (nI 1)), (91, qj (.goto (-63)) 3 28 [true, true, true, true, true, false]), (94, qa (.aload_n 0) 1), (95, qc (.invokevirtual 505) 3 248 1 1 [5, 6, 12]), (98, qa (.istore 4) 2), (100, qa (.iload_n 1) 1), (101, qk (.iconst (-1)) 1 (-1)), (102, qj (.if_icmp .eq 12) 3 114 [true, false, true, false, true, false])]),
  (120, [(105, qa (.iload 4) 2), (107, qa (.iload_n 1) 1), (108, qj (.if_icmp .lt 6) 3 114 [true, false, true, false, true, false]), (111, qj (.goto 38) 3 149 [true, true, true, false, false, false]), (114, qa (.iload 4) 2), (116, qa (.istore_n 1) 1), (117, qk (.iconst 0) 1 (nI 0)), (118, qm [true, true, true, false, false, true] (qa (.istore 5) 2))]),
  (136, [(120, qa (.iload 5) 2), (122, qa (.aload_n 0) 1), (123, qf (.getfield 489) 3 12 52 0), (126, qj (.if_icmp .ge 23) 3 149 [true, true, true, false, false, false]), (129, qa (.aload_n 0) 1), (130, qf (.getfield 110) 3 12 48 1), (133, qa (.iload 5) 2), (135, qa (.aload_n 0) 1)]),
  (155, [(136, qf (.getfield 107) 3 12 47 1), (139, qa (.iload 5) 2), (141, qa .iaload 1), (142, qa .iastore 1), (143, qk (.iinc 5 1) 3 (nI 1)), (146, qj (.goto (-26)) 3 120 [true, true, true, false, false, true]), (149, qk (.iinc 2 1) 3 (nI 1)), (152, qj (.goto (-148)) 3 4 [true, true, true, false, false, false])]),
  (157, [(155, qa (.iload_n 1) 1), (156, qa .ireturn 1)])]
-- 252 TinStencilsModel.left(I)I
def tb_252 : qz_B := [(14, [(0, qa (.aload_n 0) 1), (1, qc (.invokevirtual 493) 3 237 1 0 [4, 5, 12]), (4, qa (.aload_n 0) 1), (5, qf (.getfield 489) 3 12 52 0), (8, qj (.ifCond .eq 28) 3 36 [false, false, false]), (11, qa (.iload_n 1) 1), (12, qk (.iconst 0) 1 (nI 0)), (13, qk (.iconst 1) 1 (nI 1))]),
  (30, [(14, qc (.invokestatic 156) 3 72 3 1 [0, 3]), (17, qj (.ifCond .ne 21) 3 38 [true, true, false]), (20, qa (.iload_n 1) 1), (21, qk (.bipush 10) 2 (nI 10)), (23, qk (.bipush 9) 2 (nI 9)), (25, qa (.aload_n 0) 1), (26, qf (.getfield 489) 3 12 52 0), (29, qa .iadd 1)]),
  (46, [(30, qc (.invokestatic 156) 3 72 3 1 [0, 3]), (33, qm [false, false, false] (qj (.ifCond .ne 5) 3 38 [true, true, false])), (36, qk (.iconst (-1)) 1 (-1)), (37, qm [true, true, false] (qa .ireturn 1)), (38, qa (.iload_n 1) 1), (39, qj (.ifCond .ne 12) 3 51 [true, true, false]), (42, qa (.aload_n 0) 1), (43, qc (.invokevirtual 496) 3 238 1 0 [4, 5, 12])]),
  (58, [(46, qa (.aload_n 0) 1), (47, qc (.invokevirtual 505) 3 248 1 1 [5, 6, 12]), (50, qm [true, true, false] (qa .ireturn 1)), (51, qa (.aload_n 0) 1), (52, qc (.invokevirtual 508) 3 251 1 1 [5, 6, 12]), (55, qa (.istore_n 2) 1), (56, qa (.iload_n 1) 1), (57, qk (.iconst 1) 1 (nI 1))]),
  (73, [(58, qj (.if_icmp .ne 7) 3 65 [true, true, false]), (61, qa (.iload_n 2) 1), (62, qj (.goto 12) 3 74 [false, false, false]), (65, qa (.aload_n 0) 1), (66, qf (.getfield 110) 3 12 48 1), (69, qa (.iload_n 1) 1), (70, qk (.bipush 10) 2 (nI 10)), (72, qa .isub 1)]),
  (75, [(73, qm [false, false, false] (qa .iaload 1)), (74, qa .ireturn 1)])]
-- 253 TinStencils.alikeSquares(LTinStencils$Sheet;LTinStencils$Sheet;III)I
def tb_253 : qz_B := [(15, [(0, qk (.iconst 0) 1 (nI 0)), (1, qa (.istore 5) 2), (3, qk (.iconst 0) 1 (nI 0)), (4, qm [true, true, true, true, true, true, true, false, false, false, false] (qa (.istore 6) 2)), (6, qa (.iload 6) 2), (8, qa (.aload_n 0) 1), (9, qf (.getfield 125) 3 8 2 0), (12, qj (.if_icmp .ge 125) 3 137 [false, false, false, false, false, true, false, false, false, false, false])]),
  (31, [(15, qa (.aload_n 0) 1), (16, qa (.iload 6) 2), (18, qa (.aload_n 0) 1), (19, qf (.getfield 131) 3 8 9 1), (22, qf (.getfield 140) 3 0 1 0), (25, qc (.invokevirtual 163) 3 117 3 1 [2, 5, 8]), (28, qa (.istore 7) 2), (30, qk (.iconst 0) 1 (nI 0))]),
  (47, [(31, qm [true, true, true, true, true, true, true, true, true, false, false] (qa (.istore 8) 2)), (33, qa (.iload 8) 2), (35, qa (.aload_n 0) 1), (36, qf (.getfield 122) 3 8 1 0), (39, qj (.if_icmp .ge 92) 3 131 [true, true, true, true, true, true, true, false, false, false, false]), (42, qa (.iload 8) 2), (44, qa (.iload 6) 2), (46, qa (.aload_n 0) 1)]),
  (62, [(47, qf (.getfield 122) 3 8 1 0), (50, qa (.aload_n 0) 1), (51, qf (.getfield 125) 3 8 2 0), (54, qa (.iload_n 2) 1), (55, qc (.invokestatic 366) 3 44 5 1 [0, 5]), (58, qa (.iload_n 3) 1), (59, qa .iadd 1), (60, qa (.istore 9) 2)]),
  (78, [(62, qa (.iload 8) 2), (64, qa (.iload 6) 2), (66, qa (.aload_n 0) 1), (67, qf (.getfield 122) 3 8 1 0), (70, qa (.aload_n 0) 1), (71, qf (.getfield 125) 3 8 2 0), (74, qa (.iload_n 2) 1), (75, qc (.invokestatic 370) 3 45 5 1 [0, 5])]),
  (94, [(78, qa (.iload 4) 2), (80, qa .iadd 1), (81, qa (.istore 10) 2), (83, qa (.aload_n 1) 1), (84, qa (.iload 9) 2), (86, qa (.iload 10) 2), (88, qc (.invokevirtual 156) 3 46 3 1 [0, 3, 8]), (91, qj (.ifCond .eq 34) 3 125 [true, true, true, true, true, true, true, true, true, false, false])]),
  (105, [(94, qa (.iload 7) 2), (96, qa (.iload 8) 2), (98, qa .ishr 1), (99, qk (.iconst 1) 1 (nI 1)), (100, qa .iand 1), (101, qa (.aload_n 1) 1), (102, qa (.iload 10) 2), (104, qa (.aload_n 1) 1)]),
  (122, [(105, qf (.getfield 131) 3 8 9 1), (108, qf (.getfield 140) 3 0 1 0), (111, qc (.invokevirtual 163) 3 117 3 1 [2, 5, 8]), (114, qa (.iload 9) 2), (116, qa .ishr 1), (117, qk (.iconst 1) 1 (nI 1)), (118, qa .iand 1), (119, qj (.if_icmp .ne 6) 3 125 [true, true, true, true, true, true, true, true, true, false, false])]),
  (140, [(122, qm [true, true, true, true, true, true, true, true, true, false, false] (qk (.iinc 5 1) 3 (nI 1))), (125, qk (.iinc 8 1) 3 (nI 1)), (128, qj (.goto (-95)) 3 33 [true, true, true, true, true, true, true, true, true, false, false]), (131, qk (.iinc 6 1) 3 (nI 1)), (134, qj (.goto (-128)) 3 6 [true, true, true, true, true, true, true, false, false, false, false]), (137, qa (.iload 5) 2), (139, qa .ireturn 1)])]
-- 254 TinStencils.alike(IIIII)I
def tb_254 : qz_B := [(14, [(0, qa (.aload_n 0) 1), (1, qa (.iload_n 1) 1), (2, qc (.invokevirtual 118) 3 115 2 3 [0, 2, 11]), (5, qa (.astore 6) 2), (7, qa (.aload_n 0) 1), (8, qa (.iload_n 2) 1), (9, qc (.invokevirtual 118) 3 115 2 3 [0, 2, 11]), (12, qa (.astore 7) 2)]),
  (30, [(14, qa (.aload 6) 2), (16, qj (.ifnull 17) 3 33 [false, false, false, false, false, false, false, false]), (19, qa (.aload 7) 2), (21, qj (.ifnull 12) 3 33 [false, false, false, false, false, false, false, false]), (24, qa (.iload_n 3) 1), (25, qj (.ifCond .lt 8) 3 33 [false, false, false, false, false, false, false, false]), (28, qa (.iload_n 3) 1), (29, qk (.iconst 3) 1 (nI 3))]),
  (46, [(30, qm [false, false, false, false, false, false, false, false] (qj (.if_icmp .le 5) 3 35 [false, false, false, true, true, true, true, true])), (33, qk (.iconst (-1)) 1 (-1)), (34, qm [false, false, false, true, true, true, true, true] (qa .ireturn 1)), (35, qa (.iload 4) 2), (37, qk (.bipush (-9)) 2 (-9)), (39, qj (.if_icmp .lt 24) 3 63 [false, false, false, false, false, false, false, false]), (42, qa (.iload 4) 2), (44, qk (.bipush 9) 2 (nI 9))]),
  (64, [(46, qj (.if_icmp .gt 17) 3 63 [false, false, false, false, false, false, false, false]), (49, qa (.iload 5) 2), (51, qk (.bipush (-9)) 2 (-9)), (53, qj (.if_icmp .lt 10) 3 63 [false, false, false, false, false, false, false, false]), (56, qa (.iload 5) 2), (58, qk (.bipush 9) 2 (nI 9)), (60, qm [false, false, false, false, false, false, false, false] (qj (.if_icmp .le 5) 3 65 [false, false, false, true, true, true, true, true])), (63, qk (.iconst (-1)) 1 (-1))]),
  (78, [(64, qm [false, false, false, true, true, true, true, true] (qa .ireturn 1)), (65, qa (.aload 6) 2), (67, qa (.aload 7) 2), (69, qa (.iload_n 3) 1), (70, qa (.iload 4) 2), (72, qa (.iload 5) 2), (74, qc (.invokestatic 298) 3 253 5 1 [6, 11]), (77, qa .ireturn 1)])]
-- 255 TinStencilsModel.alike(IIIII)I
def tb_255 : qz_B := [(16, [(0, qa (.aload_n 0) 1), (1, qa (.iload_n 1) 1), (2, qc (.invokevirtual 402) 3 120 2 1 [0, 2, 12]), (5, qj (.ifCond .eq 44) 3 49 [false, false, false, false, false, false, false, false, false, false, false]), (8, qa (.aload_n 0) 1), (9, qa (.iload_n 2) 1), (10, qc (.invokevirtual 402) 3 120 2 1 [0, 2, 12]), (13, qj (.ifCond .eq 36) 3 49 [false, false, false, false, false, false, false, false, false, false, false])]),
  (31, [(16, qa (.iload_n 3) 1), (17, qk (.iconst 0) 1 (nI 0)), (18, qk (.iconst 3) 1 (nI 3)), (19, qc (.invokestatic 156) 3 72 3 1 [0, 3]), (22, qj (.ifCond .eq 27) 3 49 [false, false, false, false, false, false, false, false, false, false, false]), (25, qa (.iload 4) 2), (27, qk (.bipush (-9)) 2 (-9)), (29, qk (.bipush 9) 2 (nI 9))]),
  (50, [(31, qc (.invokestatic 156) 3 72 3 1 [0, 3]), (34, qj (.ifCond .eq 15) 3 49 [false, false, false, false, false, false, false, false, false, false, false]), (37, qa (.iload 5) 2), (39, qk (.bipush (-9)) 2 (-9)), (41, qk (.bipush 9) 2 (nI 9)), (43, qc (.invokestatic 156) 3 72 3 1 [0, 3]), (46, qm [false, false, false, false, false, false, false, false, false, false, false] (qj (.ifCond .ne 5) 3 51 [true, true, true, true, true, true, false, false, false, false, false])), (49, qk (.iconst (-1)) 1 (-1))]),
  (61, [(50, qm [true, true, true, true, true, true, false, false, false, false, false] (qa .ireturn 1)), (51, qk (.iconst 0) 1 (nI 0)), (52, qa (.istore 6) 2), (54, qk (.iconst 0) 1 (nI 0)), (55, qm [true, true, true, true, true, true, true, true, false, false, false] (qa (.istore 7) 2)), (57, qa (.iload 7) 2), (59, qa (.aload_n 0) 1), (60, qa (.iload_n 1) 1)]),
  (77, [(61, qc (.invokevirtual 160) 3 81 2 1 [0, 2, 12]), (64, qj (.if_icmp .ge 132) 3 196 [false, false, false, false, false, false, true, false, false, false, false]), (67, qk (.iconst 0) 1 (nI 0)), (68, qm [true, true, true, true, true, true, true, true, true, false, false] (qa (.istore 8) 2)), (70, qa (.iload 8) 2), (72, qa (.aload_n 0) 1), (73, qa (.iload_n 1) 1), (74, qc (.invokevirtual 152) 3 82 2 1 [0, 2, 12])]),
  (91, [(77, qj (.if_icmp .ge 113) 3 190 [true, true, true, true, true, true, true, true, false, false, false]), (80, qa (.iload 8) 2), (82, qa (.iload 7) 2), (84, qa (.aload_n 0) 1), (85, qa (.iload_n 1) 1), (86, qc (.invokevirtual 152) 3 82 2 1 [0, 2, 12]), (89, qa (.aload_n 0) 1), (90, qa (.iload_n 1) 1)]),
  (106, [(91, qc (.invokevirtual 160) 3 81 2 1 [0, 2, 12]), (94, qa (.iload_n 3) 1), (95, qk (.iconst 0) 1 (nI 0)), (96, qc (.invokestatic 284) 3 93 6 1 [7, 13]), (99, qa (.iload 4) 2), (101, qa .iadd 1), (102, qa (.istore 9) 2), (104, qa (.iload 8) 2)]),
  (119, [(106, qa (.iload 7) 2), (108, qa (.aload_n 0) 1), (109, qa (.iload_n 1) 1), (110, qc (.invokevirtual 152) 3 82 2 1 [0, 2, 12]), (113, qa (.aload_n 0) 1), (114, qa (.iload_n 1) 1), (115, qc (.invokevirtual 160) 3 81 2 1 [0, 2, 12]), (118, qa (.iload_n 3) 1)]),
  (132, [(119, qk (.iconst 1) 1 (nI 1)), (120, qc (.invokestatic 284) 3 93 6 1 [7, 13]), (123, qa (.iload 5) 2), (125, qa .iadd 1), (126, qa (.istore 10) 2), (128, qa (.iload 6) 2), (130, qa (.aload_n 0) 1), (131, qa (.iload_n 2) 1)]),
  (148, [(132, qa (.iload 9) 2), (134, qa (.iload 10) 2), (136, qc (.invokevirtual 288) 3 94 4 1 [0, 4, 12]), (139, qj (.ifCond .eq 38) 3 177 [true, true, true, true, true, true, false, true, true, false, false]), (142, qa (.aload_n 0) 1), (143, qa (.iload_n 1) 1), (144, qa (.iload 8) 2), (146, qa (.iload 7) 2)]),
  (162, [(148, qa (.aload_n 0) 1), (149, qa (.iload_n 1) 1), (150, qc (.invokevirtual 405) 3 121 2 1 [0, 2, 12]), (153, qc (.invokevirtual 367) 3 122 5 1 [0, 5, 12]), (156, qa (.aload_n 0) 1), (157, qa (.iload_n 2) 1), (158, qa (.iload 9) 2), (160, qa (.iload 10) 2)]),
  (178, [(162, qa (.aload_n 0) 1), (163, qa (.iload_n 2) 1), (164, qc (.invokevirtual 405) 3 121 2 1 [0, 2, 12]), (167, qc (.invokevirtual 367) 3 122 5 1 [0, 5, 12]), (170, qj (.if_icmp .ne 7) 3 177 [true, true, true, true, true, true, false, true, true, false, false]), (173, qk (.iconst 1) 1 (nI 1)), (174, qj (.goto 4) 3 178 [true, true, true, true, true, true, false, true, true, false, false]), (177, qm [true, true, true, true, true, true, false, true, true, false, false] (qk (.iconst 0) 1 (nI 0)))]),
  (198, [(178, qc (.invokestatic 319) 3 104 1 1 [0, 1]), (181, qa .iadd 1), (182, qa (.istore 6) 2), (184, qk (.iinc 8 1) 3 (nI 1)), (187, qj (.goto (-117)) 3 70 [true, true, true, true, true, true, true, true, true, false, false]), (190, qk (.iinc 7 1) 3 (nI 1)), (193, qj (.goto (-136)) 3 57 [true, true, true, true, true, true, true, true, false, false, false]), (196, qa (.iload 6) 2)]),
  (199, [(198, qa .ireturn 1)])]
-- 256 TinStencils.turn(II)I
def tb_256 : qz_B := [(13, [(0, qa (.aload_n 0) 1), (1, qa (.iload_n 1) 1), (2, qc (.invokevirtual 118) 3 115 2 3 [0, 2, 11]), (5, qa (.astore_n 3) 1), (6, qa (.aload_n 0) 1), (7, qa (.iload_n 2) 1), (8, qc (.invokevirtual 118) 3 115 2 3 [0, 2, 11]), (11, qa (.astore 4) 2)]),
  (27, [(13, qa (.aload_n 3) 1), (14, qj (.ifnull 8) 3 22 [false, false, false, false, false, false, false, false, false]), (17, qa (.aload 4) 2), (19, qm [false, false, false, false, false, false, false, false, false] (qj (.ifnonnull 5) 3 24 [false, false, false, true, true, false, false, false, false])), (22, qk (.iconst (-1)) 1 (-1)), (23, qm [false, false, false, true, true, false, false, false, false] (qa .ireturn 1)), (24, qk (.iconst (-1)) 1 (-1)), (25, qa (.istore 5) 2)]),
  (40, [(27, qk (.iconst (-1)) 1 (-1)), (28, qa (.istore 6) 2), (30, qk (.iconst 0) 1 (nI 0)), (31, qm [false, false, false, true, true, true, true, true, false] (qa (.istore 7) 2)), (33, qa (.iload 7) 2), (35, qk (.iconst 4) 1 (nI 4)), (36, qj (.if_icmp .ge 36) 3 72 [false, false, false, false, false, true, false, false, false]), (39, qa (.aload_n 3) 1)]),
  (55, [(40, qa (.aload 4) 2), (42, qa (.iload 7) 2), (44, qk (.iconst 0) 1 (nI 0)), (45, qk (.iconst 0) 1 (nI 0)), (46, qc (.invokestatic 298) 3 253 5 1 [6, 11]), (49, qa (.istore 8) 2), (51, qa (.iload 8) 2), (53, qa (.iload 6) 2)]),
  (74, [(55, qj (.if_icmp .le 11) 3 66 [false, false, false, true, true, true, true, true, false]), (58, qa (.iload 8) 2), (60, qa (.istore 6) 2), (62, qa (.iload 7) 2), (64, qm [false, false, false, true, true, true, true, true, false] (qa (.istore 5) 2)), (66, qk (.iinc 7 1) 3 (nI 1)), (69, qj (.goto (-36)) 3 33 [false, false, false, true, true, true, true, true, false]), (72, qa (.iload 5) 2)]),
  (75, [(74, qa .ireturn 1)])]
-- 257 TinStencilsModel.turn(II)I
def tb_257 : qz_B := [(16, [(0, qa (.aload_n 0) 1), (1, qa (.iload_n 1) 1), (2, qc (.invokevirtual 402) 3 120 2 1 [0, 2, 12]), (5, qj (.ifCond .eq 11) 3 16 [false, false, false, false, false]), (8, qa (.aload_n 0) 1), (9, qa (.iload_n 2) 1), (10, qc (.invokevirtual 402) 3 120 2 1 [0, 2, 12]), (13, qm [false, false, false, false, false] (qj (.ifCond .ne 5) 3 18 [true, true, true, false, false]))]),
  (26, [(16, qk (.iconst (-1)) 1 (-1)), (17, qm [true, true, true, false, false] (qa .ireturn 1)), (18, qk (.iconst 0) 1 (nI 0)), (19, qa (.istore_n 3) 1), (20, qk (.iconst 1) 1 (nI 1)), (21, qa (.istore 4) 2), (23, qa (.iload 4) 2), (25, qk (.iconst 4) 1 (nI 4))]),
  (39, [(26, qj (.if_icmp .ge 34) 3 60 [false, false, false, true, false]), (29, qa (.aload_n 0) 1), (30, qa (.iload_n 1) 1), (31, qa (.iload_n 2) 1), (32, qa (.iload 4) 2), (34, qk (.iconst 0) 1 (nI 0)), (35, qk (.iconst 0) 1 (nI 0)), (36, qc (.invokevirtual 511) 3 255 6 1 [5, 11, 12])]),
  (51, [(39, qa (.aload_n 0) 1), (40, qa (.iload_n 1) 1), (41, qa (.iload_n 2) 1), (42, qa (.iload_n 3) 1), (43, qk (.iconst 0) 1 (nI 0)), (44, qk (.iconst 0) 1 (nI 0)), (45, qc (.invokevirtual 511) 3 255 6 1 [5, 11, 12]), (48, qj (.if_icmp .le 6) 3 54 [])]),
  (62, [(51, qa (.iload 4) 2), (53, qa (.istore_n 3) 1), (54, qk (.iinc 4 1) 3 (nI 1)), (57, qj (.goto (-34)) 3 23 []), (60, qa (.iload_n 3) 1), (61, qa .ireturn 1)])]
-- 258 TinStencils$Reading.costLeftOut(I)I
def tb_258 : qz_B := [(11, [(0, qk (.iconst 0) 1 (nI 0)), (1, qa (.istore_n 2) 1), (2, qk (.iconst 0) 1 (nI 0)), (3, qa (.istore_n 3) 1), (4, qa (.iload_n 3) 1), (5, qk (.bipush 8) 2 (nI 8)), (7, qj (.if_icmp .ge 22) 3 29 [false, false, true, false]), (10, qa (.iload_n 2) 1)]),
  (21, [(11, qa (.aload_n 0) 1), (12, qf (.getfield 11) 3 7 0 1), (15, qa (.iload_n 3) 1), (16, qa .iaload 1), (17, qa (.iload_n 1) 1), (18, qa .ishr 1), (19, qk (.iconst 1) 1 (nI 1)), (20, qa .iand 1)]),
  (31, [(21, qa .iadd 1), (22, qa (.istore_n 2) 1), (23, qk (.iinc 3 1) 3 (nI 1)), (26, qj (.goto (-22)) 3 4 []), (29, qa (.iload_n 2) 1), (30, qa .ireturn 1)])]
-- 259 TinStencils$Reading.costOf(LTinStencils$Sheet;II)I
def tb_259 : qz_B := [(11, [(0, qk (.iconst 0) 1 (nI 0)), (1, qa (.istore 4) 2), (3, qk (.iconst 1) 1 (nI 1)), (4, qa (.aload_n 1) 1), (5, qf (.getfield 53) 3 8 11 1), (8, qa (.iload_n 2) 1), (9, qa .iaload 1), (10, qa .ishl 1)]),
  (24, [(11, qk (.iconst 1) 1 (nI 1)), (12, qa .isub 1), (13, qa (.istore 5) 2), (15, qk (.iconst 0) 1 (nI 0)), (16, qa (.istore 6) 2), (18, qa (.iload 6) 2), (20, qa (.aload_n 1) 1), (21, qf (.getfield 79) 3 8 12 1)]),
  (38, [(24, qa (.iload_n 2) 1), (25, qa .iaload 1), (26, qj (.if_icmp .ge 42) 3 68 [false, false, false, false, true, false, false]), (29, qa (.iload 4) 2), (31, qa (.aload_n 0) 1), (32, qf (.getfield 11) 3 7 0 1), (35, qa (.iload 6) 2), (37, qa .iaload 1)]),
  (50, [(38, qa (.iload_n 3) 1), (39, qa .ishr 1), (40, qa (.iload 5) 2), (42, qa .iand 1), (43, qa (.aload_n 1) 1), (44, qf (.getfield 82) 3 8 13 1), (47, qa (.iload_n 2) 1), (48, qk (.bipush 8) 2 (nI 8))]),
  (62, [(50, qa .imul 1), (51, qa (.iload 6) 2), (53, qa .iadd 1), (54, qa .iaload 1), (55, qa .ixor 1), (56, qc (.invokestatic 85) 3 62 1 1 [0, 1]), (59, qa .iadd 1), (60, qa (.istore 4) 2)]),
  (71, [(62, qk (.iinc 6 1) 3 (nI 1)), (65, qj (.goto (-47)) 3 18 []), (68, qa (.iload 4) 2), (70, qa .ireturn 1)])]
-- 260 java/lang/Math.min(JJ)J
def tb_260 : qz_B := [(12, [(0, qa (.lload_n 0) 1), (1, qa (.lload_n 2) 1), (2, qa .lcmp 1), (3, qj (.ifCond .gt 7) 3 10 [false, false, true, true]), (6, qa (.lload_n 0) 1), (7, qj (.goto 4) 3 11 [false, false, false, false]), (10, qm [false, false, false, false] (qa (.lload_n 2) 1)), (11, qa .lreturn 1)])]
-- 261 TinStencils$Reading.weigh(III)V
def tb_261 : qz_B := [(12, [(0, qa (.iload_n 2) 1), (1, qa (.aload_n 0) 1), (2, qf (.getfield 15) 3 7 1 1), (5, qa (.iload_n 3) 1), (6, qa .iaload 1), (7, qa .iadd 1), (8, qa (.istore 4) 2), (10, qa (.iload 4) 2)]),
  (26, [(12, qa (.aload_n 0) 1), (13, qf (.getfield 15) 3 7 1 1), (16, qa (.iload_n 1) 1), (17, qa .iaload 1), (18, qj (.if_icmp .ge 40) 3 58 [true, true, false, true, true]), (21, qa (.aload_n 0) 1), (22, qf (.getfield 15) 3 7 1 1), (25, qa (.iload_n 1) 1)]),
  (39, [(26, qa (.iload 4) 2), (28, qa .iastore 1), (29, qa (.aload_n 0) 1), (30, qf (.getfield 18) 3 7 2 1), (33, qa (.iload_n 1) 1), (34, qa (.aload_n 0) 1), (35, qf (.getfield 18) 3 7 2 1), (38, qa (.iload_n 3) 1)]),
  (49, [(39, qa .iaload 1), (40, qk (.iconst 1) 1 (nI 1)), (41, qa .iadd 1), (42, qa .iastore 1), (43, qa (.aload_n 0) 1), (44, qf (.getfield 21) 3 7 3 1), (47, qa (.iload_n 1) 1), (48, qa (.aload_n 0) 1)]),
  (64, [(49, qf (.getfield 21) 3 7 3 1), (52, qa (.iload_n 3) 1), (53, qa .laload 1), (54, qa .lastore 1), (55, qj (.goto 62) 3 117 [false, false, false, false, false]), (58, qa (.iload 4) 2), (60, qa (.aload_n 0) 1), (61, qf (.getfield 15) 3 7 1 1)]),
  (78, [(64, qa (.iload_n 1) 1), (65, qa .iaload 1), (66, qj (.if_icmp .ne 51) 3 117 [false, false, false, false, false]), (69, qa (.aload_n 0) 1), (70, qf (.getfield 18) 3 7 2 1), (73, qa (.iload_n 1) 1), (74, qa (.aload_n 0) 1), (75, qf (.getfield 18) 3 7 2 1)]),
  (88, [(78, qa (.iload_n 1) 1), (79, qa .iaload 1), (80, qa (.aload_n 0) 1), (81, qf (.getfield 18) 3 7 2 1), (84, qa (.iload_n 3) 1), (85, qa .iaload 1), (86, qk (.iconst 1) 1 (nI 1)), (87, qa .iadd 1)]),
  (104, [(88, qc (.invokestatic 68) 3 136 2 1 [0, 2]), (91, qa .iastore 1), (92, qa (.aload_n 0) 1), (93, qf (.getfield 21) 3 7 3 1), (96, qa (.iload_n 1) 1), (97, ql (.ldc2_w 74) 3 (lN 1000000000000000000)), (100, qa (.aload_n 0) 1), (101, qf (.getfield 21) 3 7 3 1)]),
  (116, [(104, qa (.iload_n 1) 1), (105, qa .laload 1), (106, qa (.aload_n 0) 1), (107, qf (.getfield 21) 3 7 3 1), (110, qa (.iload_n 3) 1), (111, qa .laload 1), (112, qa .ladd 1), (113, qc (.invokestatic 76) 3 260 2 2 [0, 4])]),
  (118, [(116, qm [false, false, false, false, false] (qa .lastore 1)), (117, qa .return_ 1)])]
-- 262 TinStencils$Reading.shapeAt(LTinStencils$Sheet;I)I
def tb_262 : qz_B := [(12, [(0, qk (.iconst 0) 1 (nI 0)), (1, qm [true, true, true, true, false] (qa (.istore_n 3) 1)), (2, qa (.iload_n 3) 1), (3, qa (.aload_n 1) 1), (4, qf (.getfield 50) 3 8 10 0), (7, qj (.if_icmp .ge 72) 3 79 [false, false, false, false, false]), (10, qa (.iload_n 2) 1), (11, qa (.aload_n 1) 1)]),
  (26, [(12, qf (.getfield 53) 3 8 11 1), (15, qa (.iload_n 3) 1), (16, qa .iaload 1), (17, qa .iadd 1), (18, qa (.istore 4) 2), (20, qa (.iload 4) 2), (22, qa (.aload_n 1) 1), (23, qf (.getfield 44) 3 8 1 0)]),
  (39, [(26, qj (.if_icmp .gt 47) 3 73 [true, true, true, true, false]), (29, qa (.aload_n 0) 1), (30, qf (.getfield 18) 3 7 2 1), (33, qa (.iload 4) 2), (35, qa .iaload 1), (36, qk (.iconst 1) 1 (nI 1)), (37, qa .iadd 1), (38, qa (.aload_n 0) 1)]),
  (51, [(39, qf (.getfield 18) 3 7 2 1), (42, qa (.iload_n 2) 1), (43, qa .iaload 1), (44, qj (.if_icmp .ne 29) 3 73 [true, true, true, true, false]), (47, qa (.aload_n 0) 1), (48, qa (.aload_n 1) 1), (49, qa (.iload_n 3) 1), (50, qa (.iload_n 2) 1)]),
  (66, [(51, qc (.invokevirtual 56) 3 259 4 1 [3, 7, 7]), (54, qa (.aload_n 0) 1), (55, qf (.getfield 15) 3 7 1 1), (58, qa (.iload 4) 2), (60, qa .iaload 1), (61, qa .iadd 1), (62, qa (.aload_n 0) 1), (63, qf (.getfield 15) 3 7 1 1)]),
  (80, [(66, qa (.iload_n 2) 1), (67, qa .iaload 1), (68, qj (.if_icmp .ne 5) 3 73 [true, true, true, true, false]), (71, qa (.iload_n 3) 1), (72, qm [true, true, true, true, false] (qa .ireturn 1)), (73, qk (.iinc 3 1) 3 (nI 1)), (76, qj (.goto (-74)) 3 2 [true, true, true, true, false]), (79, qk (.iconst (-1)) 1 (-1))]),
  (81, [(80, qa .ireturn 1)])]
-- 263 TinStencils$Reading.follow(LTinStencils$Sheet;)V
def tb_263 : qz_B := [(10, [(0, qa (.aload_n 0) 1), (1, qk (.iconst 0) 1 (nI 0)), (2, qf (.putfield 31) 3 7 6 0), (5, qk (.iconst 0) 1 (nI 0)), (6, qa (.istore_n 2) 1), (7, qk (.iconst 0) 1 (nI 0)), (8, qm [true, true, true, true, false] (qa (.istore_n 3) 1)), (9, qa (.iload_n 3) 1)]),
  (24, [(10, qa (.aload_n 1) 1), (11, qf (.getfield 44) 3 8 1 0), (14, qj (.if_icmp .ge 85) 3 99 [false, false, false, false, false]), (17, qa (.iload_n 3) 1), (18, qa (.iload_n 2) 1), (19, qj (.if_icmp .ne 12) 3 31 [true, true, true, true, false]), (22, qa (.aload_n 0) 1), (23, qa (.aload_n 1) 1)]),
  (40, [(24, qa (.iload_n 3) 1), (25, qc (.invokevirtual 90) 3 262 3 1 [2, 5, 7]), (28, qj (.goto 4) 3 32 [true, true, true, true, false]), (31, qm [true, true, true, true, false] (qk (.iconst (-1)) 1 (-1))), (32, qa (.istore 4) 2), (34, qa (.iload 4) 2), (36, qk (.iconst (-1)) 1 (-1)), (37, qj (.if_icmp .eq 47) 3 84 [true, true, true, true, false])]),
  (55, [(40, qa (.aload_n 0) 1), (41, qf (.getfield 25) 3 7 4 1), (44, qa (.aload_n 0) 1), (45, qf (.getfield 31) 3 7 6 0), (48, qa (.iload 4) 2), (50, qa .iastore 1), (51, qa (.aload_n 0) 1), (52, qf (.getfield 28) 3 7 5 1)]),
  (67, [(55, qa (.aload_n 0) 1), (56, qf (.getfield 31) 3 7 6 0), (59, qa (.iload_n 3) 1), (60, qa .iastore 1), (61, qa (.aload_n 0) 1), (62, qa .dup 1), (63, qf (.getfield 31) 3 7 6 0), (66, qk (.iconst 1) 1 (nI 1))]),
  (80, [(67, qa .iadd 1), (68, qf (.putfield 31) 3 7 6 0), (71, qa (.iload_n 3) 1), (72, qa (.aload_n 1) 1), (73, qf (.getfield 53) 3 8 11 1), (76, qa (.iload 4) 2), (78, qa .iaload 1), (79, qa .iadd 1)]),
  (92, [(80, qa (.istore_n 2) 1), (81, qj (.goto 12) 3 93 [true, true, true, true, false]), (84, qa (.iload_n 3) 1), (85, qa (.iload_n 2) 1), (86, qj (.if_icmp .ne 7) 3 93 [true, true, true, true, false]), (89, qa (.iload_n 3) 1), (90, qk (.iconst 1) 1 (nI 1)), (91, qa .iadd 1)]),
  (100, [(92, qm [true, true, true, true, false] (qa (.istore_n 2) 1)), (93, qk (.iinc 3 1) 3 (nI 1)), (96, qj (.goto (-87)) 3 9 [true, true, true, true, false]), (99, qa .return_ 1)])]
-- 264 TinStencils$Reading.cover(LTinStencils$Sheet;I)V
def tb_264 : qz_B := [(13, [(0, qk (.iconst 0) 1 (nI 0)), (1, qm [true, true, true, true, false] (qa (.istore_n 3) 1)), (2, qa (.iload_n 3) 1), (3, qk (.bipush 8) 2 (nI 8)), (5, qj (.if_icmp .ge 36) 3 41 [true, true, false, false, false]), (8, qa (.aload_n 0) 1), (9, qf (.getfield 11) 3 7 0 1), (12, qa (.iload_n 3) 1)]),
  (25, [(13, qa (.iload_n 2) 1), (14, qa (.iload_n 3) 1), (15, qa .iadd 1), (16, qa (.aload_n 1) 1), (17, qf (.getfield 35) 3 8 2 0), (20, qj (.if_icmp .ge 13) 3 33 [true, true, true, true, false]), (23, qa (.aload_n 1) 1), (24, qa (.iload_n 2) 1)]),
  (41, [(25, qa (.iload_n 3) 1), (26, qa .iadd 1), (27, qc (.invokevirtual 40) 3 241 2 1 [0, 2, 8]), (30, qj (.goto 4) 3 34 [true, true, true, true, false]), (33, qm [true, true, true, true, false] (qk (.iconst 0) 1 (nI 0))), (34, qa .iastore 1), (35, qk (.iinc 3 1) 3 (nI 1)), (38, qj (.goto (-36)) 3 2 [true, true, true, true, false])]),
  (55, [(41, qa (.aload_n 0) 1), (42, qf (.getfield 15) 3 7 1 1), (45, qa (.aload_n 1) 1), (46, qf (.getfield 44) 3 8 1 0), (49, qk (.iconst 0) 1 (nI 0)), (50, qa .iastore 1), (51, qa (.aload_n 0) 1), (52, qf (.getfield 18) 3 7 2 1)]),
  (69, [(55, qa (.aload_n 1) 1), (56, qf (.getfield 44) 3 8 1 0), (59, qk (.iconst 0) 1 (nI 0)), (60, qa .iastore 1), (61, qa (.aload_n 0) 1), (62, qf (.getfield 21) 3 7 3 1), (65, qa (.aload_n 1) 1), (66, qf (.getfield 44) 3 8 1 0)]),
  (79, [(69, ql (.lconst 1) 1 (lN 1)), (70, qa .lastore 1), (71, qa (.aload_n 1) 1), (72, qf (.getfield 44) 3 8 1 0), (75, qk (.iconst 1) 1 (nI 1)), (76, qa .isub 1), (77, qm [true, true, false, true, false] (qa (.istore_n 3) 1)), (78, qa (.iload_n 3) 1)]),
  (93, [(79, qj (.ifCond .lt 113) 3 192 [true, true, false, false, false]), (82, qa (.aload_n 0) 1), (83, qf (.getfield 15) 3 7 1 1), (86, qa (.iload_n 3) 1), (87, qa (.aload_n 0) 1), (88, qa (.iload_n 3) 1), (89, qc (.invokevirtual 47) 3 258 2 1 [2, 4, 7]), (92, qa (.aload_n 0) 1)]),
  (103, [(93, qf (.getfield 15) 3 7 1 1), (96, qa (.iload_n 3) 1), (97, qk (.iconst 1) 1 (nI 1)), (98, qa .iadd 1), (99, qa .iaload 1), (100, qa .iadd 1), (101, qa .iastore 1), (102, qa (.aload_n 0) 1)]),
  (115, [(103, qf (.getfield 18) 3 7 2 1), (106, qa (.iload_n 3) 1), (107, qa (.aload_n 0) 1), (108, qf (.getfield 18) 3 7 2 1), (111, qa (.iload_n 3) 1), (112, qk (.iconst 1) 1 (nI 1)), (113, qa .iadd 1), (114, qa .iaload 1)]),
  (127, [(115, qa .iastore 1), (116, qa (.aload_n 0) 1), (117, qf (.getfield 21) 3 7 3 1), (120, qa (.iload_n 3) 1), (121, qa (.aload_n 0) 1), (122, qf (.getfield 21) 3 7 3 1), (125, qa (.iload_n 3) 1), (126, qk (.iconst 1) 1 (nI 1))]),
  (139, [(127, qa .iadd 1), (128, qa .laload 1), (129, qa .lastore 1), (130, qk (.iconst 0) 1 (nI 0)), (131, qm [true, true, false, true, true] (qa (.istore 4) 2)), (133, qa (.iload 4) 2), (135, qa (.aload_n 1) 1), (136, qf (.getfield 50) 3 8 10 0)]),
  (152, [(139, qj (.if_icmp .ge 47) 3 186 [true, true, false, true, false]), (142, qa (.iload_n 3) 1), (143, qa (.aload_n 1) 1), (144, qf (.getfield 53) 3 8 11 1), (147, qa (.iload 4) 2), (149, qa .iaload 1), (150, qa .iadd 1), (151, qa (.aload_n 1) 1)]),
  (165, [(152, qf (.getfield 44) 3 8 1 0), (155, qj (.if_icmp .gt 25) 3 180 [true, true, false, true, true]), (158, qa (.aload_n 0) 1), (159, qa (.iload_n 3) 1), (160, qa (.aload_n 0) 1), (161, qa (.aload_n 1) 1), (162, qa (.iload 4) 2), (164, qa (.iload_n 3) 1)]),
  (180, [(165, qc (.invokevirtual 56) 3 259 4 1 [3, 7, 7]), (168, qa (.iload_n 3) 1), (169, qa (.aload_n 1) 1), (170, qf (.getfield 53) 3 8 11 1), (173, qa (.iload 4) 2), (175, qa .iaload 1), (176, qa .iadd 1), (177, qm [true, true, false, true, true] (qc (.invokevirtual 60) 3 261 4 0 [1, 5, 7]))]),
  (198, [(180, qk (.iinc 4 1) 3 (nI 1)), (183, qj (.goto (-50)) 3 133 [true, true, false, true, true]), (186, qk (.iinc 3 (-1)) 3 (-1)), (189, qj (.goto (-111)) 3 78 [true, true, false, true, false]), (192, qa (.aload_n 0) 1), (193, qa (.aload_n 1) 1), (194, qc (.invokevirtual 64) 3 263 2 0 [3, 5, 7]), (197, qa .return_ 1)])]
-- 265 TinStencils$Reading.told(I)J
def tb_265 : qz_B := [(12, [(0, qa (.iload_n 1) 1), (1, qj (.ifCond .ne 11) 3 12 []), (4, qa (.aload_n 0) 1), (5, qf (.getfield 15) 3 7 1 1), (8, qk (.iconst 0) 1 (nI 0)), (9, qa .iaload 1), (10, qa .i2l 1), (11, qa .lreturn 1)]),
  (24, [(12, qa (.iload_n 1) 1), (13, qk (.iconst 1) 1 (nI 1)), (14, qj (.if_icmp .ne 9) 3 23 []), (17, qa (.aload_n 0) 1), (18, qf (.getfield 31) 3 7 6 0), (21, qa .i2l 1), (22, qa .lreturn 1), (23, qa (.iload_n 1) 1)]),
  (36, [(24, qk (.iconst 2) 1 (nI 2)), (25, qj (.if_icmp .ne 10) 3 35 []), (28, qa (.aload_n 0) 1), (29, qf (.getfield 21) 3 7 3 1), (32, qk (.iconst 0) 1 (nI 0)), (33, qa .laload 1), (34, qa .lreturn 1), (35, qa (.iload_n 1) 1)]),
  (52, [(36, qk (.bipush 10) 2 (nI 10)), (38, qj (.if_icmp .lt 25) 3 63 []), (41, qa (.iload_n 1) 1), (42, qk (.bipush 10) 2 (nI 10)), (44, qa (.aload_n 0) 1), (45, qf (.getfield 31) 3 7 6 0), (48, qa .iadd 1), (49, qj (.if_icmp .ge 14) 3 63 [])]),
  (63, [(52, qa (.aload_n 0) 1), (53, qf (.getfield 25) 3 7 4 1), (56, qa (.iload_n 1) 1), (57, qk (.bipush 10) 2 (nI 10)), (59, qa .isub 1), (60, qa .iaload 1), (61, qa .i2l 1), (62, qa .lreturn 1)]),
  (77, [(63, qa (.iload_n 1) 1), (64, qk (.bipush 40) 2 (nI 40)), (66, qj (.if_icmp .lt 27) 3 93 [false, false]), (69, qa (.iload_n 1) 1), (70, qk (.bipush 40) 2 (nI 40)), (72, qa (.aload_n 0) 1), (73, qf (.getfield 31) 3 7 6 0), (76, qa .iadd 1)]),
  (90, [(77, qj (.if_icmp .ge 16) 3 93 [false, false]), (80, qa (.aload_n 0) 1), (81, qf (.getfield 28) 3 7 5 1), (84, qa (.iload_n 1) 1), (85, qk (.bipush 40) 2 (nI 40)), (87, qa .isub 1), (88, qa .iaload 1), (89, qa .i2l 1)]),
  (97, [(90, qj (.goto 6) 3 96 [false, false]), (93, qm [false, false] (ql (.ldc2_w 94) 3 (-1))), (96, qa .lreturn 1)])]
-- 266 TinStencils.read(III)J
def tb_266 : qz_B := [(16, [(0, qa (.aload_n 0) 1), (1, qa (.iload_n 1) 1), (2, qc (.invokevirtual 118) 3 115 2 3 [0, 2, 11]), (5, qa (.astore 4) 2), (7, qa (.aload 4) 2), (9, qj (.ifnull 16) 3 25 [false, false, false, false, false]), (12, qa (.iload_n 2) 1), (13, qj (.ifCond .lt 12) 3 25 [false, false, false, false, false])]),
  (33, [(16, qa (.iload_n 2) 1), (17, qa (.aload 4) 2), (19, qf (.getfield 125) 3 8 2 0), (22, qm [false, false, false, false, false] (qj (.if_icmp .lt 7) 3 29 [true, false, true, true, true])), (25, ql (.ldc2_w 302) 3 (-1)), (28, qm [true, false, true, true, true] (qa .lreturn 1)), (29, qa (.aload_n 0) 1), (30, qf (.getfield 82) 3 11 13 1)]),
  (48, [(33, qa (.aload 4) 2), (35, qa (.iload_n 2) 1), (36, qc (.invokevirtual 304) 3 264 3 0 [2, 5, 7]), (39, qa (.aload_n 0) 1), (40, qf (.getfield 82) 3 11 13 1), (43, qa (.iload_n 3) 1), (44, qc (.invokevirtual 307) 3 265 2 2 [0, 2, 7]), (47, qa .lreturn 1)])]
-- 267 TinStencilsModel.unlike(IIII)I
def tb_267 : qz_B := [(13, [(0, qk (.iconst 0) 1 (nI 0)), (1, qa (.istore 5) 2), (3, qk (.iconst 0) 1 (nI 0)), (4, qm [true, true, true, true, true, true, true, false, false] (qa (.istore 6) 2)), (6, qa (.iload 6) 2), (8, qa (.aload_n 0) 1), (9, qf (.getfield 35) 3 12 8 1), (12, qa (.iload_n 2) 1)]),
  (27, [(13, qa .iaload 1), (14, qj (.if_icmp .ge 106) 3 120 [false, false, false, false, false, true, false, false, false]), (17, qk (.iconst 0) 1 (nI 0)), (18, qm [true, true, true, true, true, true, true, true, false] (qa (.istore 7) 2)), (20, qa (.iload 7) 2), (22, qa (.aload_n 0) 1), (23, qf (.getfield 32) 3 12 7 1), (26, qa (.iload_n 2) 1)]),
  (41, [(27, qa .iaload 1), (28, qj (.if_icmp .ge 86) 3 114 [true, true, true, true, true, true, true, false, false]), (31, qa (.iload 4) 2), (33, qa (.iload 6) 2), (35, qa .iadd 1), (36, qa (.aload_n 0) 1), (37, qa (.iload_n 1) 1), (38, qc (.invokevirtual 160) 3 81 2 1 [0, 2, 12])]),
  (54, [(41, qj (.if_icmp .ge 25) 3 66 [true, true, true, true, true, true, true, true, false]), (44, qa (.aload_n 0) 1), (45, qa (.iload_n 1) 1), (46, qa (.iload_n 3) 1), (47, qa (.iload 7) 2), (49, qa .iadd 1), (50, qa (.iload 4) 2), (52, qa (.iload 6) 2)]),
  (70, [(54, qa .iadd 1), (55, qa (.aload_n 0) 1), (56, qa (.iload_n 1) 1), (57, qc (.invokevirtual 405) 3 121 2 1 [0, 2, 12]), (60, qc (.invokevirtual 367) 3 122 5 1 [0, 5, 12]), (63, qm [true, true, true, true, true, true, true, true, false] (qj (.ifCond .eq 7) 3 70 [true, true, true, true, true, true, true, true, false])), (66, qk (.iconst 1) 1 (nI 1)), (67, qj (.goto 4) 3 71 [true, true, true, true, true, true, true, true, false])]),
  (83, [(70, qm [true, true, true, true, true, true, true, true, false] (qk (.iconst 0) 1 (nI 0))), (71, qa (.istore 8) 2), (73, qa (.iload 5) 2), (75, qa (.aload_n 0) 1), (76, qf (.getfield 38) 3 12 9 1), (79, qk (.bipush 8) 2 (nI 8)), (81, qa (.iload_n 2) 1), (82, qa .imul 1)]),
  (98, [(83, qa (.iload 6) 2), (85, qa .iadd 1), (86, qa .iaload 1), (87, qa (.iload 7) 2), (89, qc (.invokestatic 281) 3 92 2 1 [0, 2]), (92, qa (.iload 8) 2), (94, qj (.if_icmp .ne 7) 3 101 [true, true, true, true, true, false, true, true, false]), (97, qk (.iconst 1) 1 (nI 1))]),
  (117, [(98, qj (.goto 4) 3 102 [true, true, true, true, true, false, true, true, false]), (101, qm [true, true, true, true, true, false, true, true, false] (qk (.iconst 0) 1 (nI 0))), (102, qc (.invokestatic 319) 3 104 1 1 [0, 1]), (105, qa .iadd 1), (106, qa (.istore 5) 2), (108, qk (.iinc 7 1) 3 (nI 1)), (111, qj (.goto (-91)) 3 20 [true, true, true, true, true, true, true, true, false]), (114, qk (.iinc 6 1) 3 (nI 1))]),
  (123, [(117, qj (.goto (-111)) 3 6 [true, true, true, true, true, true, true, false, false]), (120, qa (.iload 5) 2), (122, qa .ireturn 1)])]
-- 268 TinStencilsModel.takesIn(IIIII)V
def tb_268 : qz_B := [(12, [(0, qa (.iload_n 2) 1), (1, qa (.aload_n 0) 1), (2, qf (.getfield 122) 3 12 53 1), (5, qa (.iload_n 1) 1), (6, qa .iaload 1), (7, qj (.if_icmp .lt 23) 3 30 []), (10, qa (.iload_n 2) 1), (11, qa (.aload_n 0) 1)]),
  (26, [(12, qf (.getfield 122) 3 12 53 1), (15, qa (.iload_n 1) 1), (16, qa .iaload 1), (17, qj (.if_icmp .ne 28) 3 45 [true, true, true, false, true, false]), (20, qa (.iload_n 3) 1), (21, qa (.aload_n 0) 1), (22, qf (.getfield 125) 3 12 54 1), (25, qa (.iload_n 1) 1)]),
  (38, [(26, qa .iaload 1), (27, qj (.if_icmp .ge 18) 3 45 [true, true, true, false, true, false]), (30, qa (.aload_n 0) 1), (31, qf (.getfield 125) 3 12 54 1), (34, qa (.iload_n 1) 1), (35, qa (.iload_n 3) 1), (36, qa .iastore 1), (37, qa (.aload_n 0) 1)]),
  (53, [(38, qf (.getfield 128) 3 12 55 1), (41, qa (.iload_n 1) 1), (42, qa (.iload 5) 2), (44, qm [true, true, true, false, true, false] (qa .iastore 1)), (45, qa (.aload_n 0) 1), (46, qf (.getfield 131) 3 12 56 1), (49, qa (.iload_n 1) 1), (50, ql (.ldc2_w 514) 3 (lN 1000000000000000000))]),
  (67, [(53, qa (.iload_n 2) 1), (54, qa (.aload_n 0) 1), (55, qf (.getfield 122) 3 12 53 1), (58, qa (.iload_n 1) 1), (59, qa .iaload 1), (60, qj (.if_icmp .ge 13) 3 73 [true, true, true, false, true, false]), (63, qa (.aload_n 0) 1), (64, qf (.getfield 131) 3 12 56 1)]),
  (80, [(67, qa (.iload 4) 2), (69, qa .laload 1), (70, qj (.goto 36) 3 106 [true, true, true, false, false, false]), (73, qa (.iload_n 2) 1), (74, qa (.aload_n 0) 1), (75, qf (.getfield 122) 3 12 53 1), (78, qa (.iload_n 1) 1), (79, qa .iaload 1)]),
  (95, [(80, qj (.if_icmp .ne 20) 3 100 [true, true, true, false, false, false]), (83, qa (.aload_n 0) 1), (84, qf (.getfield 131) 3 12 56 1), (87, qa (.iload_n 1) 1), (88, qa .laload 1), (89, qa (.aload_n 0) 1), (90, qf (.getfield 131) 3 12 56 1), (93, qa (.iload 4) 2)]),
  (109, [(95, qa .laload 1), (96, qa .ladd 1), (97, qj (.goto 9) 3 106 [true, true, true, false, false, false]), (100, qa (.aload_n 0) 1), (101, qf (.getfield 131) 3 12 56 1), (104, qa (.iload_n 1) 1), (105, qm [true, true, true, false, false, false] (qa .laload 1)), (106, qc (.invokestatic 516) 3 260 2 2 [0, 4])]),
  (121, [(109, qa .lastore 1), (110, qa (.aload_n 0) 1), (111, qf (.getfield 122) 3 12 53 1), (114, qa (.iload_n 1) 1), (115, qa (.aload_n 0) 1), (116, qf (.getfield 122) 3 12 53 1), (119, qa (.iload_n 1) 1), (120, qa .iaload 1)]),
  (127, [(121, qa (.iload_n 2) 1), (122, qc (.invokestatic 476) 3 136 2 1 [0, 2]), (125, qa .iastore 1), (126, qa .return_ 1)])]
-- 269 TinStencilsModel.leftOut(III)I
def tb_269 : qz_B := [(12, [(0, qk (.iconst 0) 1 (nI 0)), (1, qa (.istore 4) 2), (3, qa (.iload_n 3) 1), (4, qa (.istore 5) 2), (6, qa (.iload 5) 2), (8, qa (.iload_n 3) 1), (9, qk (.bipush 8) 2 (nI 8)), (11, qa .iadd 1)]),
  (27, [(12, qa (.aload_n 0) 1), (13, qa (.iload_n 1) 1), (14, qc (.invokevirtual 160) 3 81 2 1 [0, 2, 12]), (17, qc (.invokestatic 476) 3 136 2 1 [0, 2]), (20, qj (.if_icmp .ge 38) 3 58 [false, false, false, false, true, false]), (23, qa (.iload 4) 2), (25, qa (.aload_n 0) 1), (26, qa (.iload_n 1) 1)]),
  (42, [(27, qa (.iload_n 2) 1), (28, qa (.iload 5) 2), (30, qa (.aload_n 0) 1), (31, qa (.iload_n 1) 1), (32, qc (.invokevirtual 405) 3 121 2 1 [0, 2, 12]), (35, qc (.invokevirtual 367) 3 122 5 1 [0, 5, 12]), (38, qj (.ifCond .ne 7) 3 45 [true, true, true, true, false, true]), (41, qk (.iconst 1) 1 (nI 1))]),
  (60, [(42, qj (.goto 4) 3 46 [true, true, true, true, false, true]), (45, qm [true, true, true, true, false, true] (qk (.iconst 0) 1 (nI 0))), (46, qc (.invokestatic 319) 3 104 1 1 [0, 1]), (49, qa .iadd 1), (50, qa (.istore 4) 2), (52, qk (.iinc 5 1) 3 (nI 1)), (55, qj (.goto (-49)) 3 6 []), (58, qa (.iload 4) 2)]),
  (61, [(60, qa .ireturn 1)])]
-- 270 TinStencilsModel.reads(II)V
def tb_270 : qz_B := [(12, [(0, qa (.aload_n 0) 1), (1, qa (.iload_n 1) 1), (2, qc (.invokevirtual 152) 3 82 2 1 [0, 2, 12]), (5, qa (.istore_n 3) 1), (6, qa (.aload_n 0) 1), (7, qf (.getfield 122) 3 12 53 1), (10, qa (.iload_n 3) 1), (11, qk (.iconst 0) 1 (nI 0))]),
  (24, [(12, qa .iastore 1), (13, qa (.aload_n 0) 1), (14, qf (.getfield 125) 3 12 54 1), (17, qa (.iload_n 3) 1), (18, qk (.iconst 0) 1 (nI 0)), (19, qa .iastore 1), (20, qa (.aload_n 0) 1), (21, qf (.getfield 131) 3 12 56 1)]),
  (34, [(24, qa (.iload_n 3) 1), (25, ql (.lconst 1) 1 (lN 1)), (26, qa .lastore 1), (27, qa (.iload_n 3) 1), (28, qk (.iconst 1) 1 (nI 1)), (29, qa .isub 1), (30, qm [true, true, true, true, true, false, false] (qa (.istore 4) 2)), (32, qa (.iload 4) 2)]),
  (51, [(34, qj (.ifCond .lt 155) 3 189 [false, false, false, false, false, false, false]), (37, qa (.aload_n 0) 1), (38, qf (.getfield 122) 3 12 53 1), (41, qa (.iload 4) 2), (43, qk (.ldc_w 475) 3 (nI 1000000000)), (46, qa .iastore 1), (47, qa (.aload_n 0) 1), (48, qf (.getfield 131) 3 12 56 1)]),
  (64, [(51, qa (.iload 4) 2), (53, ql (.lconst 0) 1 (lN 0)), (54, qa .lastore 1), (55, qk (.iconst 0) 1 (nI 0)), (56, qm [true, true, true, true, true, true, false] (qa (.istore 5) 2)), (58, qa (.iload 5) 2), (60, qa (.aload_n 0) 1), (61, qf (.getfield 17) 3 12 2 1)]),
  (76, [(64, qk (.bipush 16) 2 (nI 16)), (66, qa (.iload_n 1) 1), (67, qa .imul 1), (68, qk (.iconst 3) 1 (nI 3)), (69, qa .iadd 1), (70, qa .iaload 1), (71, qj (.if_icmp .ge 74) 3 145 [true, true, true, true, true, false, false]), (74, qa (.iload 4) 2)]),
  (88, [(76, qa (.aload_n 0) 1), (77, qf (.getfield 32) 3 12 7 1), (80, qk (.bipush 8) 2 (nI 8)), (82, qa (.iload_n 1) 1), (83, qa .imul 1), (84, qa (.iload 5) 2), (86, qa .iadd 1), (87, qa .iaload 1)]),
  (101, [(88, qa .iadd 1), (89, qa (.istore 6) 2), (91, qa (.iload 6) 2), (93, qa (.iload_n 3) 1), (94, qj (.if_icmp .gt 45) 3 139 [true, true, true, true, true, true, false]), (97, qa (.aload_n 0) 1), (98, qa (.iload 4) 2), (100, qa (.aload_n 0) 1)]),
  (113, [(101, qf (.getfield 122) 3 12 53 1), (104, qa (.iload 6) 2), (106, qa .iaload 1), (107, qa (.aload_n 0) 1), (108, qa (.iload_n 1) 1), (109, qk (.bipush 8) 2 (nI 8)), (111, qa (.iload_n 1) 1), (112, qa .imul 1)]),
  (127, [(113, qa (.iload 5) 2), (115, qa .iadd 1), (116, qa (.iload 4) 2), (118, qa (.iload_n 2) 1), (119, qc (.invokevirtual 519) 3 267 5 1 [4, 9, 12]), (122, qa .iadd 1), (123, qa (.aload_n 0) 1), (124, qf (.getfield 125) 3 12 54 1)]),
  (142, [(127, qa (.iload 6) 2), (129, qa .iaload 1), (130, qk (.iconst 1) 1 (nI 1)), (131, qa .iadd 1), (132, qa (.iload 6) 2), (134, qa (.iload 5) 2), (136, qm [true, true, true, true, true, true, false] (qc (.invokevirtual 522) 3 268 6 0 [0, 6, 12])), (139, qk (.iinc 5 1) 3 (nI 1))]),
  (156, [(142, qj (.goto (-84)) 3 58 [true, true, true, true, true, true, false]), (145, qa (.aload_n 0) 1), (146, qa (.iload 4) 2), (148, qa (.aload_n 0) 1), (149, qf (.getfield 122) 3 12 53 1), (152, qa (.iload 4) 2), (154, qk (.iconst 1) 1 (nI 1)), (155, qa .iadd 1)]),
  (167, [(156, qa .iaload 1), (157, qa (.aload_n 0) 1), (158, qa (.iload_n 1) 1), (159, qa (.iload 4) 2), (161, qa (.iload_n 2) 1), (162, qc (.invokevirtual 526) 3 269 4 1 [2, 6, 12]), (165, qa .iadd 1), (166, qa (.aload_n 0) 1)]),
  (179, [(167, qf (.getfield 125) 3 12 54 1), (170, qa (.iload 4) 2), (172, qk (.iconst 1) 1 (nI 1)), (173, qa .iadd 1), (174, qa .iaload 1), (175, qa (.iload 4) 2), (177, qk (.iconst 1) 1 (nI 1)), (178, qa .iadd 1)]),
  (190, [(179, qk (.iconst (-1)) 1 (-1)), (180, qc (.invokevirtual 522) 3 268 6 0 [0, 6, 12]), (183, qk (.iinc 4 (-1)) 3 (-1)), (186, qj (.goto (-154)) 3 32 [true, true, true, true, true, false, false]), (189, qa .return_ 1)])]
-- 271 TinStencilsModel.read(III)J
def tb_271 : qz_B := [(12, [(0, qa (.aload_n 0) 1), (1, qa (.iload_n 1) 1), (2, qc (.invokevirtual 402) 3 120 2 1 [0, 2, 12]), (5, qj (.ifCond .eq 18) 3 23 [false, false, false, false, false, false, false]), (8, qa (.iload_n 2) 1), (9, qk (.iconst 0) 1 (nI 0)), (10, qa (.aload_n 0) 1), (11, qa (.iload_n 1) 1)]),
  (28, [(12, qc (.invokevirtual 160) 3 81 2 1 [0, 2, 12]), (15, qk (.iconst 1) 1 (nI 1)), (16, qa .isub 1), (17, qc (.invokestatic 156) 3 72 3 1 [0, 3]), (20, qm [false, false, false, false, false, false, false] (qj (.ifCond .ne 7) 3 27 [true, true, true, true, false, false, false])), (23, ql (.ldc2_w 529) 3 (-1)), (26, qm [true, true, true, true, false, false, false] (qa .lreturn 1)), (27, qa (.aload_n 0) 1)]),
  (42, [(28, qa (.iload_n 1) 1), (29, qa (.iload_n 2) 1), (30, qc (.invokevirtual 531) 3 270 3 0 [4, 7, 12]), (33, qa (.iload_n 3) 1), (34, qk (.iconst 0) 1 (nI 0)), (35, qk (.iconst 2) 1 (nI 2)), (36, qc (.invokestatic 156) 3 72 3 1 [0, 3]), (39, qj (.ifCond .eq 39) 3 78 [true, true, false, true, false, false, false])]),
  (56, [(42, qa (.iload_n 3) 1), (43, qj (.ifCond .ne 13) 3 56 [true, false, false, true, false, false, false]), (46, qa (.aload_n 0) 1), (47, qf (.getfield 122) 3 12 53 1), (50, qk (.iconst 0) 1 (nI 0)), (51, qa .iaload 1), (52, qa .i2l 1), (53, qj (.goto 24) 3 77 [false, false, false, false, false, false, false])]),
  (68, [(56, qa (.iload_n 3) 1), (57, qk (.iconst 1) 1 (nI 1)), (58, qj (.if_icmp .ne 13) 3 71 [true, false, false, false, false, false, false]), (61, qa (.aload_n 0) 1), (62, qf (.getfield 125) 3 12 54 1), (65, qk (.iconst 0) 1 (nI 0)), (66, qa .iaload 1), (67, qa .i2l 1)]),
  (81, [(68, qj (.goto 9) 3 77 [false, false, false, false, false, false, false]), (71, qa (.aload_n 0) 1), (72, qf (.getfield 131) 3 12 56 1), (75, qk (.iconst 0) 1 (nI 0)), (76, qm [false, false, false, false, false, false, false] (qa .laload 1)), (77, qm [true, true, false, true, false, false, false] (qa .lreturn 1)), (78, qa (.iload_n 3) 1), (79, qk (.bipush 10) 2 (nI 10))]),
  (100, [(81, qk (.bipush 29) 2 (nI 29)), (83, qc (.invokestatic 156) 3 72 3 1 [0, 3]), (86, qj (.ifCond .ne 18) 3 104 [true, true, false, true, false, false, false]), (89, qa (.iload_n 3) 1), (90, qk (.bipush 40) 2 (nI 40)), (92, qk (.bipush 59) 2 (nI 59)), (94, qc (.invokestatic 156) 3 72 3 1 [0, 3]), (97, qj (.ifCond .ne 7) 3 104 [true, true, false, true, false, false, false])]),
  (112, [(100, ql (.ldc2_w 529) 3 (-1)), (103, qm [true, true, false, true, false, false, false] (qa .lreturn 1)), (104, qa (.iload_n 3) 1), (105, qk (.bipush 10) 2 (nI 10)), (107, qa .irem 1), (108, qa (.iload_n 3) 1), (109, qk (.bipush 10) 2 (nI 10)), (111, qa .idiv 1)]),
  (122, [(112, qk (.iconst 3) 1 (nI 3)), (113, qa .irem 1), (114, qk (.iconst 1) 1 (nI 1)), (115, qa .isub 1), (116, qk (.bipush 10) 2 (nI 10)), (118, qa .imul 1), (119, qa .iadd 1), (120, qa (.istore 4) 2)]),
  (136, [(122, qk (.iconst 0) 1 (nI 0)), (123, qm [true, true, false, true, true, true, false] (qa (.istore 5) 2)), (125, qa (.iload 5) 2), (127, qa (.aload_n 0) 1), (128, qa (.iload_n 1) 1), (129, qc (.invokevirtual 152) 3 82 2 1 [0, 2, 12]), (132, qj (.if_icmp .ge 88) 3 220 [false, false, false, false, false, false, false]), (135, qa (.aload_n 0) 1)]),
  (152, [(136, qf (.getfield 128) 3 12 55 1), (139, qa (.iload 5) 2), (141, qa .iaload 1), (142, qa (.istore 6) 2), (144, qa (.iload 6) 2), (146, qk (.iconst (-1)) 1 (-1)), (147, qj (.if_icmp .eq 24) 3 171 [true, true, false, true, true, true, true]), (150, qa (.iload 4) 2)]),
  (169, [(152, qj (.ifCond .ne 19) 3 171 [true, true, false, true, true, true, true]), (155, qa (.iload_n 3) 1), (156, qk (.bipush 30) 2 (nI 30)), (158, qj (.if_icmp .ge 9) 3 167 [false, false, false, false, false, true, false]), (161, qa (.iload 6) 2), (163, qa .i2l 1), (164, qj (.goto 6) 3 170 [false, false, false, false, false, false, false]), (167, qa (.iload 5) 2)]),
  (183, [(169, qm [false, false, false, false, false, false, false] (qa .i2l 1)), (170, qm [true, true, false, true, true, true, true] (qa .lreturn 1)), (171, qa (.iload 4) 2), (173, qa (.iload 6) 2), (175, qk (.iconst (-1)) 1 (-1)), (176, qj (.if_icmp .eq 7) 3 183 [true, true, false, true, false, true, true]), (179, qk (.iconst 1) 1 (nI 1)), (180, qj (.goto 4) 3 184 [true, true, false, true, false, true, true])]),
  (198, [(183, qm [true, true, false, true, false, true, true] (qk (.iconst 0) 1 (nI 0))), (184, qc (.invokestatic 319) 3 104 1 1 [0, 1]), (187, qa .isub 1), (188, qa (.istore 4) 2), (190, qa (.iload 5) 2), (192, qa (.iload 6) 2), (194, qk (.iconst (-1)) 1 (-1)), (195, qj (.if_icmp .ne 7) 3 202 [true, true, false, true, true, false, true])]),
  (212, [(198, qk (.iconst 1) 1 (nI 1)), (199, qj (.goto 15) 3 214 [true, true, false, true, true, false, false]), (202, qa (.aload_n 0) 1), (203, qf (.getfield 32) 3 12 7 1), (206, qk (.bipush 8) 2 (nI 8)), (208, qa (.iload_n 1) 1), (209, qa .imul 1), (210, qa (.iload 6) 2)]),
  (224, [(212, qa .iadd 1), (213, qm [true, true, false, true, true, false, false] (qa .iaload 1)), (214, qa .iadd 1), (215, qa (.istore 5) 2), (217, qj (.goto (-92)) 3 125 [true, true, false, true, true, true, false]), (220, ql (.ldc2_w 529) 3 (-1)), (223, qa .lreturn 1)])]
-- 272 TinStencils.findHoles(LTinStencils$Sheet;)V
def tb_272 : qz_B := [(13, [(0, qk (.iconst 0) 1 (nI 0)), (1, qa (.istore_n 2) 1), (2, qa (.iload_n 2) 1), (3, qk (.bipush 20) 2 (nI 20)), (5, qj (.if_icmp .ge 20) 3 25 [true, false, false]), (8, qa (.aload_n 0) 1), (9, qf (.getfield 96) 3 11 16 1), (12, qa (.iload_n 2) 1)]),
  (29, [(13, qa (.aload_n 1) 1), (14, qa (.iload_n 2) 1), (15, qc (.invokevirtual 341) 3 241 2 1 [0, 2, 8]), (18, qa .iastore 1), (19, qk (.iinc 2 1) 3 (nI 1)), (22, qj (.goto (-20)) 3 2 []), (25, qa (.aload_n 0) 1), (26, qf (.getfield 61) 3 11 10 1)]),
  (37, [(29, qa (.aload_n 0) 1), (30, qf (.getfield 96) 3 11 16 1), (33, qc (.invokevirtual 337) 3 133 2 0 [1, 3, 5]), (36, qa .return_ 1)])]
-- 273 TinStencils.hole(III)I
def tb_273 : qz_B := [(14, [(0, qa (.aload_n 0) 1), (1, qa (.iload_n 1) 1), (2, qc (.invokevirtual 118) 3 115 2 3 [0, 2, 11]), (5, qa (.astore 4) 2), (7, qa (.aload 4) 2), (9, qj (.ifnonnull 5) 3 14 [true, false, true, true, true]), (12, qk (.iconst (-1)) 1 (-1)), (13, qm [true, false, true, true, true] (qa .ireturn 1))]),
  (29, [(14, qa (.aload_n 0) 1), (15, qa (.aload 4) 2), (17, qc (.invokevirtual 310) 3 272 2 0 [1, 3, 11]), (20, qa (.aload_n 0) 1), (21, qf (.getfield 61) 3 11 10 1), (24, qa (.iload_n 2) 1), (25, qa (.iload_n 3) 1), (26, qc (.invokevirtual 200) 3 157 3 1 [0, 3, 5])]),
  (30, [(29, qa .ireturn 1)])]
-- 274 TinStencilsModel.hole(III)I
def tb_274 : qz_B := [(12, [(0, qa (.aload_n 0) 1), (1, qa (.iload_n 1) 1), (2, qc (.invokevirtual 402) 3 120 2 1 [0, 2, 12]), (5, qj (.ifCond .ne 5) 3 10 []), (8, qk (.iconst (-1)) 1 (-1)), (9, qa .ireturn 1), (10, qa (.aload_n 0) 1), (11, qa (.iload_n 1) 1)]),
  (26, [(12, qa (.aload_n 0) 1), (13, qa (.iload_n 1) 1), (14, qc (.invokevirtual 405) 3 121 2 1 [0, 2, 12]), (17, qc (.invokevirtual 383) 3 123 3 0 [1, 4, 12]), (20, qa (.aload_n 0) 1), (21, qa (.iload_n 1) 1), (22, qk (.iconst 0) 1 (nI 0)), (23, qc (.invokevirtual 399) 3 148 3 0 [5, 8, 12])]),
  (42, [(26, qa (.iload_n 2) 1), (27, qk (.iconst (-1)) 1 (-1)), (28, qj (.if_icmp .ne 16) 3 44 [true, false, true, true]), (31, qa (.iload_n 3) 1), (32, qj (.ifCond .ne 10) 3 42 [false, false, false, false]), (35, qa (.aload_n 0) 1), (36, qf (.getfield 393) 3 12 36 0), (39, qj (.goto 4) 3 43 [false, false, false, false])]),
  (52, [(42, qm [false, false, false, false] (qk (.iconst (-1)) 1 (-1))), (43, qm [true, false, true, true] (qa .ireturn 1)), (44, qa (.iload_n 2) 1), (45, qk (.iconst 0) 1 (nI 0)), (46, qa (.aload_n 0) 1), (47, qf (.getfield 393) 3 12 36 0), (50, qk (.iconst 1) 1 (nI 1)), (51, qa .isub 1)]),
  (68, [(52, qc (.invokestatic 156) 3 72 3 1 [0, 3]), (55, qj (.ifCond .eq 12) 3 67 [false, false, false, false]), (58, qa (.iload_n 3) 1), (59, qk (.iconst 0) 1 (nI 0)), (60, qk (.iconst 2) 1 (nI 2)), (61, qc (.invokestatic 156) 3 72 3 1 [0, 3]), (64, qm [false, false, false, false] (qj (.ifCond .ne 5) 3 69 [true, false, true, true])), (67, qk (.iconst (-1)) 1 (-1))]),
  (82, [(68, qm [true, false, true, true] (qa .ireturn 1)), (69, qa (.iload_n 3) 1), (70, qj (.ifCond .ne 12) 3 82 [true, false, true, true]), (73, qa (.aload_n 0) 1), (74, qf (.getfield 79) 3 12 34 1), (77, qa (.iload_n 2) 1), (78, qa .iaload 1), (79, qj (.goto 29) 3 108 [false, false, false, false])]),
  (95, [(82, qa (.iload_n 3) 1), (83, qk (.iconst 1) 1 (nI 1)), (84, qj (.if_icmp .ne 15) 3 99 [true, false, true, false]), (87, qa (.aload_n 0) 1), (88, qf (.getfield 76) 3 12 33 1), (91, qa (.iload_n 2) 1), (92, qa .iaload 1), (93, qk (.bipush 20) 2 (nI 20))]),
  (108, [(95, qa .irem 1), (96, qj (.goto 12) 3 108 [false, false, false, false]), (99, qa (.aload_n 0) 1), (100, qf (.getfield 76) 3 12 33 1), (103, qa (.iload_n 2) 1), (104, qa .iaload 1), (105, qk (.bipush 20) 2 (nI 20)), (107, qm [false, false, false, false] (qa .idiv 1))]),
  (109, [(108, qa .ireturn 1)])]
-- 275 TinStencils$Cutting.prepare(LTinStencils$Sheet;LTinStencils$Parts;I)V
def tb_275 : qz_B := [(16, [(0, qk (.iconst 0) 1 (nI 0)), (1, qm [true, true, true, true, true, false] (qa (.istore 4) 2)), (3, qa (.iload 4) 2), (5, qk (.bipush 20) 2 (nI 20)), (7, qj (.if_icmp .ge 58) 3 65 [false, false, false, false, false, false]), (10, qa (.aload_n 0) 1), (11, qf (.getfield 27) 3 2 5 1), (14, qa (.iload 4) 2)]),
  (29, [(16, qa (.aload_n 1) 1), (17, qa (.iload 4) 2), (19, qc (.invokevirtual 61) 3 126 2 1 [1, 3, 8]), (22, qa .iastore 1), (23, qk (.iconst 0) 1 (nI 0)), (24, qa (.istore 5) 2), (26, qa (.iload 5) 2), (28, qa (.iload_n 3) 1)]),
  (44, [(29, qj (.if_icmp .ge 30) 3 59 [true, true, true, true, true, false]), (32, qa (.aload_n 0) 1), (33, qf (.getfield 15) 3 2 1 1), (36, qa (.iload 5) 2), (38, qk (.bipush 20) 2 (nI 20)), (40, qa .imul 1), (41, qa (.iload 4) 2), (43, qa .iadd 1)]),
  (62, [(44, qa (.aload_n 2) 1), (45, qa (.iload 5) 2), (47, qa (.iload 4) 2), (49, qc (.invokevirtual 66) 3 154 3 1 [2, 5, 5]), (52, qa .iastore 1), (53, qk (.iinc 5 1) 3 (nI 1)), (56, qj (.goto (-30)) 3 26 []), (59, qk (.iinc 4 1) 3 (nI 1))]),
  (66, [(62, qj (.goto (-59)) 3 3 [true, true, true, true, true, false]), (65, qa .return_ 1)])]
-- 276 TinStencils$Cutting.looseBehind(LTinStencils$Sheet;IILTinStencils$Hanging;)I
def tb_276 : qz_B := [(14, [(0, qk (.iconst 0) 1 (nI 0)), (1, qa (.istore 5) 2), (3, qk (.iconst 0) 1 (nI 0)), (4, qm [true, true, true, true, true, true, true, false] (qa (.istore 6) 2)), (6, qa (.iload 6) 2), (8, qk (.bipush 20) 2 (nI 20)), (10, qj (.if_icmp .ge 90) 3 100 [true, false, false, false, true, true, false, false]), (13, qa (.aload_n 0) 1)]),
  (29, [(14, qf (.getfield 24) 3 2 4 1), (17, qa (.iload 6) 2), (19, qa (.aload_n 1) 1), (20, qa (.iload 6) 2), (22, qc (.invokevirtual 69) 3 116 2 1 [0, 2, 8]), (25, qa .iastore 1), (26, qk (.iconst 0) 1 (nI 0)), (27, qa (.istore 7) 2)]),
  (43, [(29, qa (.iload 7) 2), (31, qa (.iload_n 3) 1), (32, qj (.if_icmp .ge 47) 3 79 [true, true, true, true, true, true, true, false]), (35, qa (.aload_n 0) 1), (36, qf (.getfield 24) 3 2 4 1), (39, qa (.iload 6) 2), (41, qa .dup2 1), (42, qa .iaload 1)]),
  (56, [(43, qa (.iload_n 2) 1), (44, qa (.iload 7) 2), (46, qa .ishr 1), (47, qk (.iconst 1) 1 (nI 1)), (48, qa .iand 1), (49, qj (.ifCond .eq 21) 3 70 []), (52, qa (.aload_n 0) 1), (53, qf (.getfield 15) 3 2 1 1)]),
  (67, [(56, qa (.iload 7) 2), (58, qk (.bipush 20) 2 (nI 20)), (60, qa .imul 1), (61, qa (.iload 6) 2), (63, qa .iadd 1), (64, qa .iaload 1), (65, qk (.iconst (-1)) 1 (-1)), (66, qa .ixor 1)]),
  (82, [(67, qj (.goto 4) 3 71 []), (70, qk (.iconst (-1)) 1 (-1)), (71, qa .iand 1), (72, qa .iastore 1), (73, qk (.iinc 7 1) 3 (nI 1)), (76, qj (.goto (-47)) 3 29 []), (79, qa (.iload 5) 2), (81, qa (.aload_n 0) 1)]),
  (100, [(82, qf (.getfield 24) 3 2 4 1), (85, qa (.iload 6) 2), (87, qa .iaload 1), (88, qc (.invokestatic 72) 3 62 1 1 [0, 1]), (91, qa .iadd 1), (92, qa (.istore 5) 2), (94, qk (.iinc 6 1) 3 (nI 1)), (97, qj (.goto (-91)) 3 6 [true, true, true, true, true, true, true, false])]),
  (117, [(100, qa (.aload 4) 2), (102, qa (.aload_n 0) 1), (103, qf (.getfield 24) 3 2 4 1), (106, qa (.aload_n 0) 1), (107, qf (.getfield 27) 3 2 5 1), (110, qc (.invokevirtual 77) 3 139 3 0 [1, 4, 3]), (113, qa (.iload 5) 2), (115, qa (.aload 4) 2)]),
  (129, [(117, qf (.getfield 83) 3 3 4 0), (120, qa .isub 1), (121, qa (.aload 4) 2), (123, qk (.iconst (-1)) 1 (-1)), (124, qc (.invokevirtual 86) 3 163 2 1 [2, 4, 3]), (127, qa .iadd 1), (128, qa .ireturn 1)])]
-- 277 TinStencils$Cutting.worstFrom(I)I
def tb_277 : qz_B := [(12, [(0, qa (.aload_n 0) 1), (1, qf (.getfield 18) 3 2 2 1), (4, qa (.iload_n 1) 1), (5, qa .iaload 1), (6, qa (.aload_n 0) 1), (7, qf (.getfield 21) 3 2 3 1), (10, qa (.iload_n 1) 1), (11, qa .iaload 1)]),
  (16, [(12, qc (.invokestatic 58) 3 162 2 1 [0, 2]), (15, qa .ireturn 1)])]
-- 278 TinStencils$Cutting.follow(I)V
def tb_278 : qz_B := [(10, [(0, qk (.iconst 0) 1 (nI 0)), (1, qa (.istore_n 2) 1), (2, qk (.iconst 0) 1 (nI 0)), (3, qm [true, true, true, true, false, false] (qa (.istore_n 3) 1)), (4, qa (.iload_n 3) 1), (5, qa (.iload_n 1) 1), (6, qj (.if_icmp .ge 87) 3 93 [false, false, false, false, false, false]), (9, qk (.iconst (-1)) 1 (-1))]),
  (24, [(10, qa (.istore 4) 2), (12, qk (.iconst 0) 1 (nI 0)), (13, qa (.istore 5) 2), (15, qa (.iload 5) 2), (17, qa (.iload_n 1) 1), (18, qj (.if_icmp .ge 47) 3 65 [true, true, true, true, true, false]), (21, qa (.iload 4) 2), (23, qk (.iconst (-1)) 1 (-1))]),
  (37, [(24, qj (.if_icmp .ne 41) 3 65 [true, true, true, true, true, false]), (27, qa (.iload_n 2) 1), (28, qa (.iload 5) 2), (30, qa .ishr 1), (31, qk (.iconst 1) 1 (nI 1)), (32, qa .iand 1), (33, qj (.ifCond .ne 26) 3 59 []), (36, qa (.aload_n 0) 1)]),
  (50, [(37, qa (.iload_n 2) 1), (38, qk (.iconst 1) 1 (nI 1)), (39, qa (.iload 5) 2), (41, qa .ishl 1), (42, qa .ior 1), (43, qc (.invokevirtual 50) 3 277 2 1 [0, 2, 2]), (46, qa (.aload_n 0) 1), (47, qf (.getfield 21) 3 2 3 1)]),
  (67, [(50, qk (.iconst 0) 1 (nI 0)), (51, qa .iaload 1), (52, qj (.if_icmp .gt 7) 3 59 []), (55, qa (.iload 5) 2), (57, qa (.istore 4) 2), (59, qk (.iinc 5 1) 3 (nI 1)), (62, qj (.goto (-47)) 3 15 []), (65, qa (.iload 4) 2)]),
  (80, [(67, qk (.iconst (-1)) 1 (-1)), (68, qj (.if_icmp .ne 4) 3 72 [true, true, true, true, true, false]), (71, qm [true, true, true, true, true, false] (qa .return_ 1)), (72, qa (.aload_n 0) 1), (73, qf (.getfield 9) 3 2 0 1), (76, qa (.iload_n 3) 1), (77, qa (.iload 4) 2), (79, qa .iastore 1)]),
  (93, [(80, qa (.iload_n 2) 1), (81, qk (.iconst 1) 1 (nI 1)), (82, qa (.iload 4) 2), (84, qa .ishl 1), (85, qa .ior 1), (86, qa (.istore_n 2) 1), (87, qk (.iinc 3 1) 3 (nI 1)), (90, qj (.goto (-86)) 3 4 [true, true, true, true, false, false])]),
  (94, [(93, qa .return_ 1)])]
-- 279 TinStencils$Cutting.plan(LTinStencils$Sheet;LTinStencils$Parts;LTinStencils$Hanging;)V
def tb_279 : qz_B := [(14, [(0, qa (.aload_n 2) 1), (1, qf (.getfield 30) 3 5 0 0), (4, qk (.bipush 8) 2 (nI 8)), (6, qc (.invokestatic 36) 3 136 2 1 [0, 2]), (9, qa (.istore 4) 2), (11, qa (.aload_n 0) 1), (12, qa (.aload_n 1) 1), (13, qa (.aload_n 2) 1)]),
  (27, [(14, qa (.iload 4) 2), (16, qc (.invokevirtual 42) 3 275 4 0 [2, 6, 2]), (19, qk (.iconst 1) 1 (nI 1)), (20, qa (.iload 4) 2), (22, qa .ishl 1), (23, qk (.iconst 1) 1 (nI 1)), (24, qa .isub 1), (25, qa (.istore 5) 2)]),
  (41, [(27, qa (.aload_n 0) 1), (28, qf (.getfield 21) 3 2 3 1), (31, qa (.iload 5) 2), (33, qk (.iconst 0) 1 (nI 0)), (34, qa .iastore 1), (35, qa (.aload_n 0) 1), (36, qf (.getfield 18) 3 2 2 1), (39, qa (.iload 5) 2)]),
  (54, [(41, qa (.aload_n 0) 1), (42, qa (.aload_n 1) 1), (43, qa (.iload 5) 2), (45, qa (.iload 4) 2), (47, qa (.aload_n 3) 1), (48, qc (.invokevirtual 46) 3 276 5 1 [3, 8, 2]), (51, qa .iastore 1), (52, qa (.iload 5) 2)]),
  (69, [(54, qk (.iconst 1) 1 (nI 1)), (55, qa .isub 1), (56, qm [true, true, false, true, true, false, true, false] (qa (.istore 6) 2)), (58, qa (.iload 6) 2), (60, qj (.ifCond .lt 90) 3 150 [true, false, false, false, true, false, false, false]), (63, qa (.aload_n 0) 1), (64, qf (.getfield 18) 3 2 2 1), (67, qa (.iload 6) 2)]),
  (81, [(69, qa (.aload_n 0) 1), (70, qa (.aload_n 1) 1), (71, qa (.iload 6) 2), (73, qa (.iload 4) 2), (75, qa (.aload_n 3) 1), (76, qc (.invokevirtual 46) 3 276 5 1 [3, 8, 2]), (79, qa .iastore 1), (80, qa (.aload_n 0) 1)]),
  (97, [(81, qf (.getfield 21) 3 2 3 1), (84, qa (.iload 6) 2), (86, qk (.sipush 800) 3 (nI 800)), (89, qa .iastore 1), (90, qk (.iconst 0) 1 (nI 0)), (91, qm [true, true, false, true, true, false, true, true] (qa (.istore 7) 2)), (93, qa (.iload 7) 2), (95, qa (.iload 4) 2)]),
  (111, [(97, qj (.if_icmp .ge 47) 3 144 [true, true, false, true, true, false, true, false]), (100, qa (.iload 6) 2), (102, qa (.iload 7) 2), (104, qa .ishr 1), (105, qk (.iconst 1) 1 (nI 1)), (106, qa .iand 1), (107, qj (.ifCond .ne 31) 3 138 [true, true, false, true, true, false, true, true]), (110, qa (.aload_n 0) 1)]),
  (126, [(111, qf (.getfield 21) 3 2 3 1), (114, qa (.iload 6) 2), (116, qa (.aload_n 0) 1), (117, qf (.getfield 21) 3 2 3 1), (120, qa (.iload 6) 2), (122, qa .iaload 1), (123, qa (.aload_n 0) 1), (124, qa (.iload 6) 2)]),
  (141, [(126, qk (.iconst 1) 1 (nI 1)), (127, qa (.iload 7) 2), (129, qa .ishl 1), (130, qa .ior 1), (131, qc (.invokevirtual 50) 3 277 2 1 [0, 2, 2]), (134, qc (.invokestatic 36) 3 136 2 1 [0, 2]), (137, qm [true, true, false, true, true, false, true, true] (qa .iastore 1)), (138, qk (.iinc 7 1) 3 (nI 1))]),
  (157, [(141, qj (.goto (-48)) 3 93 [true, true, false, true, true, false, true, true]), (144, qk (.iinc 6 (-1)) 3 (-1)), (147, qj (.goto (-89)) 3 58 [true, true, false, true, true, false, true, false]), (150, qa (.aload_n 0) 1), (151, qa (.iload 4) 2), (153, qc (.invokevirtual 54) 3 278 2 0 [4, 6, 2]), (156, qa .return_ 1)])]
-- 280 TinStencils$Cutting.greatest()I
def tb_280 : qz_B := [(7, [(0, qa (.aload_n 0) 1), (1, qf (.getfield 21) 3 2 3 1), (4, qk (.iconst 0) 1 (nI 0)), (5, qa .iaload 1), (6, qa .ireturn 1)])]
-- 281 TinStencils.cut(II)I
def tb_281 : qz_B := [(12, [(0, qa (.aload_n 0) 1), (1, qa (.iload_n 1) 1), (2, qc (.invokevirtual 118) 3 115 2 3 [0, 2, 11]), (5, qa (.astore_n 3) 1), (6, qa (.aload_n 3) 1), (7, qj (.ifnonnull 5) 3 12 [true, false, true, true]), (10, qk (.iconst (-1)) 1 (-1)), (11, qm [true, false, true, true] (qa .ireturn 1))]),
  (29, [(12, qa (.aload_n 0) 1), (13, qa (.aload_n 3) 1), (14, qc (.invokevirtual 310) 3 272 2 0 [1, 3, 11]), (17, qa (.aload_n 0) 1), (18, qf (.getfield 61) 3 11 10 1), (21, qf (.getfield 313) 3 5 0 0), (24, qk (.bipush 8) 2 (nI 8)), (26, qj (.if_icmp .le 5) 3 31 [true, false, true, true])]),
  (42, [(29, qk (.iconst (-1)) 1 (-1)), (30, qm [true, false, true, true] (qa .ireturn 1)), (31, qa (.iload_n 2) 1), (32, qj (.ifCond .eq 25) 3 57 [true, false, true, true]), (35, qa (.iload_n 2) 1), (36, qk (.bipush 10) 2 (nI 10)), (38, qj (.if_icmp .lt 17) 3 55 [false, false, false, false]), (41, qa (.iload_n 2) 1)]),
  (57, [(42, qk (.bipush 10) 2 (nI 10)), (44, qa .isub 1), (45, qa (.aload_n 0) 1), (46, qf (.getfield 61) 3 11 10 1), (49, qf (.getfield 313) 3 5 0 0), (52, qm [false, false, false, false] (qj (.if_icmp .lt 5) 3 57 [true, false, true, true])), (55, qk (.iconst (-1)) 1 (-1)), (56, qm [true, false, true, true] (qa .ireturn 1))]),
  (73, [(57, qa (.aload_n 0) 1), (58, qf (.getfield 89) 3 11 14 1), (61, qa (.aload_n 3) 1), (62, qa (.aload_n 0) 1), (63, qf (.getfield 61) 3 11 10 1), (66, qa (.aload_n 0) 1), (67, qf (.getfield 54) 3 11 9 1), (70, qc (.invokevirtual 314) 3 279 4 0 [4, 8, 2])]),
  (91, [(73, qa (.iload_n 2) 1), (74, qj (.ifCond .ne 13) 3 87 [true, false, true, false]), (77, qa (.aload_n 0) 1), (78, qf (.getfield 89) 3 11 14 1), (81, qc (.invokevirtual 318) 3 280 1 1 [0, 1, 2]), (84, qj (.goto 15) 3 99 [false, false, false, false]), (87, qa (.aload_n 0) 1), (88, qf (.getfield 89) 3 11 14 1)]),
  (100, [(91, qf (.getfield 321) 3 2 0 1), (94, qa (.iload_n 2) 1), (95, qk (.bipush 10) 2 (nI 10)), (97, qa .isub 1), (98, qm [false, false, false, false] (qa .iaload 1)), (99, qa .ireturn 1)])]
-- 282 TinStencilsModel.looseBy(II)I
def tb_282 : qz_B := [(14, [(0, qk (.iconst 0) 1 (nI 0)), (1, qa (.istore_n 3) 1), (2, qa (.iload_n 3) 1), (3, qk (.sipush 400) 3 (nI 400)), (6, qj (.if_icmp .ge 62) 3 68 [true, true, false, false]), (9, qa (.aload_n 0) 1), (10, qf (.getfield 64) 3 12 29 1), (13, qa (.iload_n 3) 1)]),
  (24, [(14, qa (.aload_n 0) 1), (15, qa (.iload_n 1) 1), (16, qa (.iload_n 3) 1), (17, qk (.bipush 20) 2 (nI 20)), (19, qa .irem 1), (20, qa (.iload_n 3) 1), (21, qk (.bipush 20) 2 (nI 20)), (23, qa .idiv 1)]),
  (40, [(24, qc (.invokevirtual 288) 3 94 4 1 [0, 4, 12]), (27, qj (.ifCond .eq 30) 3 57 []), (30, qa (.aload_n 0) 1), (31, qf (.getfield 140) 3 12 59 1), (34, qa (.iload_n 3) 1), (35, qa .iaload 1), (36, qk (.iconst (-1)) 1 (-1)), (37, qj (.if_icmp .eq 16) 3 53 [])]),
  (54, [(40, qa (.iload_n 2) 1), (41, qa (.aload_n 0) 1), (42, qf (.getfield 140) 3 12 59 1), (45, qa (.iload_n 3) 1), (46, qa .iaload 1), (47, qc (.invokestatic 281) 3 92 2 1 [0, 2]), (50, qj (.ifCond .ne 7) 3 57 []), (53, qk (.iconst 1) 1 (nI 1))]),
  (72, [(54, qj (.goto 4) 3 58 []), (57, qk (.iconst 0) 1 (nI 0)), (58, qc (.invokestatic 319) 3 104 1 1 [0, 1]), (61, qa .iastore 1), (62, qk (.iinc 3 1) 3 (nI 1)), (65, qj (.goto (-63)) 3 2 []), (68, qa (.aload_n 0) 1), (69, qc (.invokevirtual 389) 3 124 1 1 [2, 3, 12])]),
  (82, [(72, qa (.aload_n 0) 1), (73, qa (.iload_n 1) 1), (74, qk (.iconst (-1)) 1 (-1)), (75, qk (.iconst (-1)) 1 (-1)), (76, qc (.invokevirtual 386) 3 146 4 1 [2, 6, 12]), (79, qa .isub 1), (80, qa (.istore_n 3) 1), (81, qa (.aload_n 0) 1)]),
  (94, [(82, qa (.iload_n 1) 1), (83, qk (.iconst (-1)) 1 (-1)), (84, qk (.iconst 0) 1 (nI 0)), (85, qc (.invokevirtual 435) 3 165 4 0 [3, 7, 12]), (88, qa (.iload_n 3) 1), (89, qa (.aload_n 0) 1), (90, qf (.getfield 424) 3 12 40 0), (93, qa .iadd 1)]),
  (95, [(94, qa .ireturn 1)])]
-- 283 TinStencilsModel.cut(II)I
def tb_283 : qz_B := [(12, [(0, qa (.aload_n 0) 1), (1, qa (.iload_n 1) 1), (2, qc (.invokevirtual 402) 3 120 2 1 [0, 2, 12]), (5, qj (.ifCond .ne 5) 3 10 [true, true, true, false, false, false, false, false]), (8, qk (.iconst (-1)) 1 (-1)), (9, qm [true, true, true, false, false, false, false, false] (qa .ireturn 1)), (10, qa (.aload_n 0) 1), (11, qa (.iload_n 1) 1)]),
  (26, [(12, qa (.aload_n 0) 1), (13, qa (.iload_n 1) 1), (14, qc (.invokevirtual 405) 3 121 2 1 [0, 2, 12]), (17, qc (.invokevirtual 383) 3 123 3 0 [1, 4, 12]), (20, qa (.aload_n 0) 1), (21, qa (.iload_n 1) 1), (22, qk (.iconst 0) 1 (nI 0)), (23, qc (.invokevirtual 399) 3 148 3 0 [5, 8, 12])]),
  (41, [(26, qa (.aload_n 0) 1), (27, qf (.getfield 393) 3 12 36 0), (30, qa (.istore_n 3) 1), (31, qa (.iload_n 3) 1), (32, qk (.bipush 8) 2 (nI 8)), (34, qj (.if_icmp .gt 20) 3 54 [false, false, false, false, false, false, false, false]), (37, qa (.iload_n 2) 1), (38, qj (.ifCond .eq 18) 3 56 [true, true, true, true, false, false, false, false])]),
  (55, [(41, qa (.iload_n 2) 1), (42, qk (.bipush 10) 2 (nI 10)), (44, qk (.bipush 9) 2 (nI 9)), (46, qa (.iload_n 3) 1), (47, qa .iadd 1), (48, qc (.invokestatic 156) 3 72 3 1 [0, 3]), (51, qm [false, false, false, false, false, false, false, false] (qj (.ifCond .ne 5) 3 56 [true, true, true, true, false, false, false, false])), (54, qk (.iconst (-1)) 1 (-1))]),
  (71, [(55, qm [true, true, true, true, false, false, false, false] (qa .ireturn 1)), (56, qk (.iconst 0) 1 (nI 0)), (57, qm [true, true, true, true, true, false, false, false] (qa (.istore 4) 2)), (59, qa (.iload 4) 2), (61, qk (.sipush 400) 3 (nI 400)), (64, qj (.if_icmp .ge 23) 3 87 [true, true, true, true, false, false, false, false]), (67, qa (.aload_n 0) 1), (68, qf (.getfield 140) 3 12 59 1)]),
  (87, [(71, qa (.iload 4) 2), (73, qa (.aload_n 0) 1), (74, qf (.getfield 73) 3 12 32 1), (77, qa (.iload 4) 2), (79, qa .iaload 1), (80, qa .iastore 1), (81, qk (.iinc 4 1) 3 (nI 1)), (84, qj (.goto (-25)) 3 59 [true, true, true, true, true, false, false, false])]),
  (98, [(87, qk (.iconst 1) 1 (nI 1)), (88, qa (.iload_n 3) 1), (89, qa .ishl 1), (90, qk (.iconst 1) 1 (nI 1)), (91, qa .isub 1), (92, qa (.istore 4) 2), (94, qa (.aload_n 0) 1), (95, qf (.getfield 137) 3 12 58 1)]),
  (112, [(98, qa (.iload 4) 2), (100, qk (.iconst 0) 1 (nI 0)), (101, qa .iastore 1), (102, qa (.iload 4) 2), (104, qm [true, true, true, true, true, true, false, false] (qa (.istore 5) 2)), (106, qa (.iload 5) 2), (108, qj (.ifCond .lt 118) 3 226 [true, false, true, true, false, false, false, false]), (111, qa (.aload_n 0) 1)]),
  (128, [(112, qf (.getfield 134) 3 12 57 1), (115, qa (.iload 5) 2), (117, qa (.iload 5) 2), (119, qj (.ifCond .ne 7) 3 126 [true, true, true, true, true, true, false, false]), (122, qk (.iconst 0) 1 (nI 0)), (123, qj (.goto 10) 3 133 [true, true, true, true, true, true, false, false]), (126, qa (.aload_n 0) 1), (127, qa (.iload_n 1) 1)]),
  (145, [(128, qa (.iload 5) 2), (130, qm [true, true, true, true, true, true, false, false] (qc (.invokevirtual 534) 3 282 3 1 [1, 4, 12])), (133, qa .iastore 1), (134, qa (.iload 5) 2), (136, qa (.iload 4) 2), (138, qj (.if_icmp .ge 13) 3 151 [true, true, true, true, true, true, false, false]), (141, qa (.aload_n 0) 1), (142, qf (.getfield 137) 3 12 58 1)]),
  (160, [(145, qa (.iload 5) 2), (147, qk (.ldc_w 475) 3 (nI 1000000000)), (150, qm [true, true, true, true, true, true, false, false] (qa .iastore 1)), (151, qk (.iconst 0) 1 (nI 0)), (152, qm [true, true, true, true, true, true, true, false] (qa (.istore 6) 2)), (154, qa (.iload 6) 2), (156, qa (.iload_n 3) 1), (157, qj (.if_icmp .ge 63) 3 220 [true, true, true, true, true, true, false, false])]),
  (177, [(160, qa (.iload 5) 2), (162, qa (.iload 6) 2), (164, qc (.invokestatic 281) 3 92 2 1 [0, 2]), (167, qj (.ifCond .ne 47) 3 214 [true, true, true, true, true, true, true, false]), (170, qa (.aload_n 0) 1), (171, qf (.getfield 137) 3 12 58 1), (174, qa (.iload 5) 2), (176, qa (.aload_n 0) 1)]),
  (192, [(177, qf (.getfield 137) 3 12 58 1), (180, qa (.iload 5) 2), (182, qa .iaload 1), (183, qa (.aload_n 0) 1), (184, qf (.getfield 134) 3 12 57 1), (187, qa (.iload 5) 2), (189, qk (.iconst 1) 1 (nI 1)), (190, qa (.iload 6) 2)]),
  (204, [(192, qa .ishl 1), (193, qa .ior 1), (194, qa .iaload 1), (195, qa (.aload_n 0) 1), (196, qf (.getfield 137) 3 12 58 1), (199, qa (.iload 5) 2), (201, qk (.iconst 1) 1 (nI 1)), (202, qa (.iload 6) 2)]),
  (220, [(204, qa .ishl 1), (205, qa .ior 1), (206, qa .iaload 1), (207, qc (.invokestatic 430) 3 162 2 1 [0, 2]), (210, qc (.invokestatic 476) 3 136 2 1 [0, 2]), (213, qm [true, true, true, true, true, true, true, false] (qa .iastore 1)), (214, qk (.iinc 6 1) 3 (nI 1)), (217, qj (.goto (-63)) 3 154 [true, true, true, true, true, true, true, false])]),
  (236, [(220, qk (.iinc 5 (-1)) 3 (-1)), (223, qj (.goto (-117)) 3 106 [true, true, true, true, true, true, false, false]), (226, qa (.iload_n 2) 1), (227, qj (.ifCond .ne 10) 3 237 [true, false, true, true, false, false, false, false]), (230, qa (.aload_n 0) 1), (231, qf (.getfield 137) 3 12 58 1), (234, qk (.iconst 0) 1 (nI 0)), (235, qa .iaload 1)]),
  (249, [(236, qm [true, false, true, true, false, false, false, false] (qa .ireturn 1)), (237, qk (.iconst 0) 1 (nI 0)), (238, qa (.istore 5) 2), (240, qk (.iconst 0) 1 (nI 0)), (241, qm [true, false, true, true, false, true, true, false] (qa (.istore 6) 2)), (243, qa (.iload 6) 2), (245, qa (.iload_n 3) 1), (246, qj (.if_icmp .ge 82) 3 328 [true, false, true, false, false, false, false, false])]),
  (266, [(249, qk (.iconst 0) 1 (nI 0)), (250, qm [true, false, true, true, false, true, true, true] (qa (.istore 7) 2)), (252, qa (.iload 5) 2), (254, qa (.iload 7) 2), (256, qc (.invokestatic 281) 3 92 2 1 [0, 2]), (259, qj (.ifCond .ne 39) 3 298 [true, false, true, true, false, true, true, true]), (262, qa (.aload_n 0) 1), (263, qf (.getfield 134) 3 12 57 1)]),
  (278, [(266, qa (.iload 5) 2), (268, qk (.iconst 1) 1 (nI 1)), (269, qa (.iload 7) 2), (271, qa .ishl 1), (272, qa .ior 1), (273, qa .iaload 1), (274, qa (.aload_n 0) 1), (275, qf (.getfield 137) 3 12 58 1)]),
  (290, [(278, qa (.iload 5) 2), (280, qk (.iconst 1) 1 (nI 1)), (281, qa (.iload 7) 2), (283, qa .ishl 1), (284, qa .ior 1), (285, qa .iaload 1), (286, qc (.invokestatic 430) 3 162 2 1 [0, 2]), (289, qa (.aload_n 0) 1)]),
  (308, [(290, qf (.getfield 137) 3 12 58 1), (293, qk (.iconst 0) 1 (nI 0)), (294, qa .iaload 1), (295, qm [true, false, true, true, false, true, true, true] (qj (.if_icmp .le 9) 3 304 [true, false, true, true, false, true, true, true])), (298, qk (.iinc 7 1) 3 (nI 1)), (301, qj (.goto (-49)) 3 252 [true, false, true, true, false, true, true, true]), (304, qa (.aload_n 0) 1), (305, qf (.getfield 143) 3 12 60 1)]),
  (320, [(308, qa (.iload 6) 2), (310, qa (.iload 7) 2), (312, qa .iastore 1), (313, qa (.iload 5) 2), (315, qk (.iconst 1) 1 (nI 1)), (316, qa (.iload 7) 2), (318, qa .ishl 1), (319, qa .ior 1)]),
  (336, [(320, qa (.istore 5) 2), (322, qk (.iinc 6 1) 3 (nI 1)), (325, qj (.goto (-82)) 3 243 [true, false, true, true, false, true, true, false]), (328, qa (.aload_n 0) 1), (329, qf (.getfield 143) 3 12 60 1), (332, qa (.iload_n 2) 1), (333, qk (.bipush 10) 2 (nI 10)), (335, qa .isub 1)]),
  (338, [(336, qa .iaload 1), (337, qa .ireturn 1)])]
-- 284 TinStencils$Bridges.copyFrom(LTinStencils$Bridges;)V
def tb_284 : qz_B := [(16, [(0, qa (.aload_n 0) 1), (1, qa (.aload_n 1) 1), (2, qf (.getfield 9) 3 0 0 0), (5, qf (.putfield 9) 3 0 0 0), (8, qa (.aload_n 0) 1), (9, qa (.aload_n 1) 1), (10, qf (.getfield 15) 3 0 1 0), (13, qf (.putfield 15) 3 0 1 0)]),
  (30, [(16, qa (.aload_n 0) 1), (17, qa (.aload_n 1) 1), (18, qf (.getfield 18) 3 0 2 0), (21, qf (.putfield 18) 3 0 2 0), (24, qa (.aload_n 1) 1), (25, qf (.getfield 21) 3 0 3 1), (28, qk (.iconst 0) 1 (nI 0)), (29, qa (.aload_n 0) 1)]),
  (45, [(30, qf (.getfield 21) 3 0 3 1), (33, qk (.iconst 0) 1 (nI 0)), (34, qk (.bipush 12) 2 (nI 12)), (36, qa (.invokestatic 37) 3), (39, qa (.aload_n 1) 1), (40, qf (.getfield 25) 3 0 4 1), (43, qk (.iconst 0) 1 (nI 0)), (44, qa (.aload_n 0) 1)]),
  (60, [(45, qf (.getfield 25) 3 0 4 1), (48, qk (.iconst 0) 1 (nI 0)), (49, qk (.bipush 12) 2 (nI 12)), (51, qa (.invokestatic 37) 3), (54, qa (.aload_n 1) 1), (55, qf (.getfield 28) 3 0 5 1), (58, qk (.iconst 0) 1 (nI 0)), (59, qa (.aload_n 0) 1)]),
  (71, [(60, qf (.getfield 28) 3 0 5 1), (63, qk (.iconst 0) 1 (nI 0)), (64, qk (.sipush 240) 3 (nI 240)), (67, qa (.invokestatic 37) 3), (70, qa .return_ 1)])]
-- 285 TinStencils$Sheet.copyFrom(LTinStencils$Sheet;)V
def tb_285 : qz_B := [(16, [(0, qa (.aload_n 0) 1), (1, qa (.aload_n 1) 1), (2, qf (.getfield 9) 3 8 0 0), (5, qf (.putfield 9) 3 8 0 2), (8, qa (.aload_n 0) 1), (9, qa (.aload_n 1) 1), (10, qf (.getfield 15) 3 8 1 0), (13, qf (.putfield 15) 3 8 1 0)]),
  (32, [(16, qa (.aload_n 0) 1), (17, qa (.aload_n 1) 1), (18, qf (.getfield 19) 3 8 2 0), (21, qf (.putfield 19) 3 8 2 0), (24, qa (.aload_n 0) 1), (25, qa (.aload_n 1) 1), (26, qf (.getfield 22) 3 8 3 0), (29, qf (.putfield 22) 3 8 3 0)]),
  (48, [(32, qa (.aload_n 0) 1), (33, qa (.aload_n 1) 1), (34, qf (.getfield 25) 3 8 4 0), (37, qf (.putfield 25) 3 8 4 0), (40, qa (.aload_n 0) 1), (41, qa (.aload_n 1) 1), (42, qf (.getfield 28) 3 8 5 0), (45, qf (.putfield 28) 3 8 5 0)]),
  (62, [(48, qa (.aload_n 0) 1), (49, qa (.aload_n 1) 1), (50, qf (.getfield 31) 3 8 6 0), (53, qf (.putfield 31) 3 8 6 0), (56, qa (.aload_n 1) 1), (57, qf (.getfield 34) 3 8 7 1), (60, qk (.iconst 0) 1 (nI 0)), (61, qa (.aload_n 0) 1)]),
  (77, [(62, qf (.getfield 34) 3 8 7 1), (65, qk (.iconst 0) 1 (nI 0)), (66, qk (.bipush 20) 2 (nI 20)), (68, qa (.invokestatic 69) 3), (71, qa (.aload_n 1) 1), (72, qf (.getfield 38) 3 8 8 1), (75, qk (.iconst 0) 1 (nI 0)), (76, qa (.aload_n 0) 1)]),
  (95, [(77, qf (.getfield 38) 3 8 8 1), (80, qk (.iconst 0) 1 (nI 0)), (81, qk (.sipush 400) 3 (nI 400)), (84, qa (.invokestatic 69) 3), (87, qa (.aload_n 0) 1), (88, qf (.getfield 44) 3 8 9 1), (91, qa (.aload_n 1) 1), (92, qf (.getfield 44) 3 8 9 1)]),
  (111, [(95, qc (.invokevirtual 75) 3 284 2 0 [0, 2, 0]), (98, qa (.aload_n 0) 1), (99, qa (.aload_n 1) 1), (100, qf (.getfield 48) 3 8 10 0), (103, qf (.putfield 48) 3 8 10 0), (106, qa (.aload_n 1) 1), (107, qf (.getfield 51) 3 8 11 1), (110, qk (.iconst 0) 1 (nI 0))]),
  (126, [(111, qa (.aload_n 0) 1), (112, qf (.getfield 51) 3 8 11 1), (115, qk (.iconst 0) 1 (nI 0)), (116, qk (.bipush 8) 2 (nI 8)), (118, qa (.invokestatic 69) 3), (121, qa (.aload_n 1) 1), (122, qf (.getfield 54) 3 8 12 1), (125, qk (.iconst 0) 1 (nI 0))]),
  (141, [(126, qa (.aload_n 0) 1), (127, qf (.getfield 54) 3 8 12 1), (130, qk (.iconst 0) 1 (nI 0)), (131, qk (.bipush 8) 2 (nI 8)), (133, qa (.invokestatic 69) 3), (136, qa (.aload_n 1) 1), (137, qf (.getfield 57) 3 8 13 1), (140, qk (.iconst 0) 1 (nI 0))]),
  (152, [(141, qa (.aload_n 0) 1), (142, qf (.getfield 57) 3 8 13 1), (145, qk (.iconst 0) 1 (nI 0)), (146, qk (.bipush 64) 2 (nI 64)), (148, qa (.invokestatic 69) 3), (151, qa .return_ 1)])]
-- 286 TinStencils$Pile.copyFrom(LTinStencils$Pile;)V
def tb_286 : qz_B := [(13, [(0, qk (.iconst 0) 1 (nI 0)), (1, qa (.istore_n 2) 1), (2, qa (.iload_n 2) 1), (3, qk (.bipush 6) 2 (nI 6)), (5, qj (.if_icmp .ge 36) 3 41 [false, false, false]), (8, qa (.aload_n 0) 1), (9, qf (.getfield 11) 3 6 0 1), (12, qa (.iload_n 2) 1)]),
  (27, [(13, qa .aaload 1), (14, qa (.aload_n 1) 1), (15, qf (.getfield 11) 3 6 0 1), (18, qa (.iload_n 2) 1), (19, qa .aaload 1), (20, qc (.invokevirtual 25) 3 285 2 0 [0, 2, 8]), (23, qa (.aload_n 0) 1), (24, qf (.getfield 17) 3 6 1 1)]),
  (41, [(27, qa (.iload_n 2) 1), (28, qa (.aload_n 1) 1), (29, qf (.getfield 17) 3 6 1 1), (32, qa (.iload_n 2) 1), (33, qa .iaload 1), (34, qa .iastore 1), (35, qk (.iinc 2 1) 3 (nI 1)), (38, qj (.goto (-36)) 3 2 [])]),
  (42, [(41, qa .return_ 1)])]
-- 287 TinStencils.image()I
def tb_287 : qz_B := [(14, [(0, qa (.aload_n 0) 1), (1, qf (.getfield 34) 3 11 6 0), (4, qk (.iconst 3) 1 (nI 3)), (5, qj (.if_icmp .lt 15) 3 20 []), (8, qa (.aload_n 0) 1), (9, qf (.getfield 20) 3 11 3 1), (12, qk (.iconst 1) 1 (nI 1)), (13, qa .dup2 1)]),
  (24, [(14, qa .iaload 1), (15, qk (.iconst 1) 1 (nI 1)), (16, qa .iadd 1), (17, qa .iastore 1), (18, qk (.iconst (-1)) 1 (-1)), (19, qa .ireturn 1), (20, qa (.aload_n 0) 1), (21, qf (.getfield 30) 3 11 5 1)]),
  (38, [(24, qa (.aload_n 0) 1), (25, qf (.getfield 34) 3 11 6 0), (28, qa .aaload 1), (29, qa (.aload_n 0) 1), (30, qf (.getfield 26) 3 11 4 1), (33, qc (.invokevirtual 324) 3 286 2 0 [1, 3, 6]), (36, qa (.aload_n 0) 1), (37, qa .dup 1)]),
  (52, [(38, qf (.getfield 34) 3 11 6 0), (41, qk (.iconst 1) 1 (nI 1)), (42, qa .iadd 1), (43, qf (.putfield 34) 3 11 6 0), (46, qa (.aload_n 0) 1), (47, qf (.getfield 34) 3 11 6 0), (50, qk (.iconst 1) 1 (nI 1)), (51, qa .isub 1)]),
  (53, [(52, qa .ireturn 1)])]
-- 288 TinStencilsModel.keeps([II)V
def tb_288 : qz_B := [(12, [(0, qk (.iconst 0) 1 (nI 0)), (1, qa (.istore_n 3) 1), (2, qa (.iload_n 3) 1), (3, qa (.iload_n 2) 1), (4, qj (.if_icmp .ge 23) 3 27 [true, false, true, false]), (7, qa (.aload_n 0) 1), (8, qf (.getfield 146) 3 12 63 1), (11, qa (.aload_n 0) 1)]),
  (24, [(12, qf (.getfield 537) 3 12 62 0), (15, qa (.iload_n 3) 1), (16, qa .iadd 1), (17, qa (.aload_n 1) 1), (18, qa (.iload_n 3) 1), (19, qa .iaload 1), (20, qa .iastore 1), (21, qk (.iinc 3 1) 3 (nI 1))]),
  (38, [(24, qj (.goto (-22)) 3 2 []), (27, qa (.aload_n 0) 1), (28, qa .dup 1), (29, qf (.getfield 537) 3 12 62 0), (32, qa (.iload_n 2) 1), (33, qa .iadd 1), (34, qf (.putfield 537) 3 12 62 0), (37, qa .return_ 1)])]
-- 289 TinStencilsModel.image()I
def tb_289 : qz_B := [(14, [(0, qa (.aload_n 0) 1), (1, qf (.getfield 540) 3 12 61 0), (4, qk (.iconst 3) 1 (nI 3)), (5, qj (.if_icmp .ne 10) 3 15 []), (8, qa (.aload_n 0) 1), (9, qk (.iconst 1) 1 (nI 1)), (10, qk (.iconst (-1)) 1 (-1)), (11, qc (.invokevirtual 357) 3 73 3 1 [0, 3, 12])]),
  (28, [(14, qa .ireturn 1), (15, qa (.aload_n 0) 1), (16, qk (.sipush 8100) 3 (nI 8100)), (19, qa (.aload_n 0) 1), (20, qf (.getfield 540) 3 12 61 0), (23, qa .imul 1), (24, qf (.putfield 537) 3 12 62 0), (27, qa (.aload_n 0) 1)]),
  (42, [(28, qf (.getfield 149) 3 12 64 1), (31, qa (.aload_n 0) 1), (32, qf (.getfield 540) 3 12 61 0), (35, qa (.aload_n 0) 1), (36, qf (.getfield 13) 3 12 1 0), (39, qa .iastore 1), (40, qa (.aload_n 0) 1), (41, qa (.aload_n 0) 1)]),
  (60, [(42, qf (.getfield 17) 3 12 2 1), (45, qk (.bipush 96) 2 (nI 96)), (47, qc (.invokevirtual 543) 3 288 3 0 [1, 4, 12]), (50, qa (.aload_n 0) 1), (51, qa (.aload_n 0) 1), (52, qf (.getfield 20) 3 12 3 1), (55, qk (.bipush 6) 2 (nI 6)), (57, qc (.invokevirtual 543) 3 288 3 0 [1, 4, 12])]),
  (76, [(60, qa (.aload_n 0) 1), (61, qa (.aload_n 0) 1), (62, qf (.getfield 23) 3 12 4 1), (65, qk (.sipush 2400) 3 (nI 2400)), (68, qc (.invokevirtual 543) 3 288 3 0 [1, 4, 12]), (71, qa (.aload_n 0) 1), (72, qa (.aload_n 0) 1), (73, qf (.getfield 26) 3 12 5 1)]),
  (94, [(76, qk (.sipush 2400) 3 (nI 2400)), (79, qc (.invokevirtual 543) 3 288 3 0 [1, 4, 12]), (82, qa (.aload_n 0) 1), (83, qa (.aload_n 0) 1), (84, qf (.getfield 29) 3 12 6 1), (87, qk (.sipush 2400) 3 (nI 2400)), (90, qc (.invokevirtual 543) 3 288 3 0 [1, 4, 12]), (93, qa (.aload_n 0) 1)]),
  (110, [(94, qa (.aload_n 0) 1), (95, qf (.getfield 32) 3 12 7 1), (98, qk (.bipush 48) 2 (nI 48)), (100, qc (.invokevirtual 543) 3 288 3 0 [1, 4, 12]), (103, qa (.aload_n 0) 1), (104, qa (.aload_n 0) 1), (105, qf (.getfield 35) 3 12 8 1), (108, qk (.bipush 48) 2 (nI 48))]),
  (126, [(110, qc (.invokevirtual 543) 3 288 3 0 [1, 4, 12]), (113, qa (.aload_n 0) 1), (114, qa (.aload_n 0) 1), (115, qf (.getfield 38) 3 12 9 1), (118, qk (.sipush 384) 3 (nI 384)), (121, qc (.invokevirtual 543) 3 288 3 0 [1, 4, 12]), (124, qa (.aload_n 0) 1), (125, qa (.aload_n 0) 1)]),
  (144, [(126, qf (.getfield 41) 3 12 10 1), (129, qk (.bipush 72) 2 (nI 72)), (131, qc (.invokevirtual 543) 3 288 3 0 [1, 4, 12]), (134, qa (.aload_n 0) 1), (135, qa (.aload_n 0) 1), (136, qf (.getfield 44) 3 12 11 1), (139, qk (.bipush 72) 2 (nI 72)), (141, qc (.invokevirtual 543) 3 288 3 0 [1, 4, 12])]),
  (159, [(144, qa (.aload_n 0) 1), (145, qa (.aload_n 0) 1), (146, qf (.getfield 47) 3 12 12 1), (149, qk (.bipush 72) 2 (nI 72)), (151, qc (.invokevirtual 543) 3 288 3 0 [1, 4, 12]), (154, qa (.aload_n 0) 1), (155, qa .dup 1), (156, qf (.getfield 540) 3 12 61 0)]),
  (171, [(159, qk (.iconst 1) 1 (nI 1)), (160, qa .iadd 1), (161, qf (.putfield 540) 3 12 61 0), (164, qa (.aload_n 0) 1), (165, qf (.getfield 540) 3 12 61 0), (168, qk (.iconst 1) 1 (nI 1)), (169, qa .isub 1), (170, qa .ireturn 1)])]
-- 290 TinStencils.back(I)Z
def tb_290 : qz_B := [(16, [(0, qa (.iload_n 1) 1), (1, qj (.ifCond .lt 11) 3 12 [true, false]), (4, qa (.iload_n 1) 1), (5, qa (.aload_n 0) 1), (6, qf (.getfield 34) 3 11 6 0), (9, qm [true, false] (qj (.if_icmp .lt 15) 3 24 [])), (12, qa (.aload_n 0) 1), (13, qf (.getfield 20) 3 11 3 1)]),
  (24, [(16, qk (.iconst 0) 1 (nI 0)), (17, qa .dup2 1), (18, qa .iaload 1), (19, qk (.iconst 1) 1 (nI 1)), (20, qa .iadd 1), (21, qa .iastore 1), (22, qk (.iconst 0) 1 (nI 0)), (23, qf .ireturn 1 0 0 1)]),
  (38, [(24, qa (.aload_n 0) 1), (25, qf (.getfield 26) 3 11 4 1), (28, qa (.aload_n 0) 1), (29, qf (.getfield 30) 3 11 5 1), (32, qa (.iload_n 1) 1), (33, qa .aaload 1), (34, qc (.invokevirtual 324) 3 286 2 0 [1, 3, 6]), (37, qk (.iconst 1) 1 (nI 1))]),
  (39, [(38, qf .ireturn 1 0 0 1)])]
-- 291 TinStencilsModel.fetches([II)V
def tb_291 : qz_B := [(10, [(0, qk (.iconst 0) 1 (nI 0)), (1, qa (.istore_n 3) 1), (2, qa (.iload_n 3) 1), (3, qa (.iload_n 2) 1), (4, qj (.if_icmp .ge 23) 3 27 [true, false, true, false]), (7, qa (.aload_n 1) 1), (8, qa (.iload_n 3) 1), (9, qa (.aload_n 0) 1)]),
  (24, [(10, qf (.getfield 146) 3 12 63 1), (13, qa (.aload_n 0) 1), (14, qf (.getfield 537) 3 12 62 0), (17, qa (.iload_n 3) 1), (18, qa .iadd 1), (19, qa .iaload 1), (20, qa .iastore 1), (21, qk (.iinc 3 1) 3 (nI 1))]),
  (38, [(24, qj (.goto (-22)) 3 2 []), (27, qa (.aload_n 0) 1), (28, qa .dup 1), (29, qf (.getfield 537) 3 12 62 0), (32, qa (.iload_n 2) 1), (33, qa .iadd 1), (34, qf (.putfield 537) 3 12 62 0), (37, qa .return_ 1)])]
-- 292 TinStencilsModel.back(I)Z
def tb_292 : qz_B := [(14, [(0, qa (.iload_n 1) 1), (1, qk (.iconst 0) 1 (nI 0)), (2, qa (.aload_n 0) 1), (3, qf (.getfield 540) 3 12 61 0), (6, qk (.iconst 1) 1 (nI 1)), (7, qa .isub 1), (8, qc (.invokestatic 156) 3 72 3 1 [0, 3]), (11, qj (.ifCond .ne 9) 3 20 [])]),
  (26, [(14, qa (.aload_n 0) 1), (15, qk (.iconst 0) 1 (nI 0)), (16, qc (.invokevirtual 439) 3 168 2 1 [0, 2, 12]), (19, qf .ireturn 1 0 0 1), (20, qa (.aload_n 0) 1), (21, qk (.sipush 8100) 3 (nI 8100)), (24, qa (.iload_n 1) 1), (25, qa .imul 1)]),
  (40, [(26, qf (.putfield 537) 3 12 62 0), (29, qa (.aload_n 0) 1), (30, qa (.aload_n 0) 1), (31, qf (.getfield 149) 3 12 64 1), (34, qa (.iload_n 1) 1), (35, qa .iaload 1), (36, qf (.putfield 13) 3 12 1 0), (39, qa (.aload_n 0) 1)]),
  (56, [(40, qa (.aload_n 0) 1), (41, qf (.getfield 17) 3 12 2 1), (44, qk (.bipush 96) 2 (nI 96)), (46, qc (.invokevirtual 547) 3 291 3 0 [1, 4, 12]), (49, qa (.aload_n 0) 1), (50, qa (.aload_n 0) 1), (51, qf (.getfield 20) 3 12 3 1), (54, qk (.bipush 6) 2 (nI 6))]),
  (72, [(56, qc (.invokevirtual 547) 3 291 3 0 [1, 4, 12]), (59, qa (.aload_n 0) 1), (60, qa (.aload_n 0) 1), (61, qf (.getfield 23) 3 12 4 1), (64, qk (.sipush 2400) 3 (nI 2400)), (67, qc (.invokevirtual 547) 3 291 3 0 [1, 4, 12]), (70, qa (.aload_n 0) 1), (71, qa (.aload_n 0) 1)]),
  (92, [(72, qf (.getfield 26) 3 12 5 1), (75, qk (.sipush 2400) 3 (nI 2400)), (78, qc (.invokevirtual 547) 3 291 3 0 [1, 4, 12]), (81, qa (.aload_n 0) 1), (82, qa (.aload_n 0) 1), (83, qf (.getfield 29) 3 12 6 1), (86, qk (.sipush 2400) 3 (nI 2400)), (89, qc (.invokevirtual 547) 3 291 3 0 [1, 4, 12])]),
  (107, [(92, qa (.aload_n 0) 1), (93, qa (.aload_n 0) 1), (94, qf (.getfield 32) 3 12 7 1), (97, qk (.bipush 48) 2 (nI 48)), (99, qc (.invokevirtual 547) 3 291 3 0 [1, 4, 12]), (102, qa (.aload_n 0) 1), (103, qa (.aload_n 0) 1), (104, qf (.getfield 35) 3 12 8 1)]),
  (124, [(107, qk (.bipush 48) 2 (nI 48)), (109, qc (.invokevirtual 547) 3 291 3 0 [1, 4, 12]), (112, qa (.aload_n 0) 1), (113, qa (.aload_n 0) 1), (114, qf (.getfield 38) 3 12 9 1), (117, qk (.sipush 384) 3 (nI 384)), (120, qc (.invokevirtual 547) 3 291 3 0 [1, 4, 12]), (123, qa (.aload_n 0) 1)]),
  (140, [(124, qa (.aload_n 0) 1), (125, qf (.getfield 41) 3 12 10 1), (128, qk (.bipush 72) 2 (nI 72)), (130, qc (.invokevirtual 547) 3 291 3 0 [1, 4, 12]), (133, qa (.aload_n 0) 1), (134, qa (.aload_n 0) 1), (135, qf (.getfield 44) 3 12 11 1), (138, qk (.bipush 72) 2 (nI 72))]),
  (155, [(140, qc (.invokevirtual 547) 3 291 3 0 [1, 4, 12]), (143, qa (.aload_n 0) 1), (144, qa (.aload_n 0) 1), (145, qf (.getfield 47) 3 12 12 1), (148, qk (.bipush 72) 2 (nI 72)), (150, qc (.invokevirtual 547) 3 291 3 0 [1, 4, 12]), (153, qk (.iconst 1) 1 (nI 1)), (154, qf .ireturn 1 0 0 1)])]
-- 293 TinStencils$Pile.orderDigits()I
def tb_293 : qz_B := [(11, [(0, qk (.iconst 0) 1 (nI 0)), (1, qa (.istore_n 1) 1), (2, qk (.iconst 0) 1 (nI 0)), (3, qa (.istore_n 2) 1), (4, qa (.iload_n 2) 1), (5, qk (.bipush 6) 2 (nI 6)), (7, qj (.if_icmp .ge 21) 3 28 [false, true, false]), (10, qa (.iload_n 1) 1)]),
  (22, [(11, qk (.bipush 10) 2 (nI 10)), (13, qa .imul 1), (14, qa (.aload_n 0) 1), (15, qf (.getfield 17) 3 6 1 1), (18, qa (.iload_n 2) 1), (19, qa .iaload 1), (20, qa .iadd 1), (21, qa (.istore_n 1) 1)]),
  (30, [(22, qk (.iinc 2 1) 3 (nI 1)), (25, qj (.goto (-21)) 3 4 []), (28, qa (.iload_n 1) 1), (29, qa .ireturn 1)])]
-- 294 TinStencils.count(I)I
def tb_294 : qz_B := [(80, [(0, qa (.iload_n 1) 1), (1, qs (.tableswitch 117 0 12 #[67, 78, 83, 88, 117, 117, 117, 117, 117, 117, 96, 103, 110]) 67 118 0 [true, false] [68, 79, 84, 89, 118, 118, 118, 118, 118, 118, 97, 104, 111]), (68, qa (.aload_n 0) 1), (69, qf (.getfield 26) 3 11 4 1), (72, qc (.invokevirtual 286) 3 240 1 1 [2, 3, 6]), (75, qc (.invokestatic 261) 3 62 1 1 [0, 1]), (78, qm [true, false] (qa .ireturn 1)), (79, qa (.aload_n 0) 1)]),
  (96, [(80, qf (.getfield 13) 3 11 1 0), (83, qm [true, false] (qa .ireturn 1)), (84, qa (.aload_n 0) 1), (85, qf (.getfield 34) 3 11 6 0), (88, qm [true, false] (qa .ireturn 1)), (89, qa (.aload_n 0) 1), (90, qf (.getfield 26) 3 11 4 1), (93, qc (.invokevirtual 328) 3 293 1 1 [2, 3, 6])]),
  (108, [(96, qm [true, false] (qa .ireturn 1)), (97, qa (.aload_n 0) 1), (98, qf (.getfield 20) 3 11 3 1), (101, qk (.iconst 0) 1 (nI 0)), (102, qa .iaload 1), (103, qm [true, false] (qa .ireturn 1)), (104, qa (.aload_n 0) 1), (105, qf (.getfield 20) 3 11 3 1)]),
  (118, [(108, qk (.iconst 1) 1 (nI 1)), (109, qa .iaload 1), (110, qm [true, false] (qa .ireturn 1)), (111, qa (.aload_n 0) 1), (112, qf (.getfield 20) 3 11 3 1), (115, qk (.iconst 2) 1 (nI 2)), (116, qa .iaload 1), (117, qm [false, false] (qa .ireturn 1))]),
  (120, [(118, qk (.iconst (-1)) 1 (-1)), (119, qa .ireturn 1)])]
-- 295 TinStencilsModel.count(I)I
def tb_295 : qz_B := [(73, [(0, qk (.iconst 0) 1 (nI 0)), (1, qa (.istore_n 2) 1), (2, qa (.iload_n 1) 1), (3, qs (.tableswitch 115 0 12 #[65, 90, 95, 100, 115, 115, 115, 115, 115, 115, 105, 105, 105]) 65 118 0 [true, true, true, false] [68, 93, 98, 103, 118, 118, 118, 118, 118, 118, 108, 108, 108]), (68, qk (.iconst 0) 1 (nI 0)), (69, qm [true, false, true, true] (qa (.istore_n 3) 1)), (70, qa (.iload_n 3) 1), (71, qk (.bipush 6) 2 (nI 6))]),
  (85, [(73, qj (.if_icmp .ge 18) 3 91 [false, false, true, false]), (76, qa (.iload_n 2) 1), (77, qa (.aload_n 0) 1), (78, qf (.getfield 20) 3 12 3 1), (81, qa (.iload_n 3) 1), (82, qa .iaload 1), (83, qa .iadd 1), (84, qa (.istore_n 2) 1)]),
  (99, [(85, qk (.iinc 3 1) 3 (nI 1)), (88, qj (.goto (-18)) 3 70 [true, false, true, true]), (91, qa (.iload_n 2) 1), (92, qm [true, false, false, false] (qa .ireturn 1)), (93, qa (.aload_n 0) 1), (94, qf (.getfield 163) 3 12 14 0), (97, qm [true, false, false, false] (qa .ireturn 1)), (98, qa (.aload_n 0) 1)]),
  (113, [(99, qf (.getfield 540) 3 12 61 0), (102, qm [true, false, false, false] (qa .ireturn 1)), (103, qa (.aload_n 0) 1), (104, qf (.getfield 13) 3 12 1 0), (107, qm [true, true, false, false] (qa .ireturn 1)), (108, qa (.aload_n 0) 1), (109, qf (.getfield 7) 3 12 0 1), (112, qa (.iload_n 1) 1)]),
  (120, [(113, qk (.bipush 10) 2 (nI 10)), (115, qa .isub 1), (116, qa .iaload 1), (117, qm [false, false, false, false] (qa .ireturn 1)), (118, qk (.iconst (-1)) 1 (-1)), (119, qa .ireturn 1)])]
-- 296 TinStencilsLaw.law([I)Z
def tb_296 : qz_B := [(16, [(0, qc (.new 7) 3 11 17 0 [1, 0, 0, 1, 1, 1, 0, 1, 1, 1, 1, 1, 1, 1, 1, 1, 1]), (3, qa .dup 1), (4, qc (.invokespecial 9) 3 11 1 0 [1, 2, 11]), (7, qa (.astore_n 1) 1), (8, qc (.new 10) 3 12 65 0 [1, 0, 1, 1, 1, 1, 1, 1, 1, 1, 1, 1, 1, 1, 0, 0, 0, 0, 1, 1, 0, 0, 0, 0, 0, 0, 0, 0, 0, 1, 1, 1, 1, 1, 1, 1, 0, 1, 0, 0, 0, 0, 1, 1, 1, 1, 1, 1, 1, 1, 1, 1, 0, 1, 1, 1, 1, 1, 1, 1, 1, 0, 0, 1, 1]), (11, qa .dup 1), (12, qc (.invokespecial 12) 3 12 1 0 [0, 1, 12]), (15, qa (.astore_n 2) 1)]),
  (27, [(16, qk (.iconst 0) 1 (nI 0)), (17, qa (.istore_n 3) 1), (18, qa (.iload_n 3) 1), (19, qa (.aload_n 0) 1), (20, qa .arraylength 1), (21, qk (.bipush 6) 2 (nI 6)), (23, qa .isub 1), (24, qj (.if_icmp .gt 1222) 3 1246 [false, false, false, false])]),
  (166, [(27, qa (.aload_n 0) 1), (28, qa (.iload_n 3) 1), (29, qa .iaload 1), (30, qk (.bipush 31) 2 (nI 31)), (32, qa .iand 1), (33, qs (.tableswitch 1207 0 28 #[131, 194, 227, 240, 273, 326, 369, 402, 471, 514, 573, 606, 629, 652, 711, 774, 797, 820, 853, 876, 909, 932, 995, 1028, 1072, 1115, 1148, 1161, 1184]) 131 1240 0 [] [164, 227, 260, 273, 306, 359, 402, 435, 504, 547, 606, 639, 662, 685, 744, 807, 830, 853, 886, 909, 942, 965, 1028, 1061, 1105, 1148, 1181, 1194, 1217]), (164, qa (.aload_n 1) 1), (165, qa (.aload_n 0) 1)]),
  (174, [(166, qa (.iload_n 3) 1), (167, qk (.iconst 1) 1 (nI 1)), (168, qa .iadd 1), (169, qa .iaload 1), (170, qa (.aload_n 0) 1), (171, qa (.iload_n 3) 1), (172, qk (.iconst 2) 1 (nI 2)), (173, qa .iadd 1)]),
  (182, [(174, qa .iaload 1), (175, qa (.aload_n 0) 1), (176, qa (.iload_n 3) 1), (177, qk (.iconst 3) 1 (nI 3)), (178, qa .iadd 1), (179, qa .iaload 1), (180, qa (.aload_n 0) 1), (181, qa (.iload_n 3) 1)]),
  (190, [(182, qk (.iconst 4) 1 (nI 4)), (183, qa .iadd 1), (184, qa .iaload 1), (185, qa (.aload_n 0) 1), (186, qa (.iload_n 3) 1), (187, qk (.iconst 5) 1 (nI 5)), (188, qa .iadd 1), (189, qa .iaload 1)]),
  (200, [(190, qc (.invokevirtual 13) 3 14 6 1 [0, 6, 11]), (193, qa (.aload_n 2) 1), (194, qa (.aload_n 0) 1), (195, qa (.iload_n 3) 1), (196, qk (.iconst 1) 1 (nI 1)), (197, qa .iadd 1), (198, qa .iaload 1), (199, qa (.aload_n 0) 1)]),
  (208, [(200, qa (.iload_n 3) 1), (201, qk (.iconst 2) 1 (nI 2)), (202, qa .iadd 1), (203, qa .iaload 1), (204, qa (.aload_n 0) 1), (205, qa (.iload_n 3) 1), (206, qk (.iconst 3) 1 (nI 3)), (207, qa .iadd 1)]),
  (216, [(208, qa .iaload 1), (209, qa (.aload_n 0) 1), (210, qa (.iload_n 3) 1), (211, qk (.iconst 4) 1 (nI 4)), (212, qa .iadd 1), (213, qa .iaload 1), (214, qa (.aload_n 0) 1), (215, qa (.iload_n 3) 1)]),
  (228, [(216, qk (.iconst 5) 1 (nI 5)), (217, qa .iadd 1), (218, qa .iaload 1), (219, qc (.invokevirtual 17) 3 16 6 1 [0, 6, 12]), (222, qj (.if_icmp .eq 1018) 3 1240 []), (225, qk (.iconst 0) 1 (nI 0)), (226, qf .ireturn 1 0 0 1), (227, qa (.aload_n 1) 1)]),
  (236, [(228, qa (.aload_n 0) 1), (229, qa (.iload_n 3) 1), (230, qk (.iconst 1) 1 (nI 1)), (231, qa .iadd 1), (232, qa .iaload 1), (233, qa (.aload_n 0) 1), (234, qa (.iload_n 3) 1), (235, qk (.iconst 2) 1 (nI 2))]),
  (246, [(236, qa .iadd 1), (237, qa .iaload 1), (238, qc (.invokevirtual 18) 3 71 3 1 [2, 5, 11]), (241, qa (.aload_n 2) 1), (242, qa (.aload_n 0) 1), (243, qa (.iload_n 3) 1), (244, qk (.iconst 1) 1 (nI 1)), (245, qa .iadd 1)]),
  (258, [(246, qa .iaload 1), (247, qa (.aload_n 0) 1), (248, qa (.iload_n 3) 1), (249, qk (.iconst 2) 1 (nI 2)), (250, qa .iadd 1), (251, qa .iaload 1), (252, qc (.invokevirtual 22) 3 112 3 1 [1, 4, 12]), (255, qj (.if_icmp .eq 985) 3 1240 [])]),
  (272, [(258, qk (.iconst 0) 1 (nI 0)), (259, qf .ireturn 1 0 0 1), (260, qa (.aload_n 1) 1), (261, qc (.invokevirtual 23) 3 113 1 1 [0, 1, 11]), (264, qa (.aload_n 2) 1), (265, qc (.invokevirtual 27) 3 114 1 1 [0, 1, 12]), (268, qj (.if_icmp .eq 972) 3 1240 []), (271, qk (.iconst 0) 1 (nI 0))]),
  (280, [(272, qf .ireturn 1 0 0 1), (273, qa (.aload_n 1) 1), (274, qa (.aload_n 0) 1), (275, qa (.iload_n 3) 1), (276, qk (.iconst 1) 1 (nI 1)), (277, qa .iadd 1), (278, qa .iaload 1), (279, qa (.aload_n 0) 1)]),
  (290, [(280, qa (.iload_n 3) 1), (281, qk (.iconst 2) 1 (nI 2)), (282, qa .iadd 1), (283, qa .iaload 1), (284, qc (.invokevirtual 28) 3 119 3 1 [1, 4, 11]), (287, qa (.aload_n 2) 1), (288, qa (.aload_n 0) 1), (289, qa (.iload_n 3) 1)]),
  (298, [(290, qk (.iconst 1) 1 (nI 1)), (291, qa .iadd 1), (292, qa .iaload 1), (293, qa (.aload_n 0) 1), (294, qa (.iload_n 3) 1), (295, qk (.iconst 2) 1 (nI 2)), (296, qa .iadd 1), (297, qa .iaload 1)]),
  (310, [(298, qc (.invokevirtual 31) 3 125 3 1 [0, 3, 12]), (301, qj (.if_icmp .eq 939) 3 1240 []), (304, qk (.iconst 0) 1 (nI 0)), (305, qf .ireturn 1 0 0 1), (306, qa (.aload_n 1) 1), (307, qa (.aload_n 0) 1), (308, qa (.iload_n 3) 1), (309, qk (.iconst 1) 1 (nI 1))]),
  (318, [(310, qa .iadd 1), (311, qa .iaload 1), (312, qa (.aload_n 0) 1), (313, qa (.iload_n 3) 1), (314, qk (.iconst 2) 1 (nI 2)), (315, qa .iadd 1), (316, qa .iaload 1), (317, qa (.aload_n 0) 1)]),
  (326, [(318, qa (.iload_n 3) 1), (319, qk (.iconst 3) 1 (nI 3)), (320, qa .iadd 1), (321, qa .iaload 1), (322, qa (.aload_n 0) 1), (323, qa (.iload_n 3) 1), (324, qk (.iconst 4) 1 (nI 4)), (325, qa .iadd 1)]),
  (336, [(326, qa .iaload 1), (327, qc (.invokevirtual 32) 3 141 5 1 [2, 7, 11]), (330, qa (.aload_n 2) 1), (331, qa (.aload_n 0) 1), (332, qa (.iload_n 3) 1), (333, qk (.iconst 1) 1 (nI 1)), (334, qa .iadd 1), (335, qa .iaload 1)]),
  (344, [(336, qa (.aload_n 0) 1), (337, qa (.iload_n 3) 1), (338, qk (.iconst 2) 1 (nI 2)), (339, qa .iadd 1), (340, qa .iaload 1), (341, qa (.aload_n 0) 1), (342, qa (.iload_n 3) 1), (343, qk (.iconst 3) 1 (nI 3))]),
  (354, [(344, qa .iadd 1), (345, qa .iaload 1), (346, qa (.aload_n 0) 1), (347, qa (.iload_n 3) 1), (348, qk (.iconst 4) 1 (nI 4)), (349, qa .iadd 1), (350, qa .iaload 1), (351, qc (.invokevirtual 36) 3 152 5 1 [1, 6, 12])]),
  (364, [(354, qj (.if_icmp .eq 886) 3 1240 []), (357, qk (.iconst 0) 1 (nI 0)), (358, qf .ireturn 1 0 0 1), (359, qa (.aload_n 1) 1), (360, qa (.aload_n 0) 1), (361, qa (.iload_n 3) 1), (362, qk (.iconst 1) 1 (nI 1)), (363, qa .iadd 1)]),
  (372, [(364, qa .iaload 1), (365, qa (.aload_n 0) 1), (366, qa (.iload_n 3) 1), (367, qk (.iconst 2) 1 (nI 2)), (368, qa .iadd 1), (369, qa .iaload 1), (370, qa (.aload_n 0) 1), (371, qa (.iload_n 3) 1)]),
  (382, [(372, qk (.iconst 3) 1 (nI 3)), (373, qa .iadd 1), (374, qa .iaload 1), (375, qc (.invokevirtual 37) 3 158 4 1 [1, 5, 11]), (378, qa (.aload_n 2) 1), (379, qa (.aload_n 0) 1), (380, qa (.iload_n 3) 1), (381, qk (.iconst 1) 1 (nI 1))]),
  (390, [(382, qa .iadd 1), (383, qa .iaload 1), (384, qa (.aload_n 0) 1), (385, qa (.iload_n 3) 1), (386, qk (.iconst 2) 1 (nI 2)), (387, qa .iadd 1), (388, qa .iaload 1), (389, qa (.aload_n 0) 1)]),
  (402, [(390, qa (.iload_n 3) 1), (391, qk (.iconst 3) 1 (nI 3)), (392, qa .iadd 1), (393, qa .iaload 1), (394, qc (.invokevirtual 41) 3 160 4 1 [0, 4, 12]), (397, qj (.if_icmp .eq 843) 3 1240 []), (400, qk (.iconst 0) 1 (nI 0)), (401, qf .ireturn 1 0 0 1)]),
  (410, [(402, qa (.aload_n 1) 1), (403, qa (.aload_n 0) 1), (404, qa (.iload_n 3) 1), (405, qk (.iconst 1) 1 (nI 1)), (406, qa .iadd 1), (407, qa .iaload 1), (408, qa (.aload_n 0) 1), (409, qa (.iload_n 3) 1)]),
  (420, [(410, qk (.iconst 2) 1 (nI 2)), (411, qa .iadd 1), (412, qa .iaload 1), (413, qc (.invokevirtual 42) 3 164 3 1 [1, 4, 11]), (416, qa (.aload_n 2) 1), (417, qa (.aload_n 0) 1), (418, qa (.iload_n 3) 1), (419, qk (.iconst 1) 1 (nI 1))]),
  (430, [(420, qa .iadd 1), (421, qa .iaload 1), (422, qa (.aload_n 0) 1), (423, qa (.iload_n 3) 1), (424, qk (.iconst 2) 1 (nI 2)), (425, qa .iadd 1), (426, qa .iaload 1), (427, qc (.invokevirtual 45) 3 166 3 1 [0, 3, 12])]),
  (440, [(430, qj (.if_icmp .eq 810) 3 1240 []), (433, qk (.iconst 0) 1 (nI 0)), (434, qf .ireturn 1 0 0 1), (435, qa (.aload_n 1) 1), (436, qa (.aload_n 0) 1), (437, qa (.iload_n 3) 1), (438, qk (.iconst 1) 1 (nI 1)), (439, qa .iadd 1)]),
  (448, [(440, qa .iaload 1), (441, qa (.aload_n 0) 1), (442, qa (.iload_n 3) 1), (443, qk (.iconst 2) 1 (nI 2)), (444, qa .iadd 1), (445, qa .iaload 1), (446, qa (.aload_n 0) 1), (447, qa (.iload_n 3) 1)]),
  (456, [(448, qk (.iconst 3) 1 (nI 3)), (449, qa .iadd 1), (450, qa .iaload 1), (451, qa (.aload_n 0) 1), (452, qa (.iload_n 3) 1), (453, qk (.iconst 4) 1 (nI 4)), (454, qa .iadd 1), (455, qa .iaload 1)]),
  (470, [(456, qj (.ifCond .eq 7) 3 463 []), (459, qk (.iconst 1) 1 (nI 1)), (460, qj (.goto 4) 3 464 []), (463, qk (.iconst 0) 1 (nI 0)), (464, qc (.invokevirtual 46) 3 167 5 1 [1, 6, 11]), (467, qa (.aload_n 2) 1), (468, qa (.aload_n 0) 1), (469, qa (.iload_n 3) 1)]),
  (478, [(470, qk (.iconst 1) 1 (nI 1)), (471, qa .iadd 1), (472, qa .iaload 1), (473, qa (.aload_n 0) 1), (474, qa (.iload_n 3) 1), (475, qk (.iconst 2) 1 (nI 2)), (476, qa .iadd 1), (477, qa .iaload 1)]),
  (486, [(478, qa (.aload_n 0) 1), (479, qa (.iload_n 3) 1), (480, qk (.iconst 3) 1 (nI 3)), (481, qa .iadd 1), (482, qa .iaload 1), (483, qa (.aload_n 0) 1), (484, qa (.iload_n 3) 1), (485, qk (.iconst 4) 1 (nI 4))]),
  (502, [(486, qa .iadd 1), (487, qa .iaload 1), (488, qj (.ifCond .eq 7) 3 495 []), (491, qk (.iconst 1) 1 (nI 1)), (492, qj (.goto 4) 3 496 []), (495, qk (.iconst 0) 1 (nI 0)), (496, qc (.invokevirtual 50) 3 169 5 1 [0, 5, 12]), (499, qj (.if_icmp .eq 741) 3 1240 [])]),
  (510, [(502, qk (.iconst 0) 1 (nI 0)), (503, qf .ireturn 1 0 0 1), (504, qa (.aload_n 1) 1), (505, qa (.aload_n 0) 1), (506, qa (.iload_n 3) 1), (507, qk (.iconst 1) 1 (nI 1)), (508, qa .iadd 1), (509, qa .iaload 1)]),
  (518, [(510, qa (.aload_n 0) 1), (511, qa (.iload_n 3) 1), (512, qk (.iconst 2) 1 (nI 2)), (513, qa .iadd 1), (514, qa .iaload 1), (515, qa (.aload_n 0) 1), (516, qa (.iload_n 3) 1), (517, qk (.iconst 3) 1 (nI 3))]),
  (528, [(518, qa .iadd 1), (519, qa .iaload 1), (520, qc (.invokevirtual 51) 3 172 4 1 [1, 5, 11]), (523, qa (.aload_n 2) 1), (524, qa (.aload_n 0) 1), (525, qa (.iload_n 3) 1), (526, qk (.iconst 1) 1 (nI 1)), (527, qa .iadd 1)]),
  (536, [(528, qa .iaload 1), (529, qa (.aload_n 0) 1), (530, qa (.iload_n 3) 1), (531, qk (.iconst 2) 1 (nI 2)), (532, qa .iadd 1), (533, qa .iaload 1), (534, qa (.aload_n 0) 1), (535, qa (.iload_n 3) 1)]),
  (548, [(536, qk (.iconst 3) 1 (nI 3)), (537, qa .iadd 1), (538, qa .iaload 1), (539, qc (.invokevirtual 54) 3 174 4 1 [1, 5, 12]), (542, qj (.if_icmp .eq 698) 3 1240 []), (545, qk (.iconst 0) 1 (nI 0)), (546, qf .ireturn 1 0 0 1), (547, qa (.aload_n 1) 1)]),
  (556, [(548, qa (.aload_n 0) 1), (549, qa (.iload_n 3) 1), (550, qk (.iconst 1) 1 (nI 1)), (551, qa .iadd 1), (552, qa .iaload 1), (553, qa (.aload_n 0) 1), (554, qa (.iload_n 3) 1), (555, qk (.iconst 2) 1 (nI 2))]),
  (566, [(556, qa .iadd 1), (557, qa .iaload 1), (558, qa (.aload_n 0) 1), (559, qa (.iload_n 3) 1), (560, qk (.iconst 3) 1 (nI 3)), (561, qa .iadd 1), (562, qa .iaload 1), (563, qj (.ifCond .eq 7) 3 570 [])]),
  (578, [(566, qk (.iconst 1) 1 (nI 1)), (567, qj (.goto 4) 3 571 []), (570, qk (.iconst 0) 1 (nI 0)), (571, qc (.invokevirtual 55) 3 175 4 1 [2, 6, 11]), (574, qa (.aload_n 2) 1), (575, qa (.aload_n 0) 1), (576, qa (.iload_n 3) 1), (577, qk (.iconst 1) 1 (nI 1))]),
  (586, [(578, qa .iadd 1), (579, qa .iaload 1), (580, qa (.aload_n 0) 1), (581, qa (.iload_n 3) 1), (582, qk (.iconst 2) 1 (nI 2)), (583, qa .iadd 1), (584, qa .iaload 1), (585, qa (.aload_n 0) 1)]),
  (598, [(586, qa (.iload_n 3) 1), (587, qk (.iconst 3) 1 (nI 3)), (588, qa .iadd 1), (589, qa .iaload 1), (590, qj (.ifCond .eq 7) 3 597 []), (593, qk (.iconst 1) 1 (nI 1)), (594, qj (.goto 4) 3 598 []), (597, qk (.iconst 0) 1 (nI 0))]),
  (610, [(598, qc (.invokevirtual 59) 3 176 4 1 [1, 5, 12]), (601, qj (.if_icmp .eq 639) 3 1240 []), (604, qk (.iconst 0) 1 (nI 0)), (605, qf .ireturn 1 0 0 1), (606, qa (.aload_n 1) 1), (607, qa (.aload_n 0) 1), (608, qa (.iload_n 3) 1), (609, qk (.iconst 1) 1 (nI 1))]),
  (620, [(610, qa .iadd 1), (611, qa .iaload 1), (612, qa (.aload_n 0) 1), (613, qa (.iload_n 3) 1), (614, qk (.iconst 2) 1 (nI 2)), (615, qa .iadd 1), (616, qa .iaload 1), (617, qc (.invokevirtual 60) 3 182 3 1 [1, 4, 11])]),
  (628, [(620, qa (.aload_n 2) 1), (621, qa (.aload_n 0) 1), (622, qa (.iload_n 3) 1), (623, qk (.iconst 1) 1 (nI 1)), (624, qa .iadd 1), (625, qa .iaload 1), (626, qa (.aload_n 0) 1), (627, qa (.iload_n 3) 1)]),
  (640, [(628, qk (.iconst 2) 1 (nI 2)), (629, qa .iadd 1), (630, qa .iaload 1), (631, qc (.invokevirtual 63) 3 187 3 1 [2, 5, 12]), (634, qj (.if_icmp .eq 606) 3 1240 []), (637, qk (.iconst 0) 1 (nI 0)), (638, qf .ireturn 1 0 0 1), (639, qa (.aload_n 1) 1)]),
  (650, [(640, qa (.aload_n 0) 1), (641, qa (.iload_n 3) 1), (642, qk (.iconst 1) 1 (nI 1)), (643, qa .iadd 1), (644, qa .iaload 1), (645, qc (.invokevirtual 64) 3 197 2 1 [1, 3, 11]), (648, qa (.aload_n 2) 1), (649, qa (.aload_n 0) 1)]),
  (662, [(650, qa (.iload_n 3) 1), (651, qk (.iconst 1) 1 (nI 1)), (652, qa .iadd 1), (653, qa .iaload 1), (654, qc (.invokevirtual 68) 3 202 2 1 [0, 2, 12]), (657, qj (.if_icmp .eq 583) 3 1240 []), (660, qk (.iconst 0) 1 (nI 0)), (661, qf .ireturn 1 0 0 1)]),
  (672, [(662, qa (.aload_n 1) 1), (663, qa (.aload_n 0) 1), (664, qa (.iload_n 3) 1), (665, qk (.iconst 1) 1 (nI 1)), (666, qa .iadd 1), (667, qa .iaload 1), (668, qc (.invokevirtual 69) 3 204 2 1 [1, 3, 11]), (671, qa (.aload_n 2) 1)]),
  (684, [(672, qa (.aload_n 0) 1), (673, qa (.iload_n 3) 1), (674, qk (.iconst 1) 1 (nI 1)), (675, qa .iadd 1), (676, qa .iaload 1), (677, qc (.invokevirtual 72) 3 205 2 1 [4, 6, 12]), (680, qj (.if_icmp .eq 560) 3 1240 []), (683, qk (.iconst 0) 1 (nI 0))]),
  (692, [(684, qf .ireturn 1 0 0 1), (685, qa (.aload_n 1) 1), (686, qa (.aload_n 0) 1), (687, qa (.iload_n 3) 1), (688, qk (.iconst 1) 1 (nI 1)), (689, qa .iadd 1), (690, qa .iaload 1), (691, qa (.aload_n 0) 1)]),
  (704, [(692, qa (.iload_n 3) 1), (693, qk (.iconst 2) 1 (nI 2)), (694, qa .iadd 1), (695, qa .iaload 1), (696, qj (.ifCond .eq 7) 3 703 []), (699, qk (.iconst 1) 1 (nI 1)), (700, qj (.goto 4) 3 704 []), (703, qk (.iconst 0) 1 (nI 0))]),
  (714, [(704, qa (.aload_n 0) 1), (705, qa (.iload_n 3) 1), (706, qk (.iconst 3) 1 (nI 3)), (707, qa .iadd 1), (708, qa .iaload 1), (709, qc (.invokevirtual 73) 3 212 4 1 [2, 6, 11]), (712, qa (.aload_n 2) 1), (713, qa (.aload_n 0) 1)]),
  (722, [(714, qa (.iload_n 3) 1), (715, qk (.iconst 1) 1 (nI 1)), (716, qa .iadd 1), (717, qa .iaload 1), (718, qa (.aload_n 0) 1), (719, qa (.iload_n 3) 1), (720, qk (.iconst 2) 1 (nI 2)), (721, qa .iadd 1)]),
  (734, [(722, qa .iaload 1), (723, qj (.ifCond .eq 7) 3 730 []), (726, qk (.iconst 1) 1 (nI 1)), (727, qj (.goto 4) 3 731 []), (730, qk (.iconst 0) 1 (nI 0)), (731, qa (.aload_n 0) 1), (732, qa (.iload_n 3) 1), (733, qk (.iconst 3) 1 (nI 3))]),
  (746, [(734, qa .iadd 1), (735, qa .iaload 1), (736, qc (.invokevirtual 77) 3 215 4 1 [4, 8, 12]), (739, qj (.if_icmp .eq 501) 3 1240 []), (742, qk (.iconst 0) 1 (nI 0)), (743, qf .ireturn 1 0 0 1), (744, qa (.aload_n 1) 1), (745, qa (.aload_n 0) 1)]),
  (754, [(746, qa (.iload_n 3) 1), (747, qk (.iconst 1) 1 (nI 1)), (748, qa .iadd 1), (749, qa .iaload 1), (750, qa (.aload_n 0) 1), (751, qa (.iload_n 3) 1), (752, qk (.iconst 2) 1 (nI 2)), (753, qa .iadd 1)]),
  (762, [(754, qa .iaload 1), (755, qa (.aload_n 0) 1), (756, qa (.iload_n 3) 1), (757, qk (.iconst 3) 1 (nI 3)), (758, qa .iadd 1), (759, qa .iaload 1), (760, qa (.aload_n 0) 1), (761, qa (.iload_n 3) 1)]),
  (770, [(762, qk (.iconst 4) 1 (nI 4)), (763, qa .iadd 1), (764, qa .iaload 1), (765, qa (.aload_n 0) 1), (766, qa (.iload_n 3) 1), (767, qk (.iconst 5) 1 (nI 5)), (768, qa .iadd 1), (769, qa .iaload 1)]),
  (780, [(770, qc (.invokevirtual 78) 3 220 6 1 [1, 7, 11]), (773, qa (.aload_n 2) 1), (774, qa (.aload_n 0) 1), (775, qa (.iload_n 3) 1), (776, qk (.iconst 1) 1 (nI 1)), (777, qa .iadd 1), (778, qa .iaload 1), (779, qa (.aload_n 0) 1)]),
  (788, [(780, qa (.iload_n 3) 1), (781, qk (.iconst 2) 1 (nI 2)), (782, qa .iadd 1), (783, qa .iaload 1), (784, qa (.aload_n 0) 1), (785, qa (.iload_n 3) 1), (786, qk (.iconst 3) 1 (nI 3)), (787, qa .iadd 1)]),
  (796, [(788, qa .iaload 1), (789, qa (.aload_n 0) 1), (790, qa (.iload_n 3) 1), (791, qk (.iconst 4) 1 (nI 4)), (792, qa .iadd 1), (793, qa .iaload 1), (794, qa (.aload_n 0) 1), (795, qa (.iload_n 3) 1)]),
  (808, [(796, qk (.iconst 5) 1 (nI 5)), (797, qa .iadd 1), (798, qa .iaload 1), (799, qc (.invokevirtual 81) 3 222 6 1 [0, 6, 12]), (802, qj (.if_icmp .eq 438) 3 1240 []), (805, qk (.iconst 0) 1 (nI 0)), (806, qf .ireturn 1 0 0 1), (807, qa (.aload_n 1) 1)]),
  (818, [(808, qa (.aload_n 0) 1), (809, qa (.iload_n 3) 1), (810, qk (.iconst 1) 1 (nI 1)), (811, qa .iadd 1), (812, qa .iaload 1), (813, qc (.invokevirtual 82) 3 223 2 1 [7, 9, 11]), (816, qa (.aload_n 2) 1), (817, qa (.aload_n 0) 1)]),
  (830, [(818, qa (.iload_n 3) 1), (819, qk (.iconst 1) 1 (nI 1)), (820, qa .iadd 1), (821, qa .iaload 1), (822, qc (.invokevirtual 85) 3 224 2 1 [6, 8, 12]), (825, qj (.if_icmp .eq 415) 3 1240 []), (828, qk (.iconst 0) 1 (nI 0)), (829, qf .ireturn 1 0 0 1)]),
  (840, [(830, qa (.aload_n 1) 1), (831, qa (.aload_n 0) 1), (832, qa (.iload_n 3) 1), (833, qk (.iconst 1) 1 (nI 1)), (834, qa .iadd 1), (835, qa .iaload 1), (836, qc (.invokevirtual 86) 3 226 2 1 [1, 3, 11]), (839, qa (.aload_n 2) 1)]),
  (852, [(840, qa (.aload_n 0) 1), (841, qa (.iload_n 3) 1), (842, qk (.iconst 1) 1 (nI 1)), (843, qa .iadd 1), (844, qa .iaload 1), (845, qc (.invokevirtual 89) 3 227 2 1 [2, 4, 12]), (848, qj (.if_icmp .eq 392) 3 1240 []), (851, qk (.iconst 0) 1 (nI 0))]),
  (860, [(852, qf .ireturn 1 0 0 1), (853, qa (.aload_n 1) 1), (854, qa (.aload_n 0) 1), (855, qa (.iload_n 3) 1), (856, qk (.iconst 1) 1 (nI 1)), (857, qa .iadd 1), (858, qa .iaload 1), (859, qa (.aload_n 0) 1)]),
  (870, [(860, qa (.iload_n 3) 1), (861, qk (.iconst 2) 1 (nI 2)), (862, qa .iadd 1), (863, qa .iaload 1), (864, qc (.invokevirtual 90) 3 228 3 1 [2, 5, 11]), (867, qa (.aload_n 2) 1), (868, qa (.aload_n 0) 1), (869, qa (.iload_n 3) 1)]),
  (878, [(870, qk (.iconst 1) 1 (nI 1)), (871, qa .iadd 1), (872, qa .iaload 1), (873, qa (.aload_n 0) 1), (874, qa (.iload_n 3) 1), (875, qk (.iconst 2) 1 (nI 2)), (876, qa .iadd 1), (877, qa .iaload 1)]),
  (890, [(878, qc (.invokevirtual 93) 3 230 3 1 [0, 3, 12]), (881, qj (.if_icmp .eq 359) 3 1240 []), (884, qk (.iconst 0) 1 (nI 0)), (885, qf .ireturn 1 0 0 1), (886, qa (.aload_n 1) 1), (887, qa (.aload_n 0) 1), (888, qa (.iload_n 3) 1), (889, qk (.iconst 1) 1 (nI 1))]),
  (900, [(890, qa .iadd 1), (891, qa .iaload 1), (892, qc (.invokevirtual 94) 3 233 2 1 [0, 2, 11]), (895, qa (.aload_n 2) 1), (896, qa (.aload_n 0) 1), (897, qa (.iload_n 3) 1), (898, qk (.iconst 1) 1 (nI 1)), (899, qa .iadd 1)]),
  (912, [(900, qa .iaload 1), (901, qc (.invokevirtual 98) 3 234 2 1 [3, 5, 12]), (904, qj (.if_icmp .eq 336) 3 1240 []), (907, qk (.iconst 0) 1 (nI 0)), (908, qf .ireturn 1 0 0 1), (909, qa (.aload_n 1) 1), (910, qa (.aload_n 0) 1), (911, qa (.iload_n 3) 1)]),
  (920, [(912, qk (.iconst 1) 1 (nI 1)), (913, qa .iadd 1), (914, qa .iaload 1), (915, qa (.aload_n 0) 1), (916, qa (.iload_n 3) 1), (917, qk (.iconst 2) 1 (nI 2)), (918, qa .iadd 1), (919, qa .iaload 1)]),
  (930, [(920, qc (.invokevirtual 99) 3 236 3 1 [0, 3, 11]), (923, qa (.aload_n 2) 1), (924, qa (.aload_n 0) 1), (925, qa (.iload_n 3) 1), (926, qk (.iconst 1) 1 (nI 1)), (927, qa .iadd 1), (928, qa .iaload 1), (929, qa (.aload_n 0) 1)]),
  (942, [(930, qa (.iload_n 3) 1), (931, qk (.iconst 2) 1 (nI 2)), (932, qa .iadd 1), (933, qa .iaload 1), (934, qc (.invokevirtual 102) 3 239 3 1 [2, 5, 12]), (937, qj (.if_icmp .eq 303) 3 1240 []), (940, qk (.iconst 0) 1 (nI 0)), (941, qf .ireturn 1 0 0 1)]),
  (952, [(942, qa (.aload_n 1) 1), (943, qa (.aload_n 0) 1), (944, qa (.iload_n 3) 1), (945, qk (.iconst 1) 1 (nI 1)), (946, qa .iadd 1), (947, qa .iaload 1), (948, qc (.invokevirtual 103) 3 247 2 1 [1, 3, 11]), (951, qa (.aload_n 2) 1)]),
  (964, [(952, qa (.aload_n 0) 1), (953, qa (.iload_n 3) 1), (954, qk (.iconst 1) 1 (nI 1)), (955, qa .iadd 1), (956, qa .iaload 1), (957, qc (.invokevirtual 106) 3 252 2 1 [1, 3, 12]), (960, qj (.if_icmp .eq 280) 3 1240 []), (963, qk (.iconst 0) 1 (nI 0))]),
  (972, [(964, qf .ireturn 1 0 0 1), (965, qa (.aload_n 1) 1), (966, qa (.aload_n 0) 1), (967, qa (.iload_n 3) 1), (968, qk (.iconst 1) 1 (nI 1)), (969, qa .iadd 1), (970, qa .iaload 1), (971, qa (.aload_n 0) 1)]),
  (980, [(972, qa (.iload_n 3) 1), (973, qk (.iconst 2) 1 (nI 2)), (974, qa .iadd 1), (975, qa .iaload 1), (976, qa (.aload_n 0) 1), (977, qa (.iload_n 3) 1), (978, qk (.iconst 3) 1 (nI 3)), (979, qa .iadd 1)]),
  (988, [(980, qa .iaload 1), (981, qa (.aload_n 0) 1), (982, qa (.iload_n 3) 1), (983, qk (.iconst 4) 1 (nI 4)), (984, qa .iadd 1), (985, qa .iaload 1), (986, qa (.aload_n 0) 1), (987, qa (.iload_n 3) 1)]),
  (998, [(988, qk (.iconst 5) 1 (nI 5)), (989, qa .iadd 1), (990, qa .iaload 1), (991, qc (.invokevirtual 107) 3 254 6 1 [2, 8, 11]), (994, qa (.aload_n 2) 1), (995, qa (.aload_n 0) 1), (996, qa (.iload_n 3) 1), (997, qk (.iconst 1) 1 (nI 1))]),
  (1006, [(998, qa .iadd 1), (999, qa .iaload 1), (1000, qa (.aload_n 0) 1), (1001, qa (.iload_n 3) 1), (1002, qk (.iconst 2) 1 (nI 2)), (1003, qa .iadd 1), (1004, qa .iaload 1), (1005, qa (.aload_n 0) 1)]),
  (1014, [(1006, qa (.iload_n 3) 1), (1007, qk (.iconst 3) 1 (nI 3)), (1008, qa .iadd 1), (1009, qa .iaload 1), (1010, qa (.aload_n 0) 1), (1011, qa (.iload_n 3) 1), (1012, qk (.iconst 4) 1 (nI 4)), (1013, qa .iadd 1)]),
  (1026, [(1014, qa .iaload 1), (1015, qa (.aload_n 0) 1), (1016, qa (.iload_n 3) 1), (1017, qk (.iconst 5) 1 (nI 5)), (1018, qa .iadd 1), (1019, qa .iaload 1), (1020, qc (.invokevirtual 110) 3 255 6 1 [5, 11, 12]), (1023, qj (.if_icmp .eq 217) 3 1240 [])]),
  (1034, [(1026, qk (.iconst 0) 1 (nI 0)), (1027, qf .ireturn 1 0 0 1), (1028, qa (.aload_n 1) 1), (1029, qa (.aload_n 0) 1), (1030, qa (.iload_n 3) 1), (1031, qk (.iconst 1) 1 (nI 1)), (1032, qa .iadd 1), (1033, qa .iaload 1)]),
  (1044, [(1034, qa (.aload_n 0) 1), (1035, qa (.iload_n 3) 1), (1036, qk (.iconst 2) 1 (nI 2)), (1037, qa .iadd 1), (1038, qa .iaload 1), (1039, qc (.invokevirtual 111) 3 256 3 1 [6, 9, 11]), (1042, qa (.aload_n 2) 1), (1043, qa (.aload_n 0) 1)]),
  (1052, [(1044, qa (.iload_n 3) 1), (1045, qk (.iconst 1) 1 (nI 1)), (1046, qa .iadd 1), (1047, qa .iaload 1), (1048, qa (.aload_n 0) 1), (1049, qa (.iload_n 3) 1), (1050, qk (.iconst 2) 1 (nI 2)), (1051, qa .iadd 1)]),
  (1064, [(1052, qa .iaload 1), (1053, qc (.invokevirtual 114) 3 257 3 1 [2, 5, 12]), (1056, qj (.if_icmp .eq 184) 3 1240 []), (1059, qk (.iconst 0) 1 (nI 0)), (1060, qf .ireturn 1 0 0 1), (1061, qa (.aload_n 1) 1), (1062, qa (.aload_n 0) 1), (1063, qa (.iload_n 3) 1)]),
  (1072, [(1064, qk (.iconst 1) 1 (nI 1)), (1065, qa .iadd 1), (1066, qa .iaload 1), (1067, qa (.aload_n 0) 1), (1068, qa (.iload_n 3) 1), (1069, qk (.iconst 2) 1 (nI 2)), (1070, qa .iadd 1), (1071, qa .iaload 1)]),
  (1082, [(1072, qa (.aload_n 0) 1), (1073, qa (.iload_n 3) 1), (1074, qk (.iconst 3) 1 (nI 3)), (1075, qa .iadd 1), (1076, qa .iaload 1), (1077, qc (.invokevirtual 115) 3 266 4 2 [1, 5, 11]), (1080, qa (.aload_n 2) 1), (1081, qa (.aload_n 0) 1)]),
  (1090, [(1082, qa (.iload_n 3) 1), (1083, qk (.iconst 1) 1 (nI 1)), (1084, qa .iadd 1), (1085, qa .iaload 1), (1086, qa (.aload_n 0) 1), (1087, qa (.iload_n 3) 1), (1088, qk (.iconst 2) 1 (nI 2)), (1089, qa .iadd 1)]),
  (1100, [(1090, qa .iaload 1), (1091, qa (.aload_n 0) 1), (1092, qa (.iload_n 3) 1), (1093, qk (.iconst 3) 1 (nI 3)), (1094, qa .iadd 1), (1095, qa .iaload 1), (1096, qc (.invokevirtual 119) 3 271 4 2 [3, 7, 12]), (1099, qa .lcmp 1)]),
  (1110, [(1100, qj (.ifCond .eq 140) 3 1240 []), (1103, qk (.iconst 0) 1 (nI 0)), (1104, qf .ireturn 1 0 0 1), (1105, qa (.aload_n 1) 1), (1106, qa (.aload_n 0) 1), (1107, qa (.iload_n 3) 1), (1108, qk (.iconst 1) 1 (nI 1)), (1109, qa .iadd 1)]),
  (1118, [(1110, qa .iaload 1), (1111, qa (.aload_n 0) 1), (1112, qa (.iload_n 3) 1), (1113, qk (.iconst 2) 1 (nI 2)), (1114, qa .iadd 1), (1115, qa .iaload 1), (1116, qa (.aload_n 0) 1), (1117, qa (.iload_n 3) 1)]),
  (1128, [(1118, qk (.iconst 3) 1 (nI 3)), (1119, qa .iadd 1), (1120, qa .iaload 1), (1121, qc (.invokevirtual 120) 3 273 4 1 [1, 5, 11]), (1124, qa (.aload_n 2) 1), (1125, qa (.aload_n 0) 1), (1126, qa (.iload_n 3) 1), (1127, qk (.iconst 1) 1 (nI 1))]),
  (1136, [(1128, qa .iadd 1), (1129, qa .iaload 1), (1130, qa (.aload_n 0) 1), (1131, qa (.iload_n 3) 1), (1132, qk (.iconst 2) 1 (nI 2)), (1133, qa .iadd 1), (1134, qa .iaload 1), (1135, qa (.aload_n 0) 1)]),
  (1148, [(1136, qa (.iload_n 3) 1), (1137, qk (.iconst 3) 1 (nI 3)), (1138, qa .iadd 1), (1139, qa .iaload 1), (1140, qc (.invokevirtual 123) 3 274 4 1 [0, 4, 12]), (1143, qj (.if_icmp .eq 97) 3 1240 []), (1146, qk (.iconst 0) 1 (nI 0)), (1147, qf .ireturn 1 0 0 1)]),
  (1156, [(1148, qa (.aload_n 1) 1), (1149, qa (.aload_n 0) 1), (1150, qa (.iload_n 3) 1), (1151, qk (.iconst 1) 1 (nI 1)), (1152, qa .iadd 1), (1153, qa .iaload 1), (1154, qa (.aload_n 0) 1), (1155, qa (.iload_n 3) 1)]),
  (1166, [(1156, qk (.iconst 2) 1 (nI 2)), (1157, qa .iadd 1), (1158, qa .iaload 1), (1159, qc (.invokevirtual 124) 3 281 3 1 [1, 4, 11]), (1162, qa (.aload_n 2) 1), (1163, qa (.aload_n 0) 1), (1164, qa (.iload_n 3) 1), (1165, qk (.iconst 1) 1 (nI 1))]),
  (1176, [(1166, qa .iadd 1), (1167, qa .iaload 1), (1168, qa (.aload_n 0) 1), (1169, qa (.iload_n 3) 1), (1170, qk (.iconst 2) 1 (nI 2)), (1171, qa .iadd 1), (1172, qa .iaload 1), (1173, qc (.invokevirtual 127) 3 283 3 1 [5, 8, 12])]),
  (1192, [(1176, qj (.if_icmp .eq 64) 3 1240 []), (1179, qk (.iconst 0) 1 (nI 0)), (1180, qf .ireturn 1 0 0 1), (1181, qa (.aload_n 1) 1), (1182, qc (.invokevirtual 128) 3 287 1 1 [0, 1, 11]), (1185, qa (.aload_n 2) 1), (1186, qc (.invokevirtual 131) 3 289 1 1 [0, 1, 12]), (1189, qj (.if_icmp .eq 51) 3 1240 [])]),
  (1200, [(1192, qk (.iconst 0) 1 (nI 0)), (1193, qf .ireturn 1 0 0 1), (1194, qa (.aload_n 1) 1), (1195, qa (.aload_n 0) 1), (1196, qa (.iload_n 3) 1), (1197, qk (.iconst 1) 1 (nI 1)), (1198, qa .iadd 1), (1199, qa .iaload 1)]),
  (1212, [(1200, qc (.invokevirtual 132) 3 290 2 1 [0, 2, 11]), (1203, qa (.aload_n 2) 1), (1204, qa (.aload_n 0) 1), (1205, qa (.iload_n 3) 1), (1206, qk (.iconst 1) 1 (nI 1)), (1207, qa .iadd 1), (1208, qa .iaload 1), (1209, qc (.invokevirtual 135) 3 292 2 1 [0, 2, 12])]),
  (1222, [(1212, qj (.if_icmp .eq 28) 3 1240 []), (1215, qk (.iconst 0) 1 (nI 0)), (1216, qf .ireturn 1 0 0 1), (1217, qa (.aload_n 1) 1), (1218, qa (.aload_n 0) 1), (1219, qa (.iload_n 3) 1), (1220, qk (.iconst 1) 1 (nI 1)), (1221, qa .iadd 1)]),
  (1232, [(1222, qa .iaload 1), (1223, qc (.invokevirtual 136) 3 294 2 1 [0, 2, 11]), (1226, qa (.aload_n 2) 1), (1227, qa (.aload_n 0) 1), (1228, qa (.iload_n 3) 1), (1229, qk (.iconst 1) 1 (nI 1)), (1230, qa .iadd 1), (1231, qa .iaload 1)]),
  (1248, [(1232, qc (.invokevirtual 139) 3 295 2 1 [2, 4, 12]), (1235, qj (.if_icmp .eq 5) 3 1240 []), (1238, qk (.iconst 0) 1 (nI 0)), (1239, qf .ireturn 1 0 0 1), (1240, qk (.iinc 3 6) 3 (nI 6)), (1243, qj (.goto (-1225)) 3 18 []), (1246, qk (.iconst 1) 1 (nI 1)), (1247, qf .ireturn 1 0 0 1)])]
def tg_0 : List qz_B := [tb_0, tb_1, tb_2, tb_3, tb_4, tb_5, tb_6, tb_7, tb_8, tb_9, tb_10, tb_11, tb_12, tb_13, tb_14, tb_15]
def tg_1 : List qz_B := [tb_16, tb_17, tb_18, tb_19, tb_20, tb_21, tb_22, tb_23, tb_24, tb_25, tb_26, tb_27, tb_28, tb_29, tb_30, tb_31]
def tg_2 : List qz_B := [tb_32, tb_33, tb_34, tb_35, tb_36, tb_37, tb_38, tb_39, tb_40, tb_41, tb_42, tb_43, tb_44, tb_45, tb_46, tb_47]
def tg_3 : List qz_B := [tb_48, tb_49, tb_50, tb_51, tb_52, tb_53, tb_54, tb_55, tb_56, tb_57, tb_58, tb_59, tb_60, tb_61, tb_62, tb_63]
def tg_4 : List qz_B := [tb_64, tb_65, tb_66, tb_67, tb_68, tb_69, tb_70, tb_71, tb_72, tb_73, tb_74, tb_75, tb_76, tb_77, tb_78, tb_79]
def tg_5 : List qz_B := [tb_80, tb_81, tb_82, tb_83, tb_84, tb_85, tb_86, tb_87, tb_88, tb_89, tb_90, tb_91, tb_92, tb_93, tb_94, tb_95]
def tg_6 : List qz_B := [tb_96, tb_97, tb_98, tb_99, tb_100, tb_101, tb_102, tb_103, tb_104, tb_105, tb_106, tb_107, tb_108, tb_109, tb_110, tb_111]
def tg_7 : List qz_B := [tb_112, tb_113, tb_114, tb_115, tb_116, tb_117, tb_118, tb_119, tb_120, tb_121, tb_122, tb_123, tb_124, tb_125, tb_126, tb_127]
def tg_8 : List qz_B := [tb_128, tb_129, tb_130, tb_131, tb_132, tb_133, tb_134, tb_135, tb_136, tb_137, tb_138, tb_139, tb_140, tb_141, tb_142, tb_143]
def tg_9 : List qz_B := [tb_144, tb_145, tb_146, tb_147, tb_148, tb_149, tb_150, tb_151, tb_152, tb_153, tb_154, tb_155, tb_156, tb_157, tb_158, tb_159]
def tg_10 : List qz_B := [tb_160, tb_161, tb_162, tb_163, tb_164, tb_165, tb_166, tb_167, tb_168, tb_169, tb_170, tb_171, tb_172, tb_173, tb_174, tb_175]
def tg_11 : List qz_B := [tb_176, tb_177, tb_178, tb_179, tb_180, tb_181, tb_182, tb_183, tb_184, tb_185, tb_186, tb_187, tb_188, tb_189, tb_190, tb_191]
def tg_12 : List qz_B := [tb_192, tb_193, tb_194, tb_195, tb_196, tb_197, tb_198, tb_199, tb_200, tb_201, tb_202, tb_203, tb_204, tb_205, tb_206, tb_207]
def tg_13 : List qz_B := [tb_208, tb_209, tb_210, tb_211, tb_212, tb_213, tb_214, tb_215, tb_216, tb_217, tb_218, tb_219, tb_220, tb_221, tb_222, tb_223]
def tg_14 : List qz_B := [tb_224, tb_225, tb_226, tb_227, tb_228, tb_229, tb_230, tb_231, tb_232, tb_233, tb_234, tb_235, tb_236, tb_237, tb_238, tb_239]
def tg_15 : List qz_B := [tb_240, tb_241, tb_242, tb_243, tb_244, tb_245, tb_246, tb_247, tb_248, tb_249, tb_250, tb_251, tb_252, tb_253, tb_254, tb_255]
def tg_16 : List qz_B := [tb_256, tb_257, tb_258, tb_259, tb_260, tb_261, tb_262, tb_263, tb_264, tb_265, tb_266, tb_267, tb_268, tb_269, tb_270, tb_271]
def tg_17 : List qz_B := [tb_272, tb_273, tb_274, tb_275, tb_276, tb_277, tb_278, tb_279, tb_280, tb_281, tb_282, tb_283, tb_284, tb_285, tb_286, tb_287]
def tg_18 : List qz_B := [tb_288, tb_289, tb_290, tb_291, tb_292, tb_293, tb_294, tb_295, tb_296]
def tg_all : List (List qz_B) := [tg_0, tg_1, tg_2, tg_3, tg_4, tg_5, tg_6, tg_7, tg_8, tg_9, tg_10, tg_11, tg_12, tg_13, tg_14, tg_15, tg_16, tg_17, tg_18]
/-- the code of a method, by its number -/
def qz_cd (m : Nat) : qz_B := qz_gd [] (qz_gd [] tg_all (m / 16)) (m % 16)
noncomputable abbrev rn : qz_K := qz_run qz_cd
end
section
/-! WORLDS AND STATES: cell i of a world lies at z + i; the numbers from qz_old on are cells that were there before -/
abbrev qz_X : Type := va_G × (FieldType → ClassId) × (Nat → Nat) × Nat × Nat × (Nat → Int32)
def qz_ad (X : qz_X) (i : Nat) : Nat := if i < qz_old then X.2.2.2.1 + i else X.2.2.1 (i - qz_old)
def qz_v (X : qz_X) (v : Value) : Value := match v with
  | .ref i => .ref (qz_ad X i)
  | v => v
def qz_e (X : qz_X) (e : qz_E) : va_E := match e with
  | .inl (ty, n, .inr (.inr (.inr (.inr g)))) => .inl (X.2.1 ty, n, .inr (.inr (.inr (.inr (fun j => (g j).map (qz_ad X))))))
  | .inl (ty, a) => .inl (X.2.1 ty, a)
  | .inr (ci, fs) => .inr (ci, fs.map (qz_v X))
def qz_ws (X : qz_X) (w : qz_W) : va_W := (List.range w.2.1).map (fun i => (X.2.2.2.1 + i, qz_e X (w.1 i)))
def qz_A (X : qz_X) : Nat → Prop := fun q => X.2.2.2.1 ≤ q
def qz_tx : String := "plate row shape put turned hold worth to brush wear bridge straight broad corner told hidden north east south west "
def qz_by : List Int32 := [112, 108, 97, 116, 101, 32, 114, 111, 119, 32, 115, 104, 97, 112, 101, 32, 112, 117, 116, 32, 116, 117, 114, 110, 101, 100, 32, 104, 111, 108, 100, 32, 119, 111, 114, 116, 104, 32, 116, 111, 32, 98, 114, 117, 115, 104, 32, 119, 101, 97, 114, 32, 98, 114, 105, 100, 103, 101, 32, 115, 116, 114, 97, 105, 103, 104, 116, 32, 98, 114, 111, 97, 100, 32, 99, 111, 114, 110, 101, 114, 32, 116, 111, 108, 100, 32, 104, 105, 100, 100, 101, 110, 32, 110, 111, 114, 116, 104, 32, 101, 97, 115, 116, 32, 115, 111, 117, 116, 104, 32, 119, 101, 115, 116, 32]
def qz_sx : Nat → Int32 := fun j => ([0, 1, 0, -1] : List Int32).getD j 0
def qz_sy : Nat → Int32 := fun j => ([-1, 0, 1, 0] : List Int32).getD j 0
def qz_jk : qz_E := .inr (999, [])
def qz_oc (X : qz_X) (i : Nat) : qz_E := match i with
  | 0 => .inl (.float, X.2.2.2.2.1, .inl X.2.2.2.2.2)
  | 1 => .inl (.float, 4, .inl qz_sx)
  | 2 => .inl (.float, 4, .inl qz_sy)
  | 3 => .inr (13, [.int 0, .ref (qz_old + 4)])
  | 4 => .inl (.double, 115, .inl (fun j => qz_by.getD j 0))
  | _ => qz_jk
/-- a cell's own shape: an array's kind, an object's number of fields -/
def qz_ce (e : qz_E) : Prop := match e with
  | .inl (ty, _) => ty = .int ∨ ty = .long ∨ ty = .byte ∨ ty = .object "TinStencils$Sheet" ∨ ty = .object "TinStencils$Pile"
  | .inr (ci, fs) => fs.length = (qz_gd (cT_0, cY_0, 0) qz_ct ci).2.2
def qz_Wd (X : qz_X) (H : Heap) (w : qz_W) : Prop := va_P X.1 qz_cl (qz_ws X w) H ∧ w.2.1 ≤ qz_old ∧ (∀ i, w.2.1 ≤ i → i < qz_old → w.1 i = qz_jk) ∧ (∀ i, w.1 (qz_old + i) = qz_oc X i) ∧ ∀ i, i < w.2.1 → qz_ce (w.1 i)
def qz_tys (X : qz_X) : List (ClassId × FieldType) := [(X.2.1 .int, .int), (X.2.1 .long, .long), (X.2.1 .byte, .byte), (X.2.1 (.object "TinStencils$Sheet"), .object "TinStencils$Sheet"), (X.2.1 (.object "TinStencils$Pile"), .object "TinStencils$Pile")]
def qz_fh : List (Nat × Nat × String) := [(8, 126, "STEP_X"), (8, 129, "STEP_Y"), (9, 185, "STEP_X"), (9, 188, "STEP_Y")]
/-- what is known of a state's tables and of its old cells -/
def qz_St (X : qz_X) (s : State) : Prop :=
  va_K X.1 qz_cl (qz_tys X) s ∧ (∀ q ∈ qz_mh, va_Nw (.methodLinkNest (qz_gd "" qz_on q.1) q.2.1 (qz_in q.2.2).1.1 "TinStencils") s) ∧ (∀ q ∈ qz_fh, va_Nw (.fieldLinkNest (qz_gd "" qz_on q.1) q.2.1 "TinStencils" q.2.2 "[I" "TinStencils") s) ∧
  va_AO "TinStencils$Sheet" s ∧ va_AO "TinStencils$Pile" s ∧ vk_R "TinStencils$Tokens" 55 qz_tx (X.2.2.1 3) s ∧
  va_Z "TinStencils" "STEP_X" "[I" (.ref (X.2.2.1 1)) (qz_A X) s s.heap ∧ va_Z "TinStencils" "STEP_Y" "[I" (.ref (X.2.2.1 2)) (qz_A X) s s.heap ∧ va_Z "java/lang/String" "COMPACT_STRINGS" "Z" (.int 1) (qz_A X) s s.heap ∧
  va_T .int (X.2.2.1 0) X.2.2.2.2.1 (fun j => .int (X.2.2.2.2.2 j)) (qz_A X) s s.heap ∧ va_T .int (X.2.2.1 1) 4 (fun j => .int (qz_sx j)) (qz_A X) s s.heap ∧ va_T .int (X.2.2.1 2) 4 (fun j => .int (qz_sy j)) (qz_A X) s s.heap ∧
  va_O "java/lang/String" (X.2.2.1 3) (qz_A X) s s.heap ∧ va_OF "java/lang/String" "coder" "B" (.int 0) (X.2.2.1 3) (qz_A X) s s.heap ∧ va_OF "java/lang/String" "value" "[B" (.ref (X.2.2.1 4)) (X.2.2.1 3) (qz_A X) s s.heap ∧
  va_T .byte (X.2.2.1 4) 115 (fun j => .int (qz_by.getD j 0)) (qz_A X) s s.heap
theorem qz_St.to {X : qz_X} {s U : State} (hW : s.WarmedH U.vm) (hk : ∀ a : Nat, a < s.heap.size → ¬ qz_A X a → U.heap[a]? = s.heap[a]?) (h : qz_St X s) : qz_St X U := by
  obtain ⟨h1, h2, h3, h4, h5, h6, h7, h8, h9, h10, h11, h12, h13, h14, h15, h16⟩ := h
  have hv := hW.alike
  exact ⟨va_K.moved hv h1, fun q hq => va_Nw.warmM hW (h2 q hq), fun q hq => va_Nw.warmF hW (h3 q hq), va_AO.moved hv h4, va_AO.moved hv h5, vk_R.warm hW h6,
    (va_Z.moved hv h7).kept hk, (va_Z.moved hv h8).kept hk, (va_Z.moved hv h9).kept hk, (va_T.moved hv h10).kept hk, (va_T.moved hv h11).kept hk, (va_T.moved hv h12).kept hk,
    (va_O.moved hv h13).kept hk, (va_OF.moved hv h14).kept hk, (va_OF.moved hv h15).kept hk, (va_T.moved hv h16).kept hk⟩
theorem qz_ws_at {X : qz_X} {w : qz_W} {i : Nat} (h : i < w.2.1) : (qz_ws X w)[i]? = some (X.2.2.2.1 + i, qz_e X (w.1 i)) := by simp [qz_ws, h]
theorem qz_ws_inv {X : qz_X} {w : qz_W} {k : Nat} {q : Nat × va_E} (h : (qz_ws X w)[k]? = some q) : k < w.2.1 ∧ q = (X.2.2.2.1 + k, qz_e X (w.1 k)) := by
  have hl := (List.getElem?_eq_some_iff.mp h).1
  have hk : k < w.2.1 := by simpa [qz_ws] using hl
  rw [qz_ws_at hk] at h
  exact ⟨hk, (Option.some.inj h).symm⟩
theorem qz_ws_D {X : qz_X} {w : qz_W} : va_D (qz_A X) (qz_ws X w) := by
  refine ⟨fun i j p q hi hj e => ?_, fun k q hk => ?_⟩
  · obtain ⟨-, rfl⟩ := qz_ws_inv hi
    obtain ⟨-, rfl⟩ := qz_ws_inv hj
    have e : X.2.2.2.1 + i = X.2.2.2.1 + j := e
    omega
  · obtain ⟨-, rfl⟩ := qz_ws_inv hk
    exact Nat.le_add_right _ _
theorem qz_ws_len {X : qz_X} {w : qz_W} : (qz_ws X w).length = w.2.1 := by simp [qz_ws]
theorem qz_ws_set {X : qz_X} {w : qz_W} {o : Nat} {e : qz_E} (h : o < w.2.1) : qz_ws X (va_up w.1 o e, w.2) = (qz_ws X w).set o (X.2.2.2.1 + o, qz_e X e) := by
  apply List.ext_getElem?
  intro k
  by_cases hk : k < w.2.1
  · rw [qz_ws_at (w := (va_up w.1 o e, w.2)) hk]
    by_cases hko : k = o
    · subst hko
      rw [List.getElem?_set_self (by rw [qz_ws_len]; exact hk)]
      simp [va_up]
    · rw [List.getElem?_set_ne (Ne.symm hko), qz_ws_at hk]
      simp [va_up, hko]
  · rw [List.getElem?_eq_none (by rw [qz_ws_len]; exact Nat.not_lt.mp hk), List.getElem?_eq_none (by rw [List.length_set, qz_ws_len]; exact Nat.not_lt.mp hk)]
theorem qz_ws_push {X : qz_X} {w : qz_W} {e : qz_E} {k : Nat} : qz_ws X (qz_new w e k) = qz_ws X w ++ [(X.2.2.2.1 + w.2.1, qz_e X e)] := by
  apply List.ext_getElem?
  intro j
  by_cases hj : j < w.2.1
  · rw [qz_ws_at (w := qz_new w e k) (show j < w.2.1 + 1 by omega), List.getElem?_append_left (by rw [qz_ws_len]; exact hj), qz_ws_at hj]
    simp [qz_new, va_up, Nat.ne_of_lt hj]
  · by_cases hj2 : j = w.2.1
    · subst hj2
      rw [qz_ws_at (w := qz_new w e k) (show w.2.1 < w.2.1 + 1 by omega), List.getElem?_append_right (by rw [qz_ws_len]; exact Nat.le_refl _), qz_ws_len]
      simp [qz_new, va_up]
    · rw [List.getElem?_eq_none (by rw [qz_ws_len]; show w.2.1 + 1 ≤ j; omega), List.getElem?_eq_none (by rw [List.length_append, qz_ws_len]; show w.2.1 + 1 ≤ j; omega)]
/-- a cell that is neither junk nor old lies in the world -/
theorem qz_in_w {X : qz_X} {H : Heap} {w : qz_W} {o : Nat} (h : qz_Wd X H w) (h1 : w.1 o ≠ qz_jk) (h2 : ∀ i, w.1 o ≠ qz_oc X i) : o < w.2.1 := by
  rcases Nat.lt_or_ge o w.2.1 with q | q
  · exact q
  · rcases Nat.lt_or_ge o qz_old with r | r
    · exact absurd (h.2.2.1 o q r) h1
    · have e := h.2.2.2.1 (o - qz_old)
      rw [show qz_old + (o - qz_old) = o by omega] at e
      exact absurd e (h2 _)
theorem qz_ad_in {X : qz_X} {H : Heap} {w : qz_W} {o : Nat} (h : qz_Wd X H w) (ho : o < w.2.1) : qz_ad X o = X.2.2.2.1 + o := by
  unfold qz_ad
  rw [if_pos (Nat.lt_of_lt_of_le ho h.2.1)]
theorem qz_ad_old (X : qz_X) (i : Nat) : qz_ad X (qz_old + i) = X.2.2.1 i := by
  unfold qz_ad
  rw [if_neg (by omega), show qz_old + i - qz_old = i by omega]
theorem qz_oc_cases {X : qz_X} (P : qz_E → Prop) (h0 : P (.inl (.float, X.2.2.2.2.1, .inl X.2.2.2.2.2))) (h1 : P (.inl (.float, 4, .inl qz_sx))) (h2 : P (.inl (.float, 4, .inl qz_sy))) (h3 : P (.inr (13, [.int 0, .ref (qz_old + 4)]))) (h4 : P (.inl (.double, 115, .inl (fun j => qz_by.getD j 0)))) (h5 : P qz_jk) (i : Nat) : P (qz_oc X i) := by
  unfold qz_oc
  split
  · exact h0
  · exact h1
  · exact h2
  · exact h3
  · exact h4
  · exact h5
/-- the world behind a write into one of its cells -/
theorem qz_Wd.up {X : qz_X} {H H1 : Heap} {w : qz_W} {o : Nat} {e : qz_E} (h : qz_Wd X H w) (ho : o < w.2.1) (hc : qz_ce e) (hP : va_P X.1 qz_cl ((qz_ws X w).set o (X.2.2.2.1 + o, qz_e X e)) H1) : qz_Wd X H1 (va_up w.1 o e, w.2) := by
  refine ⟨by rw [qz_ws_set ho]; exact hP, h.2.1, fun i hi hj => ?_, fun i => ?_, fun i hi => ?_⟩
  · show va_up w.1 o e i = qz_jk
    unfold va_up
    rw [if_neg (by have : w.2.1 ≤ i := hi; omega)]
    exact h.2.2.1 i hi hj
  · show va_up w.1 o e (qz_old + i) = _
    unfold va_up
    rw [if_neg (by have := h.2.1; omega)]
    exact h.2.2.2.1 i
  · show qz_ce (va_up w.1 o e i)
    unfold va_up
    by_cases hio : i = o
    · rw [if_pos hio]; exact hc
    · rw [if_neg hio]; exact h.2.2.2.2 i hi
/-- the locals that are known -/
def qz_pl (X : qz_X) : Nat → qz_L → List (Nat × Value)
  | _, [] => []
  | i, none :: L => qz_pl X (i + 1) L
  | i, some v :: L => (i, qz_v X v) :: qz_pl X (i + 1) L
theorem qz_pl_mem {X : qz_X} : ∀ (L : qz_L) (i j : Nat) (u : Value), (j, u) ∈ qz_pl X i L ↔ ∃ (k : Nat) (v : Value), j = i + k ∧ qz_at L k = some (some v) ∧ u = qz_v X v
  | [], i, j, u => by
    constructor
    · intro h; cases h
    · rintro ⟨k, v, -, h, -⟩; simp [qz_at] at h
  | none :: L, i, j, u => by
    rw [show qz_pl X i (none :: L) = qz_pl X (i + 1) L from rfl, qz_pl_mem L]
    constructor
    · rintro ⟨k, v, h1, h2, h3⟩; exact ⟨k + 1, v, by omega, h2, h3⟩
    · rintro ⟨k, v, h1, h2, h3⟩
      cases k with
      | zero => simp [qz_at] at h2
      | succ k => exact ⟨k, v, by omega, h2, h3⟩
  | some x :: L, i, j, u => by
    rw [show qz_pl X i (some x :: L) = (i, qz_v X x) :: qz_pl X (i + 1) L from rfl, List.mem_cons, qz_pl_mem L]
    constructor
    · rintro (h | ⟨k, v, h1, h2, h3⟩)
      · cases h; exact ⟨0, x, rfl, rfl, rfl⟩
      · exact ⟨k + 1, v, by omega, h2, h3⟩
    · rintro ⟨k, v, h1, h2, h3⟩
      cases k with
      | zero =>
        simp only [qz_at, Option.some.injEq] at h2
        subst h2
        exact Or.inl (by rw [h1, h3]; rfl)
      | succ k => exact Or.inr ⟨k, v, by omega, h2, h3⟩
theorem qz_has_mono {ls : Array Slot} {n : Nat} {l l' : List (Nat × Value)} (h : lv_has ls n l) (hs : ∀ q ∈ l', q ∈ l) : lv_has ls n l' := ⟨h.1, h.2.1, fun q hq => h.2.2 q (hs q hq)⟩
theorem qz_at_m : ∀ (mn : List Bool) (L : qz_L) (k : Nat) (v : Value), qz_at (qz_m mn L) k = some (some v) → qz_at L k = some (some v)
  | [], L, k, v, h => h
  | _ :: _, [], k, v, h => by simp [qz_m, qz_at] at h
  | b :: bs, x :: L, 0, v, h => by
    cases b
    · simp [qz_m, qz_at] at h
    · simpa [qz_m, qz_at] using h
  | b :: bs, x :: L, k + 1, v, h => qz_at_m bs L k v h
theorem qz_has_m {X : qz_X} {ls : Array Slot} {n : Nat} {L : qz_L} (mn : List Bool) (h : lv_has ls n (qz_pl X 0 L)) : lv_has ls n (qz_pl X 0 (qz_m mn L)) := by
  refine qz_has_mono h fun q hq => ?_
  obtain ⟨j, u⟩ := q
  obtain ⟨k, v, h1, h2, h3⟩ := (qz_pl_mem _ _ _ _).mp hq
  exact (qz_pl_mem _ _ _ _).mpr ⟨k, v, h1, qz_at_m mn L k v h2, h3⟩
theorem qz_k1_some {x : Option Value} {u : Value} (h : qz_k1 x = some u) : x = some u ∧ ¬ u.category = 2 := by
  unfold qz_k1 at h
  split at h
  · cases h
  · cases h
  · next h1 h2 =>
    refine ⟨h, fun hc => ?_⟩
    subst h
    cases u <;> simp [Value.category] at hc
    · exact h1 _ rfl
    · exact h2 _ rfl
theorem qz_at_s1 : ∀ (L : qz_L) (i : Nat) (v : Value) (k : Nat) (u : Value), qz_at (qz_s1 L i v) k = some (some u) → (k = i ∧ u = v) ∨ (k ≠ i ∧ qz_at L k = some (some u) ∧ ¬ (k + 1 = i ∧ u.category = 2))
  | [], i, v, k, u, h => by simp [qz_s1, qz_at] at h
  | x :: L, 0, v, 0, u, h => by
    simp only [qz_s1, qz_at, Option.some.injEq] at h
    exact Or.inl ⟨rfl, h.symm⟩
  | x :: L, 0, v, k + 1, u, h => Or.inr ⟨by omega, h, by omega⟩
  | x :: L, 1, v, 0, u, h => by
    simp only [qz_s1, qz_at, Option.some.injEq] at h
    obtain ⟨h1, h2⟩ := qz_k1_some h
    subst h1
    exact Or.inr ⟨by omega, rfl, fun q => h2 q.2⟩
  | x :: L, 1, v, k + 1, u, h => by
    rcases qz_at_s1 L 0 v k u h with ⟨h1, h2⟩ | ⟨h1, h2, h3⟩
    · exact Or.inl ⟨by omega, h2⟩
    · exact Or.inr ⟨by omega, h2, by omega⟩
  | x :: L, i + 2, v, 0, u, h => Or.inr ⟨by omega, h, by omega⟩
  | x :: L, i + 2, v, k + 1, u, h => by
    rcases qz_at_s1 L (i + 1) v k u h with ⟨h1, h2⟩ | ⟨h1, h2, h3⟩
    · exact Or.inl ⟨by omega, h2⟩
    · exact Or.inr ⟨by omega, h2, fun q => h3 ⟨by omega, q.2⟩⟩
theorem qz_at_s2 : ∀ (L : qz_L) (i : Nat) (v : Value) (k : Nat) (u : Value), qz_at (qz_s2 L i v) k = some (some u) → (k = i ∧ u = v) ∨ (k ≠ i ∧ k ≠ i + 1 ∧ qz_at L k = some (some u) ∧ ¬ (k + 1 = i ∧ u.category = 2))
  | [], i, v, k, u, h => by simp [qz_s2, qz_at] at h
  | x :: L, 0, v, 0, u, h => by
    simp only [qz_s2, qz_at, Option.some.injEq] at h
    exact Or.inl ⟨rfl, h.symm⟩
  | [x], 0, v, k + 1, u, h => by simp [qz_s2, qz_at] at h
  | x :: y :: L, 0, v, 1, u, h => by simp [qz_s2, qz_at] at h
  | x :: y :: L, 0, v, k + 2, u, h => Or.inr ⟨by omega, by omega, h, by omega⟩
  | x :: L, 1, v, 0, u, h => by
    simp only [qz_s2, qz_at, Option.some.injEq] at h
    obtain ⟨h1, h2⟩ := qz_k1_some h
    subst h1
    exact Or.inr ⟨by omega, by omega, rfl, fun q => h2 q.2⟩
  | x :: L, 1, v, k + 1, u, h => by
    rcases qz_at_s2 L 0 v k u h with ⟨h1, h2⟩ | ⟨h1, h0, h2, h3⟩
    · exact Or.inl ⟨by omega, h2⟩
    · exact Or.inr ⟨by omega, by omega, h2, by omega⟩
  | x :: L, i + 2, v, 0, u, h => Or.inr ⟨by omega, by omega, h, by omega⟩
  | x :: L, i + 2, v, k + 1, u, h => by
    rcases qz_at_s2 L (i + 1) v k u h with ⟨h1, h2⟩ | ⟨h1, h0, h2, h3⟩
    · exact Or.inl ⟨by omega, h2⟩
    · exact Or.inr ⟨by omega, by omega, h2, fun q => h3 ⟨by omega, q.2⟩⟩
theorem qz_v_cat (X : qz_X) (v : Value) : (qz_v X v).category = v.category := by cases v <;> rfl
theorem qz_has_s1 {X : qz_X} {ls : Array Slot} {n i : Nat} {L : qz_L} {v : Value} (h : lv_has ls n ((i, qz_v X v) :: (qz_pl X 0 L).filter (fun q => !(q.1 == i) && !(q.1 + 1 == i && q.2.category == 2)))) : lv_has ls n (qz_pl X 0 (qz_s1 L i v)) := by
  refine qz_has_mono h fun q hq => ?_
  obtain ⟨j, u⟩ := q
  obtain ⟨k, x, h1, h2, h3⟩ := (qz_pl_mem _ _ _ _).mp hq
  rcases qz_at_s1 L i v k x h2 with ⟨g1, g2⟩ | ⟨g1, g2, g3⟩
  · subst g1; subst g2
    rw [h1, h3, Nat.zero_add]
    exact List.mem_cons_self
  · refine List.mem_cons_of_mem _ (List.mem_filter.mpr ⟨(qz_pl_mem _ _ _ _).mpr ⟨k, x, h1, g2, h3⟩, ?_⟩)
    have hj : j = k := by omega
    subst hj
    subst h3
    simp only [Bool.and_eq_true, Bool.not_eq_true', beq_eq_false_iff_ne, ne_eq, Bool.and_eq_false_imp, beq_iff_eq, qz_v_cat]
    exact ⟨g1, fun a b => g3 ⟨a, b⟩⟩
theorem qz_has_s2 {X : qz_X} {ls : Array Slot} {n i : Nat} {L : qz_L} {v : Value} (h : lv_has ls n ((i, qz_v X v) :: (qz_pl X 0 L).filter (fun q => !(q.1 == i) && (!(q.1 == i + 1) && !(q.1 + 1 == i && q.2.category == 2))))) : lv_has ls n (qz_pl X 0 (qz_s2 L i v)) := by
  refine qz_has_mono h fun q hq => ?_
  obtain ⟨j, u⟩ := q
  obtain ⟨k, x, h1, h2, h3⟩ := (qz_pl_mem _ _ _ _).mp hq
  rcases qz_at_s2 L i v k x h2 with ⟨g1, g2⟩ | ⟨g1, g0, g2, g3⟩
  · subst g1; subst g2
    rw [h1, h3, Nat.zero_add]
    exact List.mem_cons_self
  · refine List.mem_cons_of_mem _ (List.mem_filter.mpr ⟨(qz_pl_mem _ _ _ _).mpr ⟨k, x, h1, g2, h3⟩, ?_⟩)
    have hj : j = k := by omega
    subst hj
    subst h3
    simp only [Bool.and_eq_true, Bool.not_eq_true', beq_eq_false_iff_ne, ne_eq, Bool.and_eq_false_imp, beq_iff_eq, qz_v_cat]
    exact ⟨g1, g0, fun a b => g3 ⟨a, b⟩⟩
theorem qz_at_has {X : qz_X} {ls : Array Slot} {n i : Nat} {L : qz_L} {v : Value} (h : lv_has ls n (qz_pl X 0 L)) (hv : qz_at L i = some (some v)) : ls[i]? = some (.val (qz_v X v)) := h.2.2 (i, qz_v X v) ((qz_pl_mem _ _ _ _).mpr ⟨i, v, by omega, hv, rfl⟩)
theorem qz_at_mem {α : Type} : ∀ (l : List α) (i : Nat) (x : α), qz_at l i = some x → l[i]? = some x
  | [], _, _, h => by cases h
  | _ :: _, 0, _, h => h
  | _ :: l, i + 1, x, h => qz_at_mem l i x h
/-- a table's row is one of its list's -/
theorem qz_lb_mem : ∀ (b : List (Nat × qz_I)) (pc : Nat) (e : qz_I), qz_lb b pc = some e → (pc, e) ∈ b
  | [], _, _, h => by cases h
  | q :: r, pc, e, h => by
    unfold qz_lb at h
    cases hq : Nat.beq pc q.1 with
    | true =>
      rw [hq] at h
      have h1 := Nat.eq_of_beq_eq_true hq
      obtain ⟨x, y⟩ := q
      cases h
      subst h1
      exact List.mem_cons_self
    | false =>
      rw [hq] at h
      exact List.mem_cons_of_mem _ (qz_lb_mem r pc e h)
theorem qz_lk_mem : ∀ (b : qz_B) (pc : Nat) (e : qz_I), qz_lk b pc = some e → ∃ q ∈ b, (pc, e) ∈ q.2
  | [], _, _, h => by cases h
  | q :: r, pc, e, h => by
    unfold qz_lk at h
    cases hq : Nat.ble q.1 pc with
    | true =>
      rw [hq] at h
      obtain ⟨x, h1, h2⟩ := qz_lk_mem r pc e h
      exact ⟨x, List.mem_cons_of_mem _ h1, h2⟩
    | false =>
      rw [hq] at h
      exact ⟨q, List.mem_cons_self, qz_lb_mem _ _ _ h⟩
/-- W, with the size of its heap in hand -/
theorem qz_size {p : Program} {l : Launch} {e : Env} {R : Room} {s : State} {m : MethodId} {args : Array Value} {below : List Frame} {meth : Method} {c : Code} {H : Heap} {locs : List Loc} {cells slots : Nat} {Q : State → Prop} {g : JFrame} (k : H.size ≤ s.heap.size + cells → W p l e R s m args below meth c H locs cells slots Q g) : W p l e R s m args below meth c H locs cells slots Q g := fun T hT X => k (by rw [← hT]; exact X.same.2.2.1) T hT X
end
section
/-! what an end of a piece says of its beginning -/
theorem qz_li_i {L : qz_L} {j : Nat} {f : Int32 → Option qz_R} {r : qz_R} (h : qz_li L j f = some r) : ∃ x, qz_at L j = some (some (.int x)) ∧ f x = some r := by
  unfold qz_li at h
  split at h
  · next x hx => exact ⟨x, hx, h⟩
  · cases h
theorem qz_ll_i {L : qz_L} {j : Nat} {f : Int64 → Option qz_R} {r : qz_R} (h : qz_ll L j f = some r) : ∃ x, qz_at L j = some (some (.long x)) ∧ f x = some r := by
  unfold qz_ll at h
  split at h
  · next x hx => exact ⟨x, hx, h⟩
  · cases h
theorem qz_la_i {L : qz_L} {j : Nat} {f : Value → Option qz_R} {r : qz_R} (h : qz_la L j f = some r) : ∃ x, qz_at L j = some (some x) ∧ (x = .null ∨ ∃ o, x = .ref o) ∧ f x = some r := by
  unfold qz_la at h
  split at h
  · next o hx => exact ⟨_, hx, Or.inr ⟨o, rfl⟩, h⟩
  · next hx => exact ⟨_, hx, Or.inl rfl, h⟩
  · cases h
theorem qz_p1_i {st : List Value} {f : Int32 → List Value → Option qz_R} {r : qz_R} (h : qz_p1 st f = some r) : ∃ x t, st = .int x :: t ∧ f x t = some r := by
  unfold qz_p1 at h
  split at h
  · next x t => exact ⟨x, t, rfl, h⟩
  · cases h
theorem qz_p2_i {st : List Value} {f : Int32 → Int32 → List Value → Option qz_R} {r : qz_R} (h : qz_p2 st f = some r) : ∃ x y t, st = .int y :: .int x :: t ∧ f x y t = some r := by
  unfold qz_p2 at h
  split at h
  · next y x t => exact ⟨x, y, t, rfl, h⟩
  · cases h
theorem qz_q1_i {st : List Value} {f : Int64 → List Value → Option qz_R} {r : qz_R} (h : qz_q1 st f = some r) : ∃ x t, st = .long x :: t ∧ f x t = some r := by
  unfold qz_q1 at h
  split at h
  · next x t => exact ⟨x, t, rfl, h⟩
  · cases h
theorem qz_q2_i {st : List Value} {f : Int64 → Int64 → List Value → Option qz_R} {r : qz_R} (h : qz_q2 st f = some r) : ∃ x y t, st = .long y :: .long x :: t ∧ f x y t = some r := by
  unfold qz_q2 at h
  split at h
  · next y x t => exact ⟨x, y, t, rfl, h⟩
  · cases h
theorem qz_pa_i {st : List Value} {f : Value → List Value → Option qz_R} {r : qz_R} (h : qz_pa st f = some r) : ∃ x t, st = x :: t ∧ (x = .null ∨ ∃ o, x = .ref o) ∧ f x t = some r := by
  unfold qz_pa at h
  split at h
  · next o t => exact ⟨_, t, rfl, Or.inr ⟨o, rfl⟩, h⟩
  · next t => exact ⟨_, t, rfl, Or.inl rfl, h⟩
  · cases h
theorem qz_pr_i {st : List Value} {f : Nat → List Value → Option qz_R} {r : qz_R} (h : qz_pr st f = some r) : ∃ o t, st = .ref o :: t ∧ f o t = some r := by
  unfold qz_pr at h
  split at h
  · next o t => exact ⟨o, t, rfl, h⟩
  · cases h
theorem qz_cd_i {b : Bool} {f : Option qz_R} {r : qz_R} (h : cond b f none = some r) : b = true ∧ f = some r := by
  cases b
  · cases h
  · exact ⟨rfl, h⟩
theorem qz_gi_i {w : qz_H} {o ci k : Nat} {f : Int32 → Option qz_R} {r : qz_R} (h : qz_gi w o ci k f = some r) : ∃ fs x, w o = .inr (ci, fs) ∧ fs[k]? = some (.int x) ∧ f x = some r := by
  unfold qz_gi at h
  split at h
  · next cj fs hw =>
    obtain ⟨h1, h2⟩ := qz_cd_i h
    have e := Nat.eq_of_beq_eq_true h1
    subst e
    split at h2
    · next x hx => exact ⟨fs, x, hw, qz_at_mem _ _ _ hx, h2⟩
    · cases h2
  · cases h
theorem qz_ga_i {w : qz_H} {o ci k : Nat} {f : Nat → Option qz_R} {r : qz_R} (h : qz_ga w o ci k f = some r) : ∃ fs x, w o = .inr (ci, fs) ∧ fs[k]? = some (.ref x) ∧ f x = some r := by
  unfold qz_ga at h
  split at h
  · next cj fs hw =>
    obtain ⟨h1, h2⟩ := qz_cd_i h
    have e := Nat.eq_of_beq_eq_true h1
    subst e
    split at h2
    · next x hx => exact ⟨fs, x, hw, qz_at_mem _ _ _ hx, h2⟩
    · cases h2
  · cases h
theorem qz_pf_i {w : qz_W} {o ci k : Nat} {v : Value} {f : qz_W → Option qz_R} {r : qz_R} (h : qz_pf w o ci k v f = some r) : ∃ fs, w.1 o = .inr (ci, fs) ∧ f (va_up w.1 o (.inr (ci, fs.set k v)), w.2) = some r := by
  unfold qz_pf at h
  split at h
  · next cj fs hw =>
    obtain ⟨h1, h2⟩ := qz_cd_i h
    have e := Nat.eq_of_beq_eq_true h1
    subst e
    exact ⟨fs, hw, h2⟩
  · cases h
theorem qz_ck_i {w : qz_H} {o ci : Nat} {f : Option qz_R} {r : qz_R} (h : qz_ck w o ci f = some r) : ∃ fs, w o = .inr (ci, fs) ∧ f = some r := by
  unfold qz_ck at h
  split at h
  · next cj fs hw =>
    obtain ⟨h1, h2⟩ := qz_cd_i h
    have e := Nat.eq_of_beq_eq_true h1
    subst e
    exact ⟨fs, hw, h2⟩
  · cases h
theorem qz_if_i {p : Prop} [Decidable p] {f : Option qz_R} {r : qz_R} (h : (if p then none else f) = some r) : ¬ p ∧ f = some r := by
  by_cases hp : p
  · rw [if_pos hp] at h; cases h
  · rw [if_neg hp] at h; exact ⟨hp, h⟩
theorem qz_ia_i {w : qz_H} {o : Nat} {j : Int32} {f : Int32 → Option qz_R} {r : qz_R} (h : qz_ia w o j f = some r) : ∃ n g, (w o = .inl (.int, n, .inl g) ∨ w o = .inl (.float, n, .inl g)) ∧ vp_in j n ∧ f (g j.toNatClampNeg) = some r := by
  unfold qz_ia at h
  split at h
  · next n g hw => exact ⟨n, g, Or.inl hw, qz_if_i h⟩
  · next n g hw => exact ⟨n, g, Or.inr hw, qz_if_i h⟩
  · cases h
theorem qz_ba_i {w : qz_H} {o : Nat} {j : Int32} {f : Int32 → Option qz_R} {r : qz_R} (h : qz_ba w o j f = some r) : ∃ n g, (w o = .inl (.byte, n, .inl g) ∨ w o = .inl (.double, n, .inl g)) ∧ vp_in j n ∧ f (g j.toNatClampNeg) = some r := by
  unfold qz_ba at h
  split at h
  · next n g hw => exact ⟨n, g, Or.inl hw, qz_if_i h⟩
  · next n g hw => exact ⟨n, g, Or.inr hw, qz_if_i h⟩
  · cases h
theorem qz_ja_i {w : qz_H} {o : Nat} {j : Int32} {f : Int64 → Option qz_R} {r : qz_R} (h : qz_ja w o j f = some r) : ∃ n g, w o = .inl (.long, n, .inr (.inl g)) ∧ vp_in j n ∧ f (g j.toNatClampNeg) = some r := by
  unfold qz_ja at h
  split at h
  · next n g hw => exact ⟨n, g, hw, qz_if_i h⟩
  · cases h
theorem qz_aa_i {w : qz_H} {o : Nat} {j : Int32} {f : Nat → Option qz_R} {r : qz_R} (h : qz_aa w o j f = some r) : ∃ C n g q, w o = .inl (.object C, n, .inr (.inr (.inr (.inr g)))) ∧ vp_in j n ∧ g j.toNatClampNeg = some q ∧ f q = some r := by
  unfold qz_aa at h
  split at h
  · next C n g hw =>
    obtain ⟨h1, h2⟩ := qz_if_i h
    split at h2
    · next q hq => exact ⟨C, n, g, q, hw, h1, hq, h2⟩
    · cases h2
  · cases h
theorem qz_is_i {w : qz_W} {o : Nat} {j x : Int32} {f : qz_W → Option qz_R} {r : qz_R} (h : qz_is w o j x f = some r) : ∃ n g, w.1 o = .inl (.int, n, .inl g) ∧ vp_in j n ∧ f (va_up w.1 o (.inl (.int, n, .inl (upd g j.toNatClampNeg x))), w.2) = some r := by
  unfold qz_is at h
  split at h
  · next n g hw => exact ⟨n, g, hw, qz_if_i h⟩
  · cases h
theorem qz_bs_i {w : qz_W} {o : Nat} {j x : Int32} {f : qz_W → Option qz_R} {r : qz_R} (h : qz_bs w o j x f = some r) : ∃ n g, w.1 o = .inl (.byte, n, .inl g) ∧ vp_in j n ∧ f (va_up w.1 o (.inl (.byte, n, .inl (upd g j.toNatClampNeg (vp_nar .byte x)))), w.2) = some r := by
  unfold qz_bs at h
  split at h
  · next n g hw => exact ⟨n, g, hw, qz_if_i h⟩
  · cases h
theorem qz_js_i {w : qz_W} {o : Nat} {j : Int32} {x : Int64} {f : qz_W → Option qz_R} {r : qz_R} (h : qz_js w o j x f = some r) : ∃ n g, w.1 o = .inl (.long, n, .inr (.inl g)) ∧ vp_in j n ∧ f (va_up w.1 o (.inl (.long, n, .inr (.inl (vp_updL g j.toNatClampNeg x)))), w.2) = some r := by
  unfold qz_js at h
  split at h
  · next n g hw => exact ⟨n, g, hw, qz_if_i h⟩
  · cases h
theorem qz_as_i {w : qz_W} {o : Nat} {j : Int32} {v : Nat} {f : qz_W → Option qz_R} {r : qz_R} (h : qz_as w o j v f = some r) : ∃ C n g ci vs, w.1 o = .inl (.object C, n, .inr (.inr (.inr (.inr g)))) ∧ vp_in j n ∧ w.1 v = .inr (ci, vs) ∧ qz_at qz_cn ci = some C ∧ f (va_up w.1 o (.inl (.object C, n, .inr (.inr (.inr (.inr (va_up g j.toNatClampNeg (some v))))))), w.2) = some r := by
  unfold qz_as at h
  split at h
  · next C n g hw =>
    obtain ⟨h1, h2⟩ := qz_if_i h
    split at h2
    · next ci vs hv =>
      by_cases hc : qz_at qz_cn ci = some C
      · rw [if_pos hc] at h2
        exact ⟨C, n, g, ci, vs, hw, h1, hv, hc, h2⟩
      · rw [if_neg hc] at h2; cases h2
    · cases h2
  · cases h
theorem qz_len_i {w : qz_H} {o : Nat} {f : Int32 → Option qz_R} {r : qz_R} (h : qz_len w o f = some r) : ∃ ty n x, w o = .inl (ty, n, x) ∧ f (nI n) = some r := by
  unfold qz_len at h
  split at h
  · next ty n x hw => exact ⟨ty, n, x, hw, h⟩
  · cases h
theorem qz_cp_i {w : qz_W} {o q : Nat} {sp dp n : Int32} {f : qz_W → Option qz_R} {r : qz_R} (h : qz_cp w o q sp dp n f = some r) : ∃ n0 g n1 g1, w.1 o = .inl (.int, n0, .inl g) ∧ w.1 q = .inl (.int, n1, .inl g1) ∧ (¬ sp < 0 ∧ ¬ dp < 0 ∧ ¬ n < 0 ∧ sp.toNatClampNeg + n.toNatClampNeg ≤ n0 ∧ dp.toNatClampNeg + n.toNatClampNeg ≤ n1) ∧ f (va_up w.1 q (.inl (.int, n1, .inl (va_cpy g g1 sp.toNatClampNeg dp.toNatClampNeg n.toNatClampNeg))), w.2) = some r := by
  unfold qz_cp at h
  split at h
  · next n0 g hw =>
    split at h
    · next n1 g1 hw1 =>
      obtain ⟨h1, h2⟩ := qz_if_i h
      exact ⟨n0, g, n1, g1, hw, hw1, ⟨fun a => h1 (Or.inl a), fun a => h1 (Or.inr (Or.inl a)), fun a => h1 (Or.inr (Or.inr (Or.inl a))), Nat.not_lt.mp fun a => h1 (Or.inr (Or.inr (Or.inr (Or.inl a)))), Nat.not_lt.mp fun a => h1 (Or.inr (Or.inr (Or.inr (Or.inr a))))⟩, h2⟩
    · cases h
  · cases h
theorem qz_sp_i : ∀ (b : Nat) (st as : List Value) {f : List Value → List Value → Option qz_R} {r : qz_R}, qz_sp b st as f = some r → ∃ xs t, st = xs.reverse ++ t ∧ xs.length = b ∧ f (xs ++ as) t = some r
  | 0, st, as, f, r, h => ⟨[], st, rfl, rfl, h⟩
  | b + 1, [], as, f, r, h => by cases h
  | b + 1, v :: st, as, f, r, h => by
    obtain ⟨xs, t, h1, h2, h3⟩ := qz_sp_i b st (v :: as) h
    exact ⟨xs ++ [v], t, by simp [h1], by simp [h2], by simpa using h3⟩
/-- a call's end: what it gave, and that what follows went on with it -/
theorem qz_rt_i {c : Nat} {o : Option qz_R} {r : List Value} {f : List Value → qz_W → Option qz_R} {z : qz_R} (h : qz_rt c o r f = some z) : ∃ v w, o = some (v, w) ∧ f (v.toList ++ r) w = some z := by
  unfold qz_rt at h
  split at h
  · unfold qz_r0 at h
    split at h
    · next w => exact ⟨none, w, rfl, h⟩
    · cases h
  · unfold qz_r1 at h
    split at h
    · next x w => exact ⟨some (.int x), w, rfl, h⟩
    · cases h
  · unfold qz_r2 at h
    split at h
    · next x w => exact ⟨some (.long x), w, rfl, h⟩
    · cases h
  · unfold qz_r3 at h
    split at h
    · next w => exact ⟨some .null, w, rfl, h⟩
    · next q w => exact ⟨some (.ref q), w, rfl, h⟩
    · cases h
theorem qz_iv_i {go : qz_K} {a b c pad mx : Nat} {ck : Option Nat} {st : List Value} {w : qz_W} {f : List Value → qz_W → Option qz_R} {z : qz_R} (h : qz_iv go a b c pad mx ck st w f = some z) : ∃ xs t v w1, st = xs.reverse ++ t ∧ xs.length = b ∧ qz_cat t ≤ 8 ∧ qz_cat xs + pad ≤ mx ∧ (∀ ci, ck = some ci → ∃ o ys fs, xs = .ref o :: ys ∧ w.1 o = .inr (ci, fs)) ∧ go a 0 (qz_sl xs pad) [] w = some (v, w1) ∧ f (v.toList ++ t) w1 = some z := by
  unfold qz_iv at h
  obtain ⟨xs, t, h1, h2, h3⟩ := qz_sp_i b st [] h
  obtain ⟨h4, h5⟩ := qz_cd_i h3
  rw [List.append_nil] at h4 h5
  rw [Bool.and_eq_true] at h4
  refine ⟨xs, t, ?_⟩
  cases ck with
  | none =>
    obtain ⟨v, w1, e1, e2⟩ := qz_rt_i h5
    exact ⟨v, w1, h1, h2, Nat.le_of_ble_eq_true h4.1, Nat.le_of_ble_eq_true h4.2, fun ci e => (by cases e), e1, e2⟩
  | some ci =>
    dsimp only at h5
    split at h5
    · next o ys =>
      obtain ⟨fs, g1, g2⟩ := qz_ck_i h5
      obtain ⟨v, w1, e1, e2⟩ := qz_rt_i g2
      exact ⟨v, w1, h1, h2, Nat.le_of_ble_eq_true h4.1, Nat.le_of_ble_eq_true h4.2, fun cj e => (by cases e; exact ⟨o, ys, fs, rfl, g1⟩), e1, e2⟩
    · cases h5
/-- cells and slots only grow -/
def qz_gr (w : qz_W) (o : Option qz_R) : Prop := ∀ r, o = some r → w.2.1 ≤ r.2.2.1 ∧ w.2.2 ≤ r.2.2.2
theorem qz_gr.no {w : qz_W} : qz_gr w none := fun _ h => by cases h
theorem qz_gr.ite {w : qz_W} {p : Prop} [Decidable p] {f g : Option qz_R} (hf : qz_gr w f) (hg : qz_gr w g) : qz_gr w (if p then f else g) := by
  by_cases h : p
  · rw [if_pos h]; exact hf
  · rw [if_neg h]; exact hg
theorem qz_gr.cd {w : qz_W} {b : Bool} {f g : Option qz_R} (hf : qz_gr w f) (hg : qz_gr w g) : qz_gr w (cond b f g) := by
  cases b
  · exact hg
  · exact hf
theorem qz_gr.mk {w w1 : qz_W} {o : Option qz_R} (h1 : w.2.1 ≤ w1.2.1) (h2 : w.2.2 ≤ w1.2.2) (h : qz_gr w1 o) : qz_gr w o := fun r e => ⟨Nat.le_trans h1 (h r e).1, Nat.le_trans h2 (h r e).2⟩
theorem qz_gr.sw {w : qz_W} {x : Int32} {d : Nat} {k : Nat → Option qz_R} (hk : ∀ t, qz_gr w (k t)) : ∀ (ts : List Nat) (j : Nat), qz_gr w (qz_sw x k d j ts)
  | [], j => hk d
  | t :: ts, j => qz_gr.ite (hk t) (qz_gr.sw hk ts (j + 1))
theorem qz_gr.iv {go : qz_K} {a b c pad mx : Nat} {ck : Option Nat} {st : List Value} {w : qz_W} {f : List Value → qz_W → Option qz_R} (hg : ∀ m pc L st w, qz_gr w (go m pc L st w)) (hf : ∀ st w, qz_gr w (f st w)) : qz_gr w (qz_iv go a b c pad mx ck st w f) := by
  intro r h
  obtain ⟨xs, t, v, w1, -, -, -, -, -, h1, h2⟩ := qz_iv_i h
  have a1 := hg _ _ _ _ _ _ h1
  have a2 := hf _ _ _ h2
  exact ⟨Nat.le_trans a1.1 a2.1, Nat.le_trans a1.2 a2.2⟩
set_option maxHeartbeats 4000000 in
theorem qz_gr.G (P : Nat → qz_B) (go : qz_K) (hg : ∀ m pc L st w, qz_gr w (go m pc L st w)) (m pc : Nat) (L : qz_L) (st : List Value) (w : qz_W) : qz_gr w (qz_G P go m pc L st w) := by
  unfold qz_G
  cases qz_lk (P m) pc with
  | none => exact qz_gr.no
  | some e =>
    obtain ⟨⟨i, n⟩, ⟨a, b, c⟩, ⟨k, kl⟩, ⟨mn, mt⟩, tl⟩ := e
    cases i
    case tableswitch =>
      dsimp only
      unfold qz_p1
      split
      · exact qz_gr.sw (fun t => hg _ _ _ _ _) _ _
      · exact qz_gr.no
    all_goals
      dsimp only
      (try simp only [qz_li, qz_ll, qz_la, qz_p1, qz_p2, qz_q1, qz_q2, qz_pa, qz_pr, qz_gi, qz_ga, qz_pf, qz_ia, qz_ba, qz_ja, qz_aa, qz_is, qz_bs, qz_js, qz_as, qz_len, qz_cp, qz_bra])
      repeat' (first | exact qz_gr.no | exact hg _ _ _ _ _ | exact fun r e => by cases e; exact ⟨Nat.le_refl _, Nat.le_refl _⟩ | exact qz_gr.iv hg (fun st w => hg _ _ _ _ _) | exact qz_gr.mk (Nat.le_refl _) (Nat.le_refl _) (hg _ _ _ _ (_, w.2)) | exact qz_gr.mk (w1 := qz_new w _ _) (Nat.le_succ _) (Nat.le_add_right _ _) (hg _ _ _ _ _) | refine qz_gr.ite ?_ ?_ | refine qz_gr.cd ?_ ?_ | split)
theorem qz_x_gr (P : Nat → qz_B) : ∀ (f m pc : Nat) (L : qz_L) (st : List Value) (w : qz_W), qz_gr w (qz_x P f m pc L st w)
  | 0, _, _, _, _, _ => qz_gr.no
  | f + 1, m, pc, L, st, w => qz_gr.G P _ (fun _ _ _ _ _ => qz_x_gr P f _ _ _ _ _) m pc L st w
end
section
def qz_TW : List Cond := lw_tbl.filter goodWord
theorem qz_tw {w : Cond} (h : w ∈ tables_1) (hg : goodWord w = true) : w ∈ qz_TW := List.mem_filter.mpr ⟨List.mem_append_right _ h, hg⟩
def qz_oi : List (Nat × Nat) := [(0, 3), (1, 3), (2, 3), (3, 3), (4, 3), (5, 3), (6, 3), (7, 3), (8, 3), (9, 3), (10, 3), (11, 1), (12, 1)]
theorem qz_oi_ok : ∀ q ∈ qz_oi, Cond.methodLink (qz_gd "" qz_on q.1) q.2 objectInit ∈ tables_1 := List.forall_mem_cons.mpr ⟨tm_1 (List.mem_of_getElem? (i := 48) (by decide +kernel)), List.forall_mem_cons.mpr ⟨tm_2 (List.mem_of_getElem? (i := 100) (by decide +kernel)), List.forall_mem_cons.mpr ⟨tm_2 (List.mem_of_getElem? (i := 144) (by decide +kernel)), List.forall_mem_cons.mpr ⟨tm_2 (List.mem_of_getElem? (i := 4) (by decide +kernel)), List.forall_mem_cons.mpr ⟨tm_2 (List.mem_of_getElem? (i := 80) (by decide +kernel)), List.forall_mem_cons.mpr ⟨tm_2 (List.mem_of_getElem? (i := 46) (by decide +kernel)), List.forall_mem_cons.mpr ⟨tm_1 (List.mem_of_getElem? (i := 35) (by decide +kernel)), List.forall_mem_cons.mpr ⟨tm_2 (List.mem_of_getElem? (i := 116) (by decide +kernel)), List.forall_mem_cons.mpr ⟨tm_1 (List.mem_of_getElem? (i := 42) (by decide +kernel)), List.forall_mem_cons.mpr ⟨tm_1 (List.mem_of_getElem? (i := 182) (by decide +kernel)), List.forall_mem_cons.mpr ⟨tm_1 (List.mem_of_getElem? (i := 188) (by decide +kernel)), List.forall_mem_cons.mpr ⟨tm_1 (List.mem_of_getElem? (i := 27) (by decide +kernel)), List.forall_mem_cons.mpr ⟨tm_6 (List.mem_of_getElem? (i := 26) (by decide +kernel)), (fun _ h => absurd h List.not_mem_nil)⟩⟩⟩⟩⟩⟩⟩⟩⟩⟩⟩⟩⟩
theorem qz_oi2 : Cond.instanceMethod objectInit ∈ tables_1 ∧ Cond.code objectInit ⟨#[0xb1]⟩ 1 none ∈ tables_1 := ⟨tm_1 (List.mem_of_getElem? (i := 28) (by decide +kernel)), tm_1 (List.mem_of_getElem? (i := 29) (by decide +kernel))⟩
def qz_ac : List (Nat × Nat) := [(0, 37), (8, 69), (10, 31)]
theorem qz_ac_ok : ∀ q ∈ qz_ac, Cond.methodLink (qz_gd "" qz_on q.1) q.2 arraycopyName ∈ tables_1 := List.forall_mem_cons.mpr ⟨tm_6 (List.mem_of_getElem? (i := 8) (by decide +kernel)), List.forall_mem_cons.mpr ⟨tm_6 (List.mem_of_getElem? (i := 3) (by decide +kernel)), List.forall_mem_cons.mpr ⟨tm_2 (List.mem_of_getElem? (i := 237) (by decide +kernel)), (fun _ h => absurd h List.not_mem_nil)⟩⟩⟩
theorem qz_ac2 : Cond.native arraycopyName ∈ tables_1 ∧ Cond.static arraycopyName ∈ tables_1 ∧ Cond.initialized "java/lang/System" ∈ tables_1 := ⟨tm_2 (List.mem_of_getElem? (i := 239) (by decide +kernel)), tm_2 (List.mem_of_getElem? (i := 238) (by decide +kernel)), tm_1 (List.mem_of_getElem? (i := 14) (by decide +kernel))⟩
theorem qz_sf0 : Cond.fieldLink "TinStencils" 373 "TinStencils" "STEP_X" "[I" ∈ tables_1 := tm_4 (List.mem_of_getElem? (i := 72) (by decide +kernel))
theorem qz_sf1 : Cond.fieldLink "TinStencils" 376 "TinStencils" "STEP_Y" "[I" ∈ tables_1 := tm_4 (List.mem_of_getElem? (i := 73) (by decide +kernel))
theorem qz_sf2 : Cond.fieldLink "java/lang/String" 38 "java/lang/String" "COMPACT_STRINGS" "Z" ∈ tables_1 := tm_3 (List.mem_of_getElem? (i := 24) (by decide +kernel))
theorem qz_sf3 : Cond.fieldLink "java/lang/String" 9 "java/lang/String" "value" "[B" ∈ tables_1 := tm_8 (List.mem_of_getElem? (i := 217) (by decide +kernel))
theorem qz_sf4 : Cond.fieldLink "java/lang/String" 15 "java/lang/String" "coder" "B" ∈ tables_1 := tm_8 (List.mem_of_getElem? (i := 218) (by decide +kernel))
theorem qz_ar_int : Cond.arrayClass .int ∈ tables_1 := tm_1 (List.mem_of_getElem? (i := 80) (by decide +kernel))
theorem qz_ar_long : Cond.arrayClass .long ∈ tables_1 := tm_1 (List.mem_of_getElem? (i := 238) (by decide +kernel))
theorem qz_ar_byte : Cond.arrayClass .byte ∈ tables_1 := tm_4 (List.mem_of_getElem? (i := 5) (by decide +kernel))
def qz_kd (t : FieldType) : Nat := match t with
  | .int => 0
  | .boolean => 0
  | .object _ => 1
  | .array _ => 1
  | _ => 7
def qz_fk (t : FieldType) (c : Nat) : Bool := match t with
  | .int => Nat.beq c 0
  | .boolean => Nat.beq c 2
  | .object _ => Nat.beq c 1
  | .array _ => Nat.beq c 1
  | _ => false
def qz_cok (m j a b kind : Nat) : Bool := (decide (((qz_in m).2.2.2.1, j, a) ∈ qz_ml) || decide (((qz_in m).2.2.2.1, j, a) ∈ qz_mh)) && decide (40 ≤ (qz_in m).2.2.1) && decide (1 ≤ (qz_in m).2.1) && decide (a < 296) && decide ((qz_in a).2.2.2.2.1 = kind) && decide (b = (qz_in a).2.2.2.2.2 + (if kind = 0 then 0 else 1)) && decide ((qz_in a).2.1 + 1 ≤ (qz_in m).2.1) && decide (8 + ((qz_in a).1.2.2.1 + 11) + (qz_in a).2.2.1 ≤ (qz_in m).2.2.1)
/-- a row of a method's table is right: it is what the bytes say, and its numbers are what the tables' words say -/
def qz_ok (m pc : Nat) (en : qz_I) : Bool := match en with
  | ((i, n), (a, b, c), (k, kl), _, tl) => decide (decode (qz_in m).1.2.1 pc = .ok (i, n)) && (match i with
    | .iconst v => decide (n = 1) && decide (Int32.ofInt v = k)
    | .bipush v => decide (n = 2) && decide ((Int8.ofInt v).toInt32 = k)
    | .sipush v => decide (n = 3) && decide ((Int16.ofInt v).toInt32 = k)
    | .ldc j => decide (n = 2) && (match c with
      | 0 => decide (((qz_in m).2.2.2.1, j, k) ∈ qz_ki)
      | _ => decide ((qz_in m).2.2.2.1 = 10 ∧ j = 55 ∧ a = qz_old + 3))
    | .ldc_w j => decide (n = 3) && decide (((qz_in m).2.2.2.1, j, k) ∈ qz_ki)
    | .lconst j => decide (n = 1) && decide (Int64.ofNat j.val = kl)
    | .ldc2_w j => decide (n = 3) && decide (((qz_in m).2.2.2.1, j, kl) ∈ qz_kj)
    | .iload _ => decide (n = 2)
    | .lload _ => decide (n = 2)
    | .aload _ => decide (n = 2)
    | .istore j => decide (n = 2) && decide (j < (qz_in m).1.2.2.1)
    | .lstore j => decide (n = 2) && decide (j + 1 < (qz_in m).1.2.2.1)
    | .astore j => decide (n = 2) && decide (j < (qz_in m).1.2.2.1)
    | .istore_n j => decide (n = 1) && decide (j.val < (qz_in m).1.2.2.1)
    | .lstore_n j => decide (n = 1) && decide (j.val + 1 < (qz_in m).1.2.2.1)
    | .astore_n j => decide (n = 1) && decide (j.val < (qz_in m).1.2.2.1)
    | .iinc j v => decide (n = 3) && (decide (Int32.ofInt v = k) && decide (j < (qz_in m).1.2.2.1))
    | .goto d => decide (n = 3) && decide ((pc : Int) + d = (a : Int))
    | .if_icmp _ d => decide (n = 3) && decide ((pc : Int) + d = (a : Int))
    | .ifCond _ d => decide (n = 3) && decide ((pc : Int) + d = (a : Int))
    | .ifnull d => decide (n = 3) && decide ((pc : Int) + d = (a : Int))
    | .ifnonnull d => decide (n = 3) && decide ((pc : Int) + d = (a : Int))
    | .tableswitch d lo hi offs => decide ((pc : Int) + d = (a : Int)) && (decide (lo = (b : Int)) && (decide (hi + 1 = (b : Int) + (tl.length : Int)) && (decide (offs.toList.map (fun x => (pc : Int) + x) = tl.map (fun (t : Nat) => (t : Int))) && decide (b + tl.length < 100))))
    | .getfield j => decide (n = 3) && (decide (a = 13 ∧ (qz_in m).2.2.2.1 = 13 ∧ (b = 0 ∧ j = 15 ∨ b = 1 ∧ j = 9)) || decide (((qz_in m).2.2.2.1, j, a, b) ∈ qz_fl))
    | .putfield j => decide (n = 3) && (decide (((qz_in m).2.2.2.1, j, a, b) ∈ qz_fl) && (qz_fk ((qz_gd (cT_0, cY_0, 0) qz_ct a).2.1 b) c && (decide (((qz_gd (cT_0, cY_0, 0) qz_ct a).1 b).2.2.2 = false) || decide ((qz_in m).2.2.2.2.1 = 2 ∧ (qz_in m).2.2.2.1 = a))))
    | .getstatic j => decide (n = 3) && (match c with
      | 0 => decide ((qz_in m).2.2.2.1 = 13 ∧ j = 38 ∧ k = 1)
      | _ => decide (a = qz_old + 1 ∧ ((qz_in m).2.2.2.1 = 11 ∧ j = 373 ∨ ((qz_in m).2.2.2.1, j, "STEP_X") ∈ qz_fh)) || decide (a = qz_old + 2 ∧ ((qz_in m).2.2.2.1 = 11 ∧ j = 376 ∨ ((qz_in m).2.2.2.1, j, "STEP_Y") ∈ qz_fh)))
    | .newarray _ => decide (n = 2)
    | .anewarray j => decide (n = 3) && (decide (((qz_in m).2.2.2.1, j, a) ∈ qz_kc) && decide (a = 8 ∨ a = 6))
    | .new j => decide (n = 3) && (decide (((qz_in m).2.2.2.1, j, a) ∈ qz_kc) && (decide (b = (qz_gd (cT_0, cY_0, 0) qz_ct a).2.2) && (decide (tl = (List.range b).map (fun x => qz_kd ((qz_gd (cT_0, cY_0, 0) qz_ct a).2.1 x))) && (decide (a < 13) && decide (7 ∉ tl)))))
    | .invokevirtual j => decide (n = 3) && (match tl with
      | [_, mx, ci] => decide (ci = (qz_in a).2.2.2.1 ∧ mx = (qz_in a).1.2.2.1) && qz_cok m j a b 1
      | _ => false)
    | .invokespecial j => decide (n = 3) && (match tl with
      | [_, mx, ci] => decide (ci = (qz_in a).2.2.2.1 ∧ mx = (qz_in a).1.2.2.1) && qz_cok m j a b 2
      | [] => decide (((qz_in m).2.2.2.1, j) ∈ qz_oi ∧ 40 ≤ (qz_in m).2.2.1 ∧ 1 ≤ (qz_in m).2.1)
      | _ => false)
    | .invokestatic j => decide (n = 3) && (match tl with
      | [_, mx] => decide (mx = (qz_in a).1.2.2.1) && qz_cok m j a b 0
      | [] => decide (((qz_in m).2.2.2.1, j) ∈ qz_ac ∧ 40 ≤ (qz_in m).2.2.1 ∧ 1 ≤ (qz_in m).2.1)
      | _ => false)
    | .ireturn => decide (n = 1) && (match c with
      | 0 => decide ((qz_in m).1.2.2.2 = some .int)
      | 1 => decide ((qz_in m).1.2.2.2 = some .boolean)
      | 2 => decide ((qz_in m).1.2.2.2 = some .char)
      | 3 => decide ((qz_in m).1.2.2.2 = some .byte)
      | _ => false)
    | .lreturn => decide (n = 1) && decide ((qz_in m).1.2.2.2 = some .long)
    | .areturn => decide (n = 1) && decide ((qz_in m).1.2.2.2 = some (.object "TinStencils$Sheet"))
    | .return_ => decide (n = 1) && decide ((qz_in m).1.2.2.2 = none)
    | _ => decide (n = 1))
/-- the frame of a method: its machine, its code, the words, the room -/
def qz_Cx (X : qz_X) (m : Nat) (p : Program) (R : Room) (s : State) (mid : MethodId) (args : Array Value) (meth : Method) (c : Code) : Prop :=
  p.tables.exec = Jvm.exec ∧ c.code = (qz_in m).1.2.1 ∧ meth.sig.returnType = (qz_in m).1.2.2.2 ∧ meth.locks = false ∧ c.maxLocals = (qz_in m).1.2.2.1 ∧ s.vm.findClass (qz_gd "" qz_on (qz_in m).2.2.2.1) = some mid.cls ∧ (∀ w ∈ qz_TW, w.before args s = true) ∧ qz_St X s ∧ ((qz_in m).2.2.2.2.1 = 2 → meth.name = "<init>") ∧ (qz_in m).2.1 ≤ R.frames ∧ (qz_in m).2.2.1 ≤ R.locals
/-- the end of a method stands at pc, with the answer v -/
def qz_re (m pc : Nat) (v : Option Value) : Prop :=
  (∃ (x : Int32) (ty : FieldType), v = some (.int x) ∧ decode (qz_in m).1.2.1 pc = .ok (.ireturn, 1) ∧ (qz_in m).1.2.2.2 = some ty ∧ narrow ty (.int x) = .int x) ∨
  (∃ x : Int64, v = some (.long x) ∧ decode (qz_in m).1.2.1 pc = .ok (.lreturn, 1) ∧ (qz_in m).1.2.2.2 = some .long) ∨
  (∃ x : Value, v = some x ∧ (x = .null ∨ ∃ q, x = .ref q) ∧ decode (qz_in m).1.2.1 pc = .ok (.areturn, 1) ∧ (qz_in m).1.2.2.2 = some (.object "TinStencils$Sheet")) ∨
  (v = none ∧ decode (qz_in m).1.2.1 pc = .ok (.return_, 1) ∧ (qz_in m).1.2.2.2 = none)
def qz_Fr (X : qz_X) (l : Launch) (m : Nat) (p : Program) (e : Env) (R : Room) (s : State) (mid : MethodId) (args : Array Value) (below : List Frame) (meth : Method) (c : Code) (n0 s0 : Nat) (v : Option Value) (w' : qz_W) (Qf : State → Prop) : Prop :=
  qz_Cx X m p R s mid args meth c ∧ s.heap.size = X.2.2.2.1 + n0 ∧ w'.2.1 - n0 ≤ R.cells ∧ w'.2.2 - s0 ≤ R.slots ∧
  ∀ (pc : Nat) (ls : Array Slot) (H : Heap) (locs : List Loc), qz_re m pc v → qz_Wd X H w' → va_S (qz_A X) s.heap H locs → W p l e R s mid args below meth c H locs (w'.2.1 - n0) (w'.2.2 - s0) Qf (F0 mid pc ls (v.toList.map (qz_v X)))
def qz_Sd (X : qz_X) (s : State) (c : Code) (L : qz_L) (w : qz_W) (n0 s0 : Nat) (H : Heap) (locs : List Loc) (ls : Array Slot) : Prop := qz_Wd X H w ∧ va_S (qz_A X) s.heap H locs ∧ lv_has ls c.maxLocals (qz_pl X 0 L) ∧ n0 ≤ w.2.1 ∧ s0 ≤ w.2.2
def qz_IH (X : qz_X) (l : Launch) (f : Nat) : Prop := ∀ (m pc : Nat) (L : qz_L) (st : List Value) (w : qz_W) (v : Option Value) (w' : qz_W), qz_x qz_cd f m pc L st w = some (v, w') → w'.2.1 ≤ qz_old → ∀ (p : Program) (e : Env) (R : Room) (s : State) (mid : MethodId) (args : Array Value) (below : List Frame) (meth : Method) (c : Code) (n0 s0 : Nat) (Qf : State → Prop), qz_Fr X l m p e R s mid args below meth c n0 s0 v w' Qf → ∀ (H : Heap) (locs : List Loc) (ls : Array Slot), qz_Sd X s c L w n0 s0 H locs ls → W p l e R s mid args below meth c H locs (w.2.1 - n0) (w.2.2 - s0) Qf (F0 mid pc ls (st.map (qz_v X)))
end
section
/-! the rows of the step that are long -/
theorem qz_gd_at {α : Type} {d : α} : ∀ (l : List α) (i : Nat) (x : α), qz_at l i = some x → qz_gd d l i = x
  | [], _, _, h => by cases h
  | _ :: _, 0, _, h => Option.some.inj h
  | _ :: l, i + 1, x, h => qz_gd_at l i x h
theorem qz_cl_lt {ci : Nat} (h : ci < 13) : ∃ r : vw_C, qz_cl[ci]? = some r := by
  have hl : qz_cl.length = 13 := rfl
  exact ⟨qz_cl[ci]'(by rw [hl]; exact h), List.getElem?_eq_getElem _⟩
theorem qz_cl_ge {ci : Nat} {r : vw_C} (h : qz_cl[ci]? = some r) : ci < 13 := (List.getElem?_eq_some_iff.mp h).1
theorem qz_on_cn : ∀ a, a < 13 → qz_gd "" qz_on a = qz_gd "" qz_cn a := by decide +kernel
theorem qz_lay_good {C : String} {T : u_T} {N : Nat} {w : Cond} (h : w ∈ u_ws C T N) : goodWord w = true := by
  unfold u_ws at h
  obtain ⟨k, -, rfl⟩ := List.mem_map.mp h
  unfold u_lay
  split <;> rfl
theorem qz_sw_i {x : Int32} {f : Nat → Option qz_R} {d : Nat} {r : qz_R} : ∀ (ts : List Nat) (j : Nat), qz_sw x f d j ts = some r → (∃ i t, ts[i]? = some t ∧ x = nI (j + i) ∧ f t = some r) ∨ ((∀ i, i < ts.length → x ≠ nI (j + i)) ∧ f d = some r)
  | [], j, h => Or.inr ⟨fun i hi => absurd hi (Nat.not_lt_zero i), h⟩
  | t :: ts, j, h => by
    unfold qz_sw at h
    by_cases hx : x = nI j
    · rw [if_pos hx] at h
      exact Or.inl ⟨0, t, rfl, hx, h⟩
    · rw [if_neg hx] at h
      rcases qz_sw_i ts (j + 1) h with ⟨i, u, h1, h2, h3⟩ | ⟨h1, h2⟩
      · exact Or.inl ⟨i + 1, u, h1, by rw [h2]; congr 1; omega, h3⟩
      · refine Or.inr ⟨fun i hi => ?_, h2⟩
        cases i with
        | zero => exact hx
        | succ i =>
          have := h1 i (Nat.lt_of_succ_lt_succ hi)
          rw [show j + (i + 1) = j + 1 + i by omega]
          exact this
theorem qz_nz {x : Int32} (h : qz_z x = true) : narrow .boolean (.int x) = .int x ∧ fits .boolean (.int x) = true := by
  have h1 : x.toBitVec.toNat ≤ 1 := Nat.le_of_ble_eq_true h
  have h2 : x = 0 ∨ x = 1 := by
    rcases (show x.toBitVec.toNat = 0 ∨ x.toBitVec.toNat = 1 by omega) with h | h
    · left
      apply Int32.toBitVec_inj.mp
      apply BitVec.eq_of_toNat_eq
      rw [h]; rfl
    · right
      apply Int32.toBitVec_inj.mp
      apply BitVec.eq_of_toNat_eq
      rw [h]; rfl
  rcases h2 with rfl | rfl <;> exact ⟨by decide, by decide⟩
theorem qz_fk_int {X : qz_X} {ty : FieldType} (h : qz_fk ty 0 = true) (x : Int32) : narrow ty (qz_v X (.int x)) = qz_v X (.int x) ∧ fits ty (qz_v X (.int x)) = true := by
  cases ty <;> simp [qz_fk] at h
  exact ⟨rfl, rfl⟩
theorem qz_fk_boo {X : qz_X} {ty : FieldType} (h : qz_fk ty 2 = true) {x : Int32} (hz : qz_z x = true) : narrow ty (qz_v X (.int x)) = qz_v X (.int x) ∧ fits ty (qz_v X (.int x)) = true := by
  cases ty <;> simp [qz_fk] at h
  exact qz_nz hz
theorem qz_fk_ref {X : qz_X} {ty : FieldType} (h : qz_fk ty 1 = true) (q : Nat) : narrow ty (qz_v X (.ref q)) = qz_v X (.ref q) ∧ fits ty (qz_v X (.ref q)) = true := by
  cases ty <;> simp [qz_fk] at h
  · exact ⟨rfl, rfl⟩
  · exact ⟨rfl, rfl⟩
theorem qz_fk_no {ty : FieldType} (n : Nat) : ¬ qz_fk ty (n + 3) = true := by
  cases ty <;> simp [qz_fk]
theorem qz_arr_in {X : qz_X} {H : Heap} {w : qz_W} {o : Nat} {ty : FieldType} {a : vp_A} (h : qz_Wd X H w) (hw : w.1 o = .inl (ty, a)) (ht : ty ≠ .float ∧ ty ≠ .double) : o < w.2.1 := by
  refine qz_in_w h (by rw [hw]; exact fun q => by cases q) fun i => ?_
  rw [hw]
  refine qz_oc_cases (X := X) (fun e => (.inl (ty, a) : qz_E) ≠ e) ?_ ?_ ?_ ?_ ?_ ?_ i
  · exact fun q => by cases q; exact ht.1 rfl
  · exact fun q => by cases q; exact ht.1 rfl
  · exact fun q => by cases q; exact ht.1 rfl
  · exact fun q => by cases q
  · exact fun q => by cases q; exact ht.2 rfl
  · exact fun q => by cases q
theorem qz_obj_in {X : qz_X} {H : Heap} {w : qz_W} {o ci : Nat} {fs : List Value} (h : qz_Wd X H w) (hw : w.1 o = .inr (ci, fs)) (hc : ci < 13) : o < w.2.1 := by
  refine qz_in_w h (by rw [hw]; exact fun q => by cases q; omega) fun i => ?_
  rw [hw]
  refine qz_oc_cases (X := X) (fun e => (.inr (ci, fs) : qz_E) ≠ e) ?_ ?_ ?_ ?_ ?_ ?_ i
  · exact fun q => by cases q
  · exact fun q => by cases q
  · exact fun q => by cases q
  · exact fun q => by cases q; omega
  · exact fun q => by cases q
  · exact fun q => by cases q; omega
/-- an old cell is at one of the five places -/
theorem qz_old_at {X : qz_X} {H : Heap} {w : qz_W} {o : Nat} (h : qz_Wd X H w) (h1 : ¬ o < w.2.1) (h2 : w.1 o ≠ qz_jk) : ∃ i, o = qz_old + i ∧ i < 5 ∧ w.1 o = qz_oc X i := by
  rcases Nat.lt_or_ge o qz_old with r | r
  · exact absurd (h.2.2.1 o (Nat.not_lt.mp h1) r) h2
  · have e := h.2.2.2.1 (o - qz_old)
    rw [show qz_old + (o - qz_old) = o by omega] at e
    refine ⟨o - qz_old, by omega, ?_, e⟩
    rcases Nat.lt_or_ge (o - qz_old) 5 with q | q
    · exact q
    · exfalso
      apply h2
      rw [e]
      unfold qz_oc
      split <;> first | omega | rfl
theorem qz_tag_no {X : qz_X} {H : Heap} {w : qz_W} {o : Nat} {ty : FieldType} {a : vp_A} (h : qz_Wd X H w) (hw : w.1 o = .inl (ty, a)) (ht : ty = .float ∨ ty = .double) : ¬ o < w.2.1 := by
  intro ho
  have := h.2.2.2.2 o ho
  rw [hw] at this
  rcases this with e | e | e | e | e <;> rcases ht with t | t <;> (rw [t] at e; cases e)
section QZR
variable {X : qz_X} {l : Launch} {m : Nat} {p : Program} {e : Env} {R : Room} {s : State} {mid : MethodId} {args : Array Value} {below : List Frame} {meth : Method} {c : Code} {n0 s0 : Nat} {v0 : Option Value} {w' : qz_W} {Qf Q : State → Prop} {H : Heap} {locs : List Loc} {cells slots : Nat} {w : qz_W} {pc : Nat} {ls : Array Slot} {t : List Value}
theorem qz_sw_ok {cc : ByteArray} {d lo hi : Int} {offs : Array Int} {n a b : Nat} {tl : List Nat} {x : Int32} {F : Nat → Option qz_R} {r : qz_R} {rest : List Value} (hx : p.tables.exec = Jvm.exec) (hb : c.code = cc) (hd : decode cc pc = .ok (.tableswitch d lo hi offs, n)) (ht : (pc : Int) + d = (a : Int)) (hlo : lo = (b : Int)) (hhi : hi + 1 = (b : Int) + (tl.length : Int)) (hof : offs.toList.map (fun x => (pc : Int) + x) = tl.map (fun (t : Nat) => (t : Int))) (hbd : b + tl.length < 100) (g : qz_sw x F a b tl = some r)
    (kk : ∀ tgt, F tgt = some r → W p l e R s mid args below meth c H locs cells slots Q (F0 mid tgt ls rest)) : W p l e R s mid args below meth c H locs cells slots Q (F0 mid pc ls (.int x :: rest)) := by
  rcases qz_sw_i tl b g with ⟨i, u, h1, h2, h3⟩ | ⟨h1, h2⟩
  · have hi' : i < tl.length := (List.getElem?_eq_some_iff.mp h1).1
    have hxi : x.toInt = ((b + i : Nat) : Int) := by rw [h2]; exact nI_toInt (by omega)
    have h4 : (offs.toList.map (fun x => (pc : Int) + x))[i]? = some (u : Int) := by rw [hof, List.getElem?_map, h1]; rfl
    rw [List.getElem?_map] at h4
    cases ho : offs.toList[i]? with
    | none => rw [ho] at h4; cases h4
    | some off =>
      rw [ho] at h4
      have h5 : (pc : Int) + off = (u : Int) := Option.some.inj h4
      refine lv_tableIn (off := off) (tgt := u) hx hb hd (by rw [hxi, hlo]; omega) (by rw [hxi]; omega) ?_ h5 (kk u h3)
      rw [show (x.toInt - lo).toNat = i by rw [hxi, hlo]; omega, ← Array.getElem?_toList]
      exact ho
  · refine lv_tableOut (tgt := a) hx hb hd ?_ ht (kk a h2)
    rcases Int.lt_or_le x.toInt lo with q | q
    · exact Or.inl q
    · rcases Int.lt_or_le hi x.toInt with q2 | q2
      · exact Or.inr q2
      · exfalso
        have hneg : ¬ x < 0 := by
          intro hh
          have := Int32.lt_iff_toInt_lt.mp hh
          simp at this
          omega
        obtain ⟨j, hj, hxj⟩ := nI_of hneg
        have hxi : x.toInt = (j : Int) := by rw [hxj]; exact nI_toInt hj
        refine h1 (j - b) (by omega) ?_
        rw [hxj]
        congr 1
        omega
theorem qz_get_ok {j a b q : Nat} {fs : List Value} {x : Value} (hF : qz_Fr X l m p e R s mid args below meth c n0 s0 v0 w' Qf) (hW : qz_Wd X H w) (hS : va_S (qz_A X) s.heap H locs) (hd : decode (qz_in m).1.2.1 pc = .ok (.getfield j, 3)) (hk : (decide (a = 13 ∧ (qz_in m).2.2.2.1 = 13 ∧ (b = 0 ∧ j = 15 ∨ b = 1 ∧ j = 9)) || decide (((qz_in m).2.2.2.1, j, a, b) ∈ qz_fl)) = true) (g2 : w.1 q = .inr (a, fs)) (g3 : fs[b]? = some x)
    (kk : W p l e R s mid args below meth c H locs cells slots Q (F0 mid (pc + 3) ls (qz_v X x :: t.map (qz_v X)))) : W p l e R s mid args below meth c H locs cells slots Q (F0 mid pc ls (.ref (qz_ad X q) :: t.map (qz_v X))) := by
  obtain ⟨⟨hx, hb, hr, hlk, hml, hown, hts, hSt, hin, hfr, hlo⟩, -⟩ := hF
  rw [Bool.or_eq_true, decide_eq_true_eq, decide_eq_true_eq] at hk
  rcases hk with ⟨rfl, k1, k2⟩ | hk
  · have ho : ¬ q < w.2.1 := by
      intro ho
      have h1 := hW.1 q _ (qz_ws_at ho)
      rw [g2] at h1
      obtain ⟨r, h2, -⟩ := h1
      have := qz_cl_ge h2
      omega
    obtain ⟨i, rfl, hi, hoc⟩ := qz_old_at hW ho (by rw [g2]; exact fun z => by cases z)
    rw [g2] at hoc
    have hi3 : i = 3 := by
      match i, hi, hoc with
      | 0, _, h => cases h
      | 1, _, h => cases h
      | 2, _, h => cases h
      | 3, _, _ => rfl
      | 4, _, h => cases h
    subst hi3
    cases hoc
    rw [k1] at hown
    rw [qz_ad_old]
    rcases k2 with ⟨rfl, rfl⟩ | ⟨rfl, rfl⟩
    · cases g3
      exact vk_getf (own := "java/lang/String") (ref := "java/lang/String") hx hb hSt.2.2.2.2.2.2.2.2.2.2.2.2.2.1 hS hown (hts _ (qz_tw qz_sf4 rfl)) (fun _ h => h) hd kk
    · cases g3
      have kk : W p l e R s mid args below meth c H locs cells slots Q (F0 mid (pc + 3) ls (.ref (qz_ad X (qz_old + 4)) :: t.map (qz_v X))) := kk
      rw [qz_ad_old] at kk
      exact vk_getf (own := "java/lang/String") (ref := "java/lang/String") hx hb hSt.2.2.2.2.2.2.2.2.2.2.2.2.2.2.1 hS hown (hts _ (qz_tw qz_sf3 rfl)) (fun _ h => h) hd kk
  · obtain ⟨f1, f2, f3⟩ := qz_fl_ok _ hk
    dsimp only at f1 f2 f3
    have ho := qz_obj_in hW g2 f3
    obtain ⟨r, hr1⟩ := qz_cl_lt f3
    obtain ⟨ty, ⟨o1, o2, o3, o4, o5, o6, o7⟩, o8⟩ := qz_okcs a r hr1
    rw [o8, qz_gd_at _ _ _ o1] at f1
    rw [o8] at f2
    have ha := qz_ws_at (X := X) ho
    rw [g2] at ha
    rw [qz_ad_in hW ho]
    exact va_get (C := r.1) (T := r.2.1) (N := r.2.2) (ref := r.1) hx hb hts (fun w hw => qz_tw (o2 w hw) (qz_lay_good hw)) hown hSt.1 hW.1 q ha hr1 b f2 (hts _ (qz_tw f1 rfl)) (fun y hy => by rw [o5 b f2] at hy; exact hy) (v := qz_v X x) (by rw [List.getElem?_map, g3]; rfl) hd kk
theorem qz_put_ok {j a b q : Nat} {fs : List Value} {v : Value} (hF : qz_Fr X l m p e R s mid args below meth c n0 s0 v0 w' Qf) (hW : qz_Wd X H w) (hS : va_S (qz_A X) s.heap H locs) (hd : decode (qz_in m).1.2.1 pc = .ok (.putfield j, 3)) (hk : ((qz_in m).2.2.2.1, j, a, b) ∈ qz_fl)
    (hfi : (decide (((qz_gd (cT_0, cY_0, 0) qz_ct a).1 b).2.2.2 = false) || decide ((qz_in m).2.2.2.2.1 = 2 ∧ (qz_in m).2.2.2.1 = a)) = true) (hty : narrow ((qz_gd (cT_0, cY_0, 0) qz_ct a).2.1 b) (qz_v X v) = qz_v X v ∧ fits ((qz_gd (cT_0, cY_0, 0) qz_ct a).2.1 b) (qz_v X v) = true) (g2 : w.1 q = .inr (a, fs))
    (kk : ∀ (H1 : Heap) (locs1 : List Loc), qz_Wd X H1 (va_up w.1 q (.inr (a, fs.set b v)), w.2) → va_S (qz_A X) s.heap H1 locs1 → W p l e R s mid args below meth c H1 locs1 cells slots Q (F0 mid (pc + 3) ls (t.map (qz_v X)))) : W p l e R s mid args below meth c H locs cells slots Q (F0 mid pc ls (qz_v X v :: .ref (qz_ad X q) :: t.map (qz_v X))) := by
  obtain ⟨⟨hx, hb, hr, hlk, hml, hown, hts, hSt, hin, hfr, hlo⟩, -⟩ := hF
  obtain ⟨f1, f2, f3⟩ := qz_fl_ok _ hk
  dsimp only at f1 f2 f3
  have ho := qz_obj_in hW g2 f3
  obtain ⟨r, hr1⟩ := qz_cl_lt f3
  obtain ⟨ty, ⟨o1, o2, o3, o4, o5, o6, o7⟩, o8⟩ := qz_okcs a r hr1
  rw [o8, qz_gd_at _ _ _ o1] at f1
  have hlen : fs.length = r.2.2 := by
    have := hW.2.2.2.2 q ho
    rw [g2] at this
    exact this.trans (by rw [o8])
  rw [o8] at f2 hfi hty
  have ha := qz_ws_at (X := X) ho
  rw [g2] at ha
  rw [qz_ad_in hW ho]
  have hup : ∀ (H1 : Heap), va_P X.1 qz_cl ((qz_ws X w).set q (X.2.2.2.1 + q, .inr (a, (fs.map (qz_v X)).set b (qz_v X v)))) H1 → qz_Wd X H1 (va_up w.1 q (.inr (a, fs.set b v)), w.2) := by
    intro H1 hP1
    refine hW.up ho ?_ ?_
    · show (fs.set b v).length = _
      rw [List.length_set, hlen, o8]
    · show va_P X.1 qz_cl ((qz_ws X w).set q (X.2.2.2.1 + q, .inr (a, (fs.set b v).map (qz_v X)))) H1
      rw [List.map_set]
      exact hP1
  have hl : b < (fs.map (qz_v X)).length := by rw [List.length_map, hlen]; exact f2
  rw [Bool.or_eq_true, decide_eq_true_eq, decide_eq_true_eq] at hfi
  rcases hfi with hfi | ⟨h1, h2⟩
  · exact va_put (C := r.1) (T := r.2.1) (N := r.2.2) (ref := r.1) hx hb hts (fun w hw => qz_tw (o2 w hw) (qz_lay_good hw)) ty o3 o4 hown hSt.1 hW.1 qz_ws_D hS q ha hr1 b f2 (hts _ (qz_tw f1 rfl)) (fun y hy => by rw [o5 b f2] at hy; exact hy) hfi (o3 b f2) hty.1 hty.2 hl hd (fun H1 locs1 hP1 _ hS1 => kk H1 locs1 (hup H1 hP1) hS1)
  · cases hfin : (r.2.1 b).2.2.2 with
    | false => exact va_put (C := r.1) (T := r.2.1) (N := r.2.2) (ref := r.1) hx hb hts (fun w hw => qz_tw (o2 w hw) (qz_lay_good hw)) ty o3 o4 hown hSt.1 hW.1 qz_ws_D hS q ha hr1 b f2 (hts _ (qz_tw f1 rfl)) (fun y hy => by rw [o5 b f2] at hy; exact hy) hfin (o3 b f2) hty.1 hty.2 hl hd (fun H1 locs1 hP1 _ hS1 => kk H1 locs1 (hup H1 hP1) hS1)
    | true => exact va_putF (C := r.1) (T := r.2.1) (N := r.2.2) (ref := r.1) hx hb hts (fun w hw => qz_tw (o2 w hw) (qz_lay_good hw)) ty o3 o4 hown hSt.1 hW.1 qz_ws_D hS q ha hr1 b f2 (hts _ (qz_tw f1 rfl)) (fun y hy => by rw [o5 b f2] at hy; exact hy) hfin (hin h1) (by rw [o5 b f2, h2, qz_on_cn a f3, qz_gd_at _ _ _ o1]) (o3 b f2) hty.1 hty.2 hl hd (fun H1 locs1 hP1 _ hS1 => kk H1 locs1 (hup H1 hP1) hS1)
theorem qz_iaload_ok {q n1 : Nat} {g : Nat → Int32} {j : Int32} (hF : qz_Fr X l m p e R s mid args below meth c n0 s0 v0 w' Qf) (hW : qz_Wd X H w) (hS : va_S (qz_A X) s.heap H locs) (hd : decode (qz_in m).1.2.1 pc = .ok (.iaload, 1)) (g2 : w.1 q = .inl (.int, n1, .inl g) ∨ w.1 q = .inl (.float, n1, .inl g)) (g3 : vp_in j n1)
    (kk : W p l e R s mid args below meth c H locs cells slots Q (F0 mid (pc + 1) ls (.int (g j.toNatClampNeg) :: t.map (qz_v X)))) : W p l e R s mid args below meth c H locs cells slots Q (F0 mid pc ls (.int j :: .ref (qz_ad X q) :: t.map (qz_v X))) := by
  obtain ⟨⟨hx, hb, hr, hlk, hml, hown, hts, hSt, hin, hfr, hlo⟩, -⟩ := hF
  rcases g2 with g2 | g2
  · have ho := qz_arr_in hW g2 ⟨by decide, by decide⟩
    have ha := qz_ws_at (X := X) ho
    rw [g2] at ha
    rw [qz_ad_in hW ho]
    exact va_iald hx hb hSt.1 hW.1 q 0 ha rfl g3 hd kk
  · have ho := qz_tag_no hW g2 (Or.inl rfl)
    obtain ⟨i, rfl, hi, hoc⟩ := qz_old_at hW ho (by rw [g2]; exact fun z => by cases z)
    rw [g2] at hoc
    rw [qz_ad_old]
    match i, hi, hoc with
    | 0, _, h => cases h; exact va_ti hx hb hSt.2.2.2.2.2.2.2.2.2.1 hS g3 rfl hd kk
    | 1, _, h => cases h; exact va_ti hx hb hSt.2.2.2.2.2.2.2.2.2.2.1 hS g3 rfl hd kk
    | 2, _, h => cases h; exact va_ti hx hb hSt.2.2.2.2.2.2.2.2.2.2.2.1 hS g3 rfl hd kk
    | 3, _, h => cases h
    | 4, _, h => cases h
theorem qz_baload_ok {q n1 : Nat} {g : Nat → Int32} {j : Int32} (hF : qz_Fr X l m p e R s mid args below meth c n0 s0 v0 w' Qf) (hW : qz_Wd X H w) (hS : va_S (qz_A X) s.heap H locs) (hd : decode (qz_in m).1.2.1 pc = .ok (.baload, 1)) (g2 : w.1 q = .inl (.byte, n1, .inl g) ∨ w.1 q = .inl (.double, n1, .inl g)) (g3 : vp_in j n1)
    (kk : W p l e R s mid args below meth c H locs cells slots Q (F0 mid (pc + 1) ls (.int (g j.toNatClampNeg) :: t.map (qz_v X)))) : W p l e R s mid args below meth c H locs cells slots Q (F0 mid pc ls (.int j :: .ref (qz_ad X q) :: t.map (qz_v X))) := by
  obtain ⟨⟨hx, hb, hr, hlk, hml, hown, hts, hSt, hin, hfr, hlo⟩, -⟩ := hF
  rcases g2 with g2 | g2
  · have ho := qz_arr_in hW g2 ⟨by decide, by decide⟩
    have ha := qz_ws_at (X := X) ho
    rw [g2] at ha
    rw [qz_ad_in hW ho]
    exact va_bald hx hb hSt.1 hW.1 q 2 ha rfl g3 hd kk
  · have ho := qz_tag_no hW g2 (Or.inr rfl)
    obtain ⟨i, rfl, hi, hoc⟩ := qz_old_at hW ho (by rw [g2]; exact fun z => by cases z)
    rw [g2] at hoc
    rw [qz_ad_old]
    match i, hi, hoc with
    | 0, _, h => cases h
    | 1, _, h => cases h
    | 2, _, h => cases h
    | 3, _, h => cases h
    | 4, _, h => cases h; exact va_tb hx hb hSt.2.2.2.2.2.2.2.2.2.2.2.2.2.2.2 hS g3 rfl hd kk
theorem qz_ty_at {C : String} (hW : qz_Wd X H w) {q n1 : Nat} {g : Nat → Option Nat} (g2 : w.1 q = .inl (.object C, n1, .inr (.inr (.inr (.inr g))))) : ∃ t0 : Nat, (qz_tys X)[t0]? = some (X.2.1 (.object C), .object C) := by
  have ho := qz_arr_in hW g2 ⟨fun h => (by cases h), fun h => (by cases h)⟩
  have h := hW.2.2.2.2 q ho
  rw [g2] at h
  rcases h with h | h | h | h | h
  · cases h
  · cases h
  · cases h
  · cases h; exact ⟨3, rfl⟩
  · cases h; exact ⟨4, rfl⟩
theorem qz_aaload_ok {C : String} {q n1 y : Nat} {g : Nat → Option Nat} {j : Int32} (hF : qz_Fr X l m p e R s mid args below meth c n0 s0 v0 w' Qf) (hW : qz_Wd X H w) (hS : va_S (qz_A X) s.heap H locs) (hd : decode (qz_in m).1.2.1 pc = .ok (.aaload, 1)) (g2 : w.1 q = .inl (.object C, n1, .inr (.inr (.inr (.inr g))))) (g3 : vp_in j n1) (g5 : g j.toNatClampNeg = some y)
    (kk : W p l e R s mid args below meth c H locs cells slots Q (F0 mid (pc + 1) ls (.ref (qz_ad X y) :: t.map (qz_v X)))) : W p l e R s mid args below meth c H locs cells slots Q (F0 mid pc ls (.int j :: .ref (qz_ad X q) :: t.map (qz_v X))) := by
  obtain ⟨⟨hx, hb, hr, hlk, hml, hown, hts, hSt, hin, hfr, hlo⟩, -⟩ := hF
  have ho := qz_arr_in hW g2 ⟨fun h => (by cases h), fun h => (by cases h)⟩
  obtain ⟨t0, ht0⟩ := qz_ty_at hW g2
  have ha := qz_ws_at (X := X) ho
  rw [g2] at ha
  rw [qz_ad_in hW ho]
  refine va_aldq (f := fun j => (g j).map (qz_ad X)) hx hb hSt.1 hW.1 q t0 ha ht0 g3 hd ?_
  rw [g5]
  exact kk
theorem qz_aastore_ok {C : String} {q n1 y ci : Nat} {vs : List Value} {g : Nat → Option Nat} {j : Int32} (hF : qz_Fr X l m p e R s mid args below meth c n0 s0 v0 w' Qf) (hW : qz_Wd X H w) (hS : va_S (qz_A X) s.heap H locs) (hd : decode (qz_in m).1.2.1 pc = .ok (.aastore, 1)) (g2 : w.1 q = .inl (.object C, n1, .inr (.inr (.inr (.inr g))))) (g3 : vp_in j n1) (g5 : w.1 y = .inr (ci, vs)) (g6 : qz_at qz_cn ci = some C)
    (kk : ∀ (H1 : Heap) (locs1 : List Loc), qz_Wd X H1 (va_up w.1 q (.inl (.object C, n1, .inr (.inr (.inr (.inr (va_up g j.toNatClampNeg (some y))))))), w.2) → va_S (qz_A X) s.heap H1 locs1 → W p l e R s mid args below meth c H1 locs1 cells slots Q (F0 mid (pc + 1) ls (t.map (qz_v X)))) : W p l e R s mid args below meth c H locs cells slots Q (F0 mid pc ls (.ref (qz_ad X y) :: .int j :: .ref (qz_ad X q) :: t.map (qz_v X))) := by
  obtain ⟨⟨hx, hb, hr, hlk, hml, hown, hts, hSt, hin, hfr, hlo⟩, -⟩ := hF
  have ho := qz_arr_in hW g2 ⟨fun h => (by cases h), fun h => (by cases h)⟩
  obtain ⟨t0, ht0⟩ := qz_ty_at hW g2
  have hce := hW.2.2.2.2 q ho
  rw [g2] at hce
  have hci : ci < 13 := by
    have h1 := qz_at_mem _ _ _ g6
    exact (List.getElem?_eq_some_iff.mp h1).1
  have hoy := qz_obj_in hW g5 hci
  obtain ⟨r, hr1⟩ := qz_cl_lt hci
  obtain ⟨ty, ⟨o1, -⟩, -⟩ := qz_okcs ci r hr1
  have hC : r.1 = C := Option.some.inj (o1.symm.trans g6)
  have ha := qz_ws_at (X := X) ho
  have hy := qz_ws_at (X := X) hoy
  rw [g2] at ha
  rw [g5] at hy
  rw [qz_ad_in hW ho, qz_ad_in hW hoy]
  subst hC
  refine va_astq (f := fun j => (g j).map (qz_ad X)) hx hb hSt.1 hW.1 qz_ws_D hS q t0 y ci ha ht0 hy hr1 g3 hd (fun H1 locs1 hP1 _ hS1 => kk H1 locs1 (hW.up ho hce ?_) hS1)
  show va_P X.1 qz_cl ((qz_ws X w).set q (X.2.2.2.1 + q, .inl (X.2.1 (.object r.1), n1, .inr (.inr (.inr (.inr (fun k => (va_up g j.toNatClampNeg (some y) k).map (qz_ad X)))))))) H1
  have e1 : (fun k => (va_up g j.toNatClampNeg (some y) k).map (qz_ad X)) = va_up (fun j => (g j).map (qz_ad X)) j.toNatClampNeg (some (X.2.2.2.1 + y)) := by
    funext k
    unfold va_up
    split
    · show some (qz_ad X y) = _
      rw [qz_ad_in hW hoy]
    · rfl
  rw [e1]
  exact hP1
theorem qz_alen_ok {q n1 : Nat} {ty : FieldType} {a : (Nat → Int32) ⊕ (Nat → Int64) ⊕ (Nat → UInt32) ⊕ (Nat → UInt64) ⊕ (Nat → Option Nat)} (hF : qz_Fr X l m p e R s mid args below meth c n0 s0 v0 w' Qf) (hW : qz_Wd X H w) (hS : va_S (qz_A X) s.heap H locs) (hd : decode (qz_in m).1.2.1 pc = .ok (.arraylength, 1)) (g2 : w.1 q = .inl (ty, n1, a))
    (kk : W p l e R s mid args below meth c H locs cells slots Q (F0 mid (pc + 1) ls (.int (nI n1) :: t.map (qz_v X)))) : W p l e R s mid args below meth c H locs cells slots Q (F0 mid pc ls (.ref (qz_ad X q) :: t.map (qz_v X))) := by
  obtain ⟨⟨hx, hb, hr, hlk, hml, hown, hts, hSt, hin, hfr, hlo⟩, -⟩ := hF
  by_cases ho : q < w.2.1
  · have ha := qz_ws_at (X := X) ho
    have hce := hW.2.2.2.2 q ho
    rw [g2] at ha hce
    rw [qz_ad_in hW ho]
    have htt : ∃ t0 : Nat, (qz_tys X)[t0]? = some (X.2.1 ty, ty) := by
      rcases hce with h | h | h | h | h <;> subst h
      · exact ⟨0, rfl⟩
      · exact ⟨1, rfl⟩
      · exact ⟨2, rfl⟩
      · exact ⟨3, rfl⟩
      · exact ⟨4, rfl⟩
    obtain ⟨t0, ht0⟩ := htt
    rcases a with g | g | g | g | g
    · exact va_alen hx hb hSt.1 hW.1 q t0 ha ht0 rfl hd kk
    · exact va_alen hx hb hSt.1 hW.1 q t0 ha ht0 rfl hd kk
    · exact va_alen hx hb hSt.1 hW.1 q t0 ha ht0 rfl hd kk
    · exact va_alen hx hb hSt.1 hW.1 q t0 ha ht0 rfl hd kk
    · exact va_alen hx hb hSt.1 hW.1 q t0 ha ht0 rfl hd kk
  · obtain ⟨i, rfl, hi, hoc⟩ := qz_old_at hW ho (by rw [g2]; exact fun z => by cases z)
    rw [g2] at hoc
    rw [qz_ad_old]
    match i, hi, hoc with
    | 0, _, h => cases h; exact va_tlen hx hb hSt.2.2.2.2.2.2.2.2.2.1 hS rfl hd kk
    | 1, _, h => cases h; exact va_tlen hx hb hSt.2.2.2.2.2.2.2.2.2.2.1 hS rfl hd kk
    | 2, _, h => cases h; exact va_tlen hx hb hSt.2.2.2.2.2.2.2.2.2.2.2.1 hS rfl hd kk
    | 3, _, h => cases h
    | 4, _, h => cases h; exact va_tlen hx hb hSt.2.2.2.2.2.2.2.2.2.2.2.2.2.2.2 hS rfl hd kk
/-- the new cell's place: the first free one -/
theorem qz_place {q : Nat} {x : va_E} {H1 : Heap} (hP : va_P X.1 qz_cl (qz_ws X w ++ [(q, x)]) H1) (hD : va_D (qz_A X) (qz_ws X w ++ [(q, x)])) (hs : H1.size ≤ X.2.2.2.1 + w.2.1 + 1) : q = X.2.2.2.1 + w.2.1 := by
  have hlast : (qz_ws X w ++ [(q, x)])[w.2.1]? = some (q, x) := by
    rw [List.getElem?_append_right (by rw [qz_ws_len]; exact Nat.le_refl _), qz_ws_len]
    simp
  have h1 : X.2.2.2.1 ≤ q := hD.2 _ _ hlast
  have h2 : q < H1.size := (hP _ _ hlast).lt
  rcases Nat.lt_or_ge q (X.2.2.2.1 + w.2.1) with h | h
  · exfalso
    have hi : q - X.2.2.2.1 < w.2.1 := by omega
    have hat : (qz_ws X w ++ [(q, x)])[q - X.2.2.2.1]? = some (X.2.2.2.1 + (q - X.2.2.2.1), qz_e X (w.1 (q - X.2.2.2.1))) := by
      rw [List.getElem?_append_left (by rw [qz_ws_len]; exact hi)]
      exact qz_ws_at hi
    have := hD.1 _ _ _ _ hat hlast (by show X.2.2.2.1 + (q - X.2.2.2.1) = q; omega)
    omega
  · omega
theorem qz_Wd.push {H1 : Heap} {x : qz_E} {k : Nat} (h : qz_Wd X H w) (hc : qz_ce x) (ho : w.2.1 + 1 ≤ qz_old) (hP : va_P X.1 qz_cl (qz_ws X w ++ [(X.2.2.2.1 + w.2.1, qz_e X x)]) H1) : qz_Wd X H1 (qz_new w x k) := by
  refine ⟨by rw [qz_ws_push]; exact hP, ho, fun i hi hj => ?_, fun i => ?_, fun i hi => ?_⟩
  · show va_up w.1 w.2.1 x i = qz_jk
    have hi : w.2.1 + 1 ≤ i := hi
    unfold va_up
    rw [if_neg (by omega)]
    exact h.2.2.1 i (by omega) hj
  · show va_up w.1 w.2.1 x (qz_old + i) = _
    unfold va_up
    rw [if_neg (by omega)]
    exact h.2.2.2.1 i
  · show qz_ce (va_up w.1 w.2.1 x i)
    have hi : i < w.2.1 + 1 := hi
    unfold va_up
    by_cases hio : i = w.2.1
    · rw [if_pos hio]; exact hc
    · rw [if_neg hio]; exact h.2.2.2.2 i (by omega)
theorem qz_ad_new (ho : w.2.1 + 1 ≤ qz_old) : qz_ad X w.2.1 = X.2.2.2.1 + w.2.1 := by
  unfold qz_ad
  rw [if_pos (by omega)]
theorem qz_nclass {u : State} {c1 c2 : ClassId} {ty : FieldType} (h1 : va_RA u c1 ty) (h2 : va_RA u c2 ty) : c1 = c2 := by
  cases ty
  case object C =>
    obtain ⟨_, _, _, _, _, a⟩ := h1
    obtain ⟨_, _, _, _, _, b⟩ := h2
    exact Option.some.inj (a.symm.trans b)
  all_goals exact Option.some.inj (h1.symm.trans h2)
theorem qz_newa_ok {ty : ArrayType} {x : Int32} (hF : qz_Fr X l m p e R s mid args below meth c n0 s0 v0 w' Qf) (hW : qz_Wd X H w) (hS : va_S (qz_A X) s.heap H locs) (hn0 : n0 ≤ w.2.1) (hs0 : s0 ≤ w.2.2) (hold : w'.2.1 ≤ qz_old) (hgr : (qz_new w (qz_na ty x.toNatClampNeg) x.toNatClampNeg).2.1 ≤ w'.2.1 ∧ (qz_new w (qz_na ty x.toNatClampNeg) x.toNatClampNeg).2.2 ≤ w'.2.2) (g2 : ¬ (x < 0 ∨ 60000 < x.toNatClampNeg)) (g3 : qz_nt ty = true) (hd : decode (qz_in m).1.2.1 pc = .ok (.newarray ty, 2))
    (kk : ∀ (H1 : Heap), qz_Wd X H1 (qz_new w (qz_na ty x.toNatClampNeg) x.toNatClampNeg) → va_S (qz_A X) s.heap H1 locs → n0 ≤ (qz_new w (qz_na ty x.toNatClampNeg) x.toNatClampNeg).2.1 → s0 ≤ (qz_new w (qz_na ty x.toNatClampNeg) x.toNatClampNeg).2.2 → W p l e R s mid args below meth c H1 locs ((qz_new w (qz_na ty x.toNatClampNeg) x.toNatClampNeg).2.1 - n0) ((qz_new w (qz_na ty x.toNatClampNeg) x.toNatClampNeg).2.2 - s0) Q (F0 mid (pc + 2) ls (.ref (qz_ad X w.2.1) :: t.map (qz_v X)))) : W p l e R s mid args below meth c H locs (w.2.1 - n0) (w.2.2 - s0) Q (F0 mid pc ls (.int x :: t.map (qz_v X))) := by
  obtain ⟨⟨hx, hb, hr, hlk, hml, hown, hts, hSt, hin, hfr, hlo⟩, hz, hce, hsl, -⟩ := hF
  have e1 : w.2.1 + 1 ≤ w'.2.1 := hgr.1
  have e2 : w.2.2 + x.toNatClampNeg ≤ w'.2.2 := hgr.2
  have key : ∀ (ft : FieldType) (a0 : vp_A) (t0 : Nat), newarray.typeOf ty = ft → qz_na ty x.toNatClampNeg = .inl (ft, a0) → (qz_tys X)[t0]? = some (X.2.1 ft, ft) → qz_e X (.inl (ft, a0)) = .inl (X.2.1 ft, a0) → qz_ce (.inl (ft, a0)) → (∀ cA : ClassId, vp_cell cA a0 = arrV cA x.toNatClampNeg (fun _ => defaultValue ft)) → componentBytes ft ≤ 8 → Cond.arrayClass ft ∈ tables_1 → W p l e R s mid args below meth c H locs (w.2.1 - n0) (w.2.2 - s0) Q (F0 mid pc ls (.int x :: t.map (qz_v X))) := by
    intro ft a0 t0 k1 k2 k3 k4 k5 k6 k7 k8
    refine va_newa (ty := ft) (a0 := a0) (N' := x.toNatClampNeg) hx hb (by rw [k1]; exact hts _ (qz_tw k8 rfl)) k1 hSt.1 hW.1 qz_ws_D hS (fun q hq => by show X.2.2.2.1 ≤ q; omega) k6 (fun h => g2 (Or.inl h)) rfl (by
      have : ¬ 60000 < x.toNatClampNeg := fun h => g2 (Or.inr h)
      have := Nat.mul_le_mul (show x.toNatClampNeg ≤ 60000 by omega) k7
      omega) (by omega) (by omega) hd (fun q cA H1 hK1 hP1 hD1 hS1 => ?_)
    refine qz_size fun hsz => ?_
    have hcA : cA = X.2.1 ft := by
      have h1 := (hK1.2 (qz_tys X).length (cA, ft) (by simp)).2
      have h2 := (hSt.1.2 t0 _ k3).2
      exact qz_nclass h1 h2
    subst hcA
    have hq := qz_place hP1 hD1 (by omega)
    subst hq
    rw [k2] at kk
    have hW1 : qz_Wd X H1 (qz_new w (.inl (ft, a0)) x.toNatClampNeg) := hW.push k5 (by omega) (by rw [k4]; exact hP1)
    have := kk H1 hW1 hS1 (by show n0 ≤ w.2.1 + 1; omega) (by show s0 ≤ w.2.2 + _; omega)
    rw [qz_ad_new (by omega)] at this
    refine W.cs ?_ ?_ this
    · show w.2.1 - n0 + 1 = w.2.1 + 1 - n0; omega
    · show w.2.2 - s0 + x.toNatClampNeg = w.2.2 + x.toNatClampNeg - s0; omega
  cases ty
  case int => exact key .int _ 0 rfl rfl rfl rfl (Or.inl rfl) (fun cA => rfl) (by decide) qz_ar_int
  case long => exact key .long _ 1 rfl rfl rfl rfl (Or.inr (Or.inl rfl)) (fun cA => rfl) (by decide) qz_ar_long
  case byte => exact key .byte _ 2 rfl rfl rfl rfl (Or.inr (Or.inr (Or.inl rfl))) (fun cA => rfl) (by decide) qz_ar_byte
  all_goals cases g3
theorem qz_newq_ok {a j : Nat} {C : String} {x : Int32} (hF : qz_Fr X l m p e R s mid args below meth c n0 s0 v0 w' Qf) (hW : qz_Wd X H w) (hS : va_S (qz_A X) s.heap H locs) (hn0 : n0 ≤ w.2.1) (hs0 : s0 ≤ w.2.2) (hold : w'.2.1 ≤ qz_old) (hgr : (qz_new w (.inl (.object C, x.toNatClampNeg, .inr (.inr (.inr (.inr (fun _ => none)))))) x.toNatClampNeg).2.1 ≤ w'.2.1 ∧ (qz_new w (.inl (.object C, x.toNatClampNeg, .inr (.inr (.inr (.inr (fun _ => none)))))) x.toNatClampNeg).2.2 ≤ w'.2.2) (g2 : ¬ (x < 0 ∨ 60000 < x.toNatClampNeg)) (hk : ((qz_in m).2.2.2.1, j, a) ∈ qz_kc) (hk2 : a = 8 ∨ a = 6) (hC : qz_at qz_cn a = some C) (hd : decode (qz_in m).1.2.1 pc = .ok (.anewarray j, 3))
    (kk : ∀ (H1 : Heap), qz_Wd X H1 (qz_new w (.inl (.object C, x.toNatClampNeg, .inr (.inr (.inr (.inr (fun _ => none)))))) x.toNatClampNeg) → va_S (qz_A X) s.heap H1 locs → n0 ≤ (qz_new w (.inl (.object C, x.toNatClampNeg, .inr (.inr (.inr (.inr (fun _ => none)))))) x.toNatClampNeg).2.1 → s0 ≤ (qz_new w (.inl (.object C, x.toNatClampNeg, .inr (.inr (.inr (.inr (fun _ => none)))))) x.toNatClampNeg).2.2 → W p l e R s mid args below meth c H1 locs ((qz_new w (.inl (.object C, x.toNatClampNeg, .inr (.inr (.inr (.inr (fun _ => none)))))) x.toNatClampNeg).2.1 - n0) ((qz_new w (.inl (.object C, x.toNatClampNeg, .inr (.inr (.inr (.inr (fun _ => none)))))) x.toNatClampNeg).2.2 - s0) Q (F0 mid (pc + 3) ls (.ref (qz_ad X w.2.1) :: t.map (qz_v X)))) : W p l e R s mid args below meth c H locs (w.2.1 - n0) (w.2.2 - s0) Q (F0 mid pc ls (.int x :: t.map (qz_v X))) := by
  obtain ⟨⟨hx, hb, hr, hlk, hml, hown, hts, hSt, hin, hfr, hlo⟩, hz, hce, hsl, -⟩ := hF
  have e1 : w.2.1 + 1 ≤ w'.2.1 := hgr.1
  have e2 : w.2.2 + x.toNatClampNeg ≤ w'.2.2 := hgr.2
  have hkl := qz_kc_ok _ hk
  unfold qz_klw at hkl
  dsimp only at hkl
  rw [qz_gd_at _ _ _ hC] at hkl
  have hov : va_AO C s ∧ qz_ce (.inl (.object C, x.toNatClampNeg, .inr (.inr (.inr (.inr (fun _ => none)))))) ∧ ∃ t0 : Nat, (qz_tys X)[t0]? = some (X.2.1 (.object C), .object C) := by
    rcases hk2 with rfl | rfl
    · cases hC
      exact ⟨hSt.2.2.2.1, Or.inr (Or.inr (Or.inr (Or.inl rfl))), 3, rfl⟩
    · cases hC
      exact ⟨hSt.2.2.2.2.1, Or.inr (Or.inr (Or.inr (Or.inr rfl))), 4, rfl⟩
  obtain ⟨k1, k5, t0, k3⟩ := hov
  refine va_newq (C := C) (N' := x.toNatClampNeg) hx hb hown (hts _ (qz_tw hkl rfl)) k1 hSt.1 hW.1 qz_ws_D hS (fun q hq => by show X.2.2.2.1 ≤ q; omega) (fun h => g2 (Or.inl h)) rfl (by
    have : ¬ 60000 < x.toNatClampNeg := fun h => g2 (Or.inr h)
    omega) (by omega) (by omega) hd (fun q cA H1 hK1 hP1 hD1 hS1 => ?_)
  refine qz_size fun hsz => ?_
  have hcA : cA = X.2.1 (.object C) := by
    have h1 := (hK1.2 (qz_tys X).length (cA, .object C) (by simp)).2
    have h2 := (hSt.1.2 t0 _ k3).2
    exact qz_nclass h1 h2
  subst hcA
  have hq := qz_place hP1 hD1 (by omega)
  subst hq
  have hW1 : qz_Wd X H1 (qz_new w (.inl (.object C, x.toNatClampNeg, .inr (.inr (.inr (.inr (fun _ => none)))))) x.toNatClampNeg) := hW.push k5 (by omega) hP1
  have := kk H1 hW1 hS1 (by show n0 ≤ w.2.1 + 1; omega) (by show s0 ≤ w.2.2 + _; omega)
  rw [qz_ad_new (by omega)] at this
  refine W.cs ?_ ?_ this
  · show w.2.1 - n0 + 1 = w.2.1 + 1 - n0; omega
  · show w.2.2 - s0 + x.toNatClampNeg = w.2.2 + x.toNatClampNeg - s0; omega
theorem qz_nf_at : ∀ (tl : List Nat) (i k : Nat), tl[i]? = some k → (qz_nf tl)[i]? = some (if k = 0 then Value.int 0 else .null)
  | [], _, _, h => by simp at h
  | 0 :: l, 0, k, h => by simp at h; subst h; rfl
  | (q + 1) :: l, 0, k, h => by simp at h; subst h; rfl
  | 0 :: l, i + 1, k, h => by
    show (qz_nf l)[i]? = _
    exact qz_nf_at l i k (by simpa using h)
  | (q + 1) :: l, i + 1, k, h => by
    show (qz_nf l)[i]? = _
    exact qz_nf_at l i k (by simpa using h)
theorem qz_nf_len : ∀ (tl : List Nat), (qz_nf tl).length = tl.length
  | [] => rfl
  | 0 :: l => congrArg Nat.succ (qz_nf_len l)
  | (_ + 1) :: l => congrArg Nat.succ (qz_nf_len l)
theorem qz_new_ok {a b j : Nat} {tl : List Nat} (hF : qz_Fr X l m p e R s mid args below meth c n0 s0 v0 w' Qf) (hW : qz_Wd X H w) (hS : va_S (qz_A X) s.heap H locs) (hn0 : n0 ≤ w.2.1) (hs0 : s0 ≤ w.2.2) (hold : w'.2.1 ≤ qz_old) (hgr : (qz_new w (.inr (a, qz_nf tl)) b).2.1 ≤ w'.2.1 ∧ (qz_new w (.inr (a, qz_nf tl)) b).2.2 ≤ w'.2.2) (hk : ((qz_in m).2.2.2.1, j, a) ∈ qz_kc) (hk2 : b = (qz_gd (cT_0, cY_0, 0) qz_ct a).2.2) (hk3 : tl = (List.range b).map (fun x => qz_kd ((qz_gd (cT_0, cY_0, 0) qz_ct a).2.1 x))) (hk4 : a < 13) (hk5 : 7 ∉ tl) (hd : decode (qz_in m).1.2.1 pc = .ok (.new j, 3))
    (kk : ∀ (H1 : Heap), qz_Wd X H1 (qz_new w (.inr (a, qz_nf tl)) b) → va_S (qz_A X) s.heap H1 locs → n0 ≤ (qz_new w (.inr (a, qz_nf tl)) b).2.1 → s0 ≤ (qz_new w (.inr (a, qz_nf tl)) b).2.2 → W p l e R s mid args below meth c H1 locs ((qz_new w (.inr (a, qz_nf tl)) b).2.1 - n0) ((qz_new w (.inr (a, qz_nf tl)) b).2.2 - s0) Q (F0 mid (pc + 3) ls (.ref (qz_ad X w.2.1) :: t.map (qz_v X)))) : W p l e R s mid args below meth c H locs (w.2.1 - n0) (w.2.2 - s0) Q (F0 mid pc ls (t.map (qz_v X))) := by
  obtain ⟨⟨hx, hb, hr, hlk, hml, hown, hts, hSt, hin, hfr, hlo⟩, hz, hce, hsl, -⟩ := hF
  have e1 : w.2.1 + 1 ≤ w'.2.1 := hgr.1
  have e2 : w.2.2 + b ≤ w'.2.2 := hgr.2
  obtain ⟨r, hr1⟩ := qz_cl_lt hk4
  obtain ⟨ty, ⟨o1, o2, o3, o4, o5, o6, o7⟩, o8⟩ := qz_okcs a r hr1
  have hkl := qz_kc_ok _ hk
  unfold qz_klw at hkl
  dsimp only at hkl
  rw [qz_gd_at _ _ _ o1] at hkl
  have hb2 : b = r.2.2 := by rw [hk2, o8]
  rw [o8] at hk3
  dsimp only at hk3
  subst hb2
  have hlen : tl.length = r.2.2 := by rw [hk3]; simp
  refine va_new (ci := a) (fs := (qz_nf tl).map (qz_v X)) (C := r.1) (T := r.2.1) (N := r.2.2) hx hb hts (fun w hw => qz_tw (o2 w hw) (qz_lay_good hw)) ty o3 hown (hts _ (qz_tw hkl rfl)) (hts _ (qz_tw o6 rfl)) (hts _ (qz_tw o7 rfl)) hSt.1 hW.1 qz_ws_D hS (fun q hq => by show X.2.2.2.1 ≤ q; omega) hr1 (fun i hi => ?_) (by omega) (by omega) hd (fun q H1 hP1 hD1 hS1 => ?_)
  · have hti : tl[i]? = some (qz_kd (ty i)) := by rw [hk3]; simp [hi]
    have hn7 : qz_kd (ty i) ≠ 7 := fun h => hk5 (by rw [← h]; exact List.mem_of_getElem? hti)
    have hat := qz_nf_at tl i _ hti
    show _ = ((qz_nf tl).map (qz_v X)).getD i .null
    rw [List.getD_eq_getElem?_getD, List.getElem?_map, hat]
    cases hty : ty i <;> rw [hty] at hn7 <;> simp [qz_kd] at hn7 ⊢ <;> rfl
  · refine qz_size fun hsz => ?_
    have hq := qz_place hP1 hD1 (by omega)
    subst hq
    have hW1 : qz_Wd X H1 (qz_new w (.inr (a, qz_nf tl)) r.2.2) := hW.push (by show (qz_nf tl).length = _; rw [qz_nf_len, hlen, o8]) (by omega) hP1
    have := kk H1 hW1 hS1 (by show n0 ≤ w.2.1 + 1; omega) (by show s0 ≤ w.2.2 + _; omega)
    rw [qz_ad_new (by omega)] at this
    refine W.cs ?_ ?_ this
    · show w.2.1 - n0 + 1 = w.2.1 + 1 - n0; omega
    · show w.2.2 - s0 + r.2.2 = w.2.2 + r.2.2 - s0; omega
theorem qz_cat_sum (X : qz_X) : ∀ (t : List Value), ((t.map (qz_v X)).map fun v => v.category).sum = qz_cat t
  | [] => rfl
  | v :: t => by
    show (qz_v X v).category + ((t.map (qz_v X)).map fun v => v.category).sum = v.category + qz_cat t
    rw [qz_v_cat, qz_cat_sum X t]
theorem qz_obj_ok {j q : Nat} {L : qz_L} (hF : qz_Fr X l m p e R s mid args below meth c n0 s0 v0 w' Qf) (hL : lv_has ls c.maxLocals (qz_pl X 0 L)) (hk : ((qz_in m).2.2.2.1, j) ∈ qz_oi ∧ 40 ≤ (qz_in m).2.2.1 ∧ 1 ≤ (qz_in m).2.1) (hc8 : qz_cat t ≤ 8) (hd : decode (qz_in m).1.2.1 pc = .ok (.invokespecial j, 3))
    (kk : W p l e R s mid args below meth c H locs cells slots Q (F0 mid (pc + 3) ls (t.map (qz_v X)))) : W p l e R s mid args below meth c H locs cells slots Q (F0 mid pc ls (.ref (qz_ad X q) :: t.map (qz_v X))) := by
  obtain ⟨⟨hx, hb, hr, hlk, hml, hown, hts, hSt, hin, hfr, hlo⟩, -⟩ := hF
  refine W.objInit hx hb hown (hts _ (qz_tw (qz_oi_ok _ hk.1) rfl)) (hts _ (qz_tw qz_oi2.1 rfl)) (hts _ (qz_tw qz_oi2.2 rfl)) (a := qz_ad X q) (rest := t.map (qz_v X)) rfl hL.1 rfl hd (by omega) ?_ kk
  rw [qz_cat_sum]
  show 2 * 0 + qz_cat t + 12 ≤ R.locals
  omega
theorem qz_copy_ok {j o q n1 n2 : Nat} {g g1 : Nat → Int32} {sp dp z : Int32} {L : qz_L} (hF : qz_Fr X l m p e R s mid args below meth c n0 s0 v0 w' Qf) (hW : qz_Wd X H w) (hS : va_S (qz_A X) s.heap H locs) (hL : lv_has ls c.maxLocals (qz_pl X 0 L)) (hk : ((qz_in m).2.2.2.1, j) ∈ qz_ac ∧ 40 ≤ (qz_in m).2.2.1 ∧ 1 ≤ (qz_in m).2.1) (hc8 : qz_cat t ≤ 8) (e1 : w.1 o = .inl (.int, n1, .inl g)) (e2 : w.1 q = .inl (.int, n2, .inl g1)) (e3 : ¬ sp < 0 ∧ ¬ dp < 0 ∧ ¬ z < 0 ∧ sp.toNatClampNeg + z.toNatClampNeg ≤ n1 ∧ dp.toNatClampNeg + z.toNatClampNeg ≤ n2) (hd : decode (qz_in m).1.2.1 pc = .ok (.invokestatic j, 3))
    (kk : ∀ (H1 : Heap) (locs1 : List Loc), qz_Wd X H1 (va_up w.1 q (.inl (.int, n2, .inl (va_cpy g g1 sp.toNatClampNeg dp.toNatClampNeg z.toNatClampNeg))), w.2) → va_S (qz_A X) s.heap H1 locs1 → W p l e R s mid args below meth c H1 locs1 cells slots Q (F0 mid (pc + 3) ls (t.map (qz_v X)))) : W p l e R s mid args below meth c H locs cells slots Q (F0 mid pc ls (.int z :: .int dp :: .ref (qz_ad X q) :: .int sp :: .ref (qz_ad X o) :: t.map (qz_v X))) := by
  obtain ⟨⟨hx, hb, hr, hlk, hml, hown, hts, hSt, hin, hfr, hlo⟩, -⟩ := hF
  have ho := qz_arr_in hW e1 ⟨by decide, by decide⟩
  have hq := qz_arr_in hW e2 ⟨by decide, by decide⟩
  have ha := qz_ws_at (X := X) ho
  have hb2 := qz_ws_at (X := X) hq
  rw [e1] at ha
  rw [e2] at hb2
  rw [qz_ad_in hW ho, qz_ad_in hW hq]
  refine va_copyi (ty := .int) hx hb hL.1.symm hown (hts _ (qz_tw (qz_ac_ok _ hk.1) rfl)) (hts _ (qz_tw qz_ac2.1 rfl)) (hts _ (qz_tw qz_ac2.2.1 rfl)) (hts _ (qz_tw qz_ac2.2.2 rfl)) hSt.1 hW.1 qz_ws_D hS o q 0 0 ha hb2 rfl rfl rfl e3.1 e3.2.1 e3.2.2.1 e3.2.2.2.1 e3.2.2.2.2 (fun _ _ => rfl) (by omega) ?_ hd (fun H1 locs1 hP1 _ hS1 => kk H1 locs1 (hW.up hq (Or.inl rfl) hP1) hS1)
  rw [qz_cat_sum]
  show qz_cat t + (7 + 11) ≤ R.locals
  omega
end QZR
end
