section
-- ===== PART A: goes FIRST, ahead of the names: the tables' words, and 'selects' of the private methods out of them =====
/-- a private method of a class that the tables say can be made, by its rows of tables_1 -/
def lw_okq (q : MethodName × Nat) : Prop := (q.1.cls ≠ "java/lang/invoke/MethodHandle" ∧ q.1.cls ≠ "java/lang/invoke/VarHandle") ∧ Cond.instantiable q.1.cls q.2 ∈ tables_1 ∧ Cond.privateMethod q.1 ∈ tables_1 ∧ Cond.instanceMethod q.1 ∈ tables_1
theorem lw_p0 : lw_okq (⟨"TinStencils", "feedNumber", "(I)V"⟩, 17) := ⟨⟨by decide +kernel, by decide +kernel⟩, List.mem_of_getElem? (i := 23) (by decide +kernel), List.mem_of_getElem? (i := 462) (by decide +kernel), List.mem_of_getElem? (i := 463) (by decide +kernel)⟩
theorem lw_p1 : lw_okq (⟨"TinStencils$Tokens", "lengthAt", "(II)I"⟩, 6) := ⟨⟨by decide +kernel, by decide +kernel⟩, List.mem_of_getElem? (i := 184) (by decide +kernel), List.mem_of_getElem? (i := 481) (by decide +kernel), List.mem_of_getElem? (i := 482) (by decide +kernel)⟩
theorem lw_p2 : lw_okq (⟨"TinStencils$Tokens", "addToken", "(II)V"⟩, 6) := ⟨⟨by decide +kernel, by decide +kernel⟩, List.mem_of_getElem? (i := 184) (by decide +kernel), List.mem_of_getElem? (i := 488) (by decide +kernel), List.mem_of_getElem? (i := 489) (by decide +kernel)⟩
theorem lw_p3 : lw_okq (⟨"TinStencils$Tokens", "keywordAt", "(II)I"⟩, 6) := ⟨⟨by decide +kernel, by decide +kernel⟩, List.mem_of_getElem? (i := 184) (by decide +kernel), List.mem_of_getElem? (i := 492) (by decide +kernel), List.mem_of_getElem? (i := 493) (by decide +kernel)⟩
theorem lw_p4 : lw_okq (⟨"TinStencils$Tokens", "isKeyword", "(III)Z"⟩, 6) := ⟨⟨by decide +kernel, by decide +kernel⟩, List.mem_of_getElem? (i := 184) (by decide +kernel), List.mem_of_getElem? (i := 545) (by decide +kernel), List.mem_of_getElem? (i := 546) (by decide +kernel)⟩
theorem lw_p5 : lw_okq (⟨"TinStencils$Tokens", "numberAt", "(II)I"⟩, 6) := ⟨⟨by decide +kernel, by decide +kernel⟩, List.mem_of_getElem? (i := 184) (by decide +kernel), List.mem_of_getElem? (i := 549) (by decide +kernel), List.mem_of_getElem? (i := 550) (by decide +kernel)⟩
theorem lw_p6 : lw_okq (⟨"TinStencils$Teller", "tellSize", "(LTinStencils$Sheet;)Z"⟩, 8) := ⟨⟨by decide +kernel, by decide +kernel⟩, List.mem_of_getElem? (i := 178) (by decide +kernel), List.mem_of_getElem? (i := 553) (by decide +kernel), List.mem_of_getElem? (i := 554) (by decide +kernel)⟩
theorem lw_p7 : lw_okq (⟨"TinStencils$Teller", "takeKeyword", "(I)Z"⟩, 8) := ⟨⟨by decide +kernel, by decide +kernel⟩, List.mem_of_getElem? (i := 178) (by decide +kernel), List.mem_of_getElem? (i := 557) (by decide +kernel), List.mem_of_getElem? (i := 558) (by decide +kernel)⟩
theorem lw_p8 : lw_okq (⟨"TinStencils$Teller", "takeNumber", "(II)Z"⟩, 8) := ⟨⟨by decide +kernel, by decide +kernel⟩, List.mem_of_getElem? (i := 178) (by decide +kernel), List.mem_of_getElem? (i := 561) (by decide +kernel), List.mem_of_getElem? (i := 562) (by decide +kernel)⟩
theorem lw_p9 : lw_okq (⟨"TinStencils$Teller", "takeSign", "(I)Z"⟩, 8) := ⟨⟨by decide +kernel, by decide +kernel⟩, List.mem_of_getElem? (i := 178) (by decide +kernel), List.mem_of_getElem? (i := 577) (by decide +kernel), List.mem_of_getElem? (i := 578) (by decide +kernel)⟩
theorem lw_p10 : lw_okq (⟨"TinStencils$Teller", "tellStatement", "(LTinStencils$Sheet;)Z"⟩, 8) := ⟨⟨by decide +kernel, by decide +kernel⟩, List.mem_of_getElem? (i := 178) (by decide +kernel), List.mem_of_getElem? (i := 581) (by decide +kernel), List.mem_of_getElem? (i := 582) (by decide +kernel)⟩
theorem lw_p11 : lw_okq (⟨"TinStencils$Teller", "tellRow", "(LTinStencils$Sheet;)Z"⟩, 8) := ⟨⟨by decide +kernel, by decide +kernel⟩, List.mem_of_getElem? (i := 178) (by decide +kernel), List.mem_of_getElem? (i := 585) (by decide +kernel), List.mem_of_getElem? (i := 586) (by decide +kernel)⟩
theorem lw_p12 : lw_okq (⟨"TinStencils$Teller", "takeSquares", "(II)Z"⟩, 8) := ⟨⟨by decide +kernel, by decide +kernel⟩, List.mem_of_getElem? (i := 178) (by decide +kernel), List.mem_of_getElem? (i := 589) (by decide +kernel), List.mem_of_getElem? (i := 590) (by decide +kernel)⟩
theorem lw_p13 : lw_okq (⟨"TinStencils$Teller", "tellShape", "(LTinStencils$Sheet;)Z"⟩, 8) := ⟨⟨by decide +kernel, by decide +kernel⟩, List.mem_of_getElem? (i := 178) (by decide +kernel), List.mem_of_getElem? (i := 593) (by decide +kernel), List.mem_of_getElem? (i := 594) (by decide +kernel)⟩
theorem lw_p14 : lw_okq (⟨"TinStencils$Teller", "nameHere", "()J"⟩, 8) := ⟨⟨by decide +kernel, by decide +kernel⟩, List.mem_of_getElem? (i := 178) (by decide +kernel), List.mem_of_getElem? (i := 597) (by decide +kernel), List.mem_of_getElem? (i := 598) (by decide +kernel)⟩
theorem lw_p15 : lw_okq (⟨"TinStencils$Teller", "shapeNamed", "(JLTinStencils$Sheet;)I"⟩, 8) := ⟨⟨by decide +kernel, by decide +kernel⟩, List.mem_of_getElem? (i := 178) (by decide +kernel), List.mem_of_getElem? (i := 603) (by decide +kernel), List.mem_of_getElem? (i := 604) (by decide +kernel)⟩
def lw_privs_1 : List (MethodName × Nat) := [(⟨"TinStencils", "feedNumber", "(I)V"⟩, 17), (⟨"TinStencils$Tokens", "lengthAt", "(II)I"⟩, 6), (⟨"TinStencils$Tokens", "addToken", "(II)V"⟩, 6), (⟨"TinStencils$Tokens", "keywordAt", "(II)I"⟩, 6), (⟨"TinStencils$Tokens", "isKeyword", "(III)Z"⟩, 6), (⟨"TinStencils$Tokens", "numberAt", "(II)I"⟩, 6), (⟨"TinStencils$Teller", "tellSize", "(LTinStencils$Sheet;)Z"⟩, 8), (⟨"TinStencils$Teller", "takeKeyword", "(I)Z"⟩, 8), (⟨"TinStencils$Teller", "takeNumber", "(II)Z"⟩, 8), (⟨"TinStencils$Teller", "takeSign", "(I)Z"⟩, 8), (⟨"TinStencils$Teller", "tellStatement", "(LTinStencils$Sheet;)Z"⟩, 8), (⟨"TinStencils$Teller", "tellRow", "(LTinStencils$Sheet;)Z"⟩, 8), (⟨"TinStencils$Teller", "takeSquares", "(II)Z"⟩, 8), (⟨"TinStencils$Teller", "tellShape", "(LTinStencils$Sheet;)Z"⟩, 8), (⟨"TinStencils$Teller", "nameHere", "()J"⟩, 8), (⟨"TinStencils$Teller", "shapeNamed", "(JLTinStencils$Sheet;)I"⟩, 8)]
theorem lw_r1 : ∀ q ∈ lw_privs_1, lw_okq q := List.forall_mem_cons.mpr ⟨lw_p0, List.forall_mem_cons.mpr ⟨lw_p1, List.forall_mem_cons.mpr ⟨lw_p2, List.forall_mem_cons.mpr ⟨lw_p3, List.forall_mem_cons.mpr ⟨lw_p4, List.forall_mem_cons.mpr ⟨lw_p5, List.forall_mem_cons.mpr ⟨lw_p6, List.forall_mem_cons.mpr ⟨lw_p7, List.forall_mem_cons.mpr ⟨lw_p8, List.forall_mem_cons.mpr ⟨lw_p9, List.forall_mem_cons.mpr ⟨lw_p10, List.forall_mem_cons.mpr ⟨lw_p11, List.forall_mem_cons.mpr ⟨lw_p12, List.forall_mem_cons.mpr ⟨lw_p13, List.forall_mem_cons.mpr ⟨lw_p14, List.forall_mem_cons.mpr ⟨lw_p15, fun _ h => absurd h List.not_mem_nil⟩⟩⟩⟩⟩⟩⟩⟩⟩⟩⟩⟩⟩⟩⟩⟩
theorem lw_p16 : lw_okq (⟨"TinStencils$Teller", "tellPut", "(LTinStencils$Sheet;)Z"⟩, 8) := ⟨⟨by decide +kernel, by decide +kernel⟩, List.mem_of_getElem? (i := 178) (by decide +kernel), List.mem_of_getElem? (i := 615) (by decide +kernel), List.mem_of_getElem? (i := 616) (by decide +kernel)⟩
theorem lw_p17 : lw_okq (⟨"TinStencils$Teller", "takePlace", "(LTinStencils$Sheet;)Z"⟩, 8) := ⟨⟨by decide +kernel, by decide +kernel⟩, List.mem_of_getElem? (i := 178) (by decide +kernel), List.mem_of_getElem? (i := 619) (by decide +kernel), List.mem_of_getElem? (i := 620) (by decide +kernel)⟩
theorem lw_p18 : lw_okq (⟨"TinStencils$Teller", "tellHold", "(LTinStencils$Sheet;)Z"⟩, 8) := ⟨⟨by decide +kernel, by decide +kernel⟩, List.mem_of_getElem? (i := 178) (by decide +kernel), List.mem_of_getElem? (i := 641) (by decide +kernel), List.mem_of_getElem? (i := 642) (by decide +kernel)⟩
theorem lw_p19 : lw_okq (⟨"TinStencils$Teller", "takeSide", "()Z"⟩, 8) := ⟨⟨by decide +kernel, by decide +kernel⟩, List.mem_of_getElem? (i := 178) (by decide +kernel), List.mem_of_getElem? (i := 645) (by decide +kernel), List.mem_of_getElem? (i := 646) (by decide +kernel)⟩
theorem lw_p20 : lw_okq (⟨"TinStencils$Teller", "tellWorth", "(LTinStencils$Sheet;)Z"⟩, 8) := ⟨⟨by decide +kernel, by decide +kernel⟩, List.mem_of_getElem? (i := 178) (by decide +kernel), List.mem_of_getElem? (i := 649) (by decide +kernel), List.mem_of_getElem? (i := 650) (by decide +kernel)⟩
theorem lw_p21 : lw_okq (⟨"TinStencils$Teller", "tellBrush", "(LTinStencils$Sheet;)Z"⟩, 8) := ⟨⟨by decide +kernel, by decide +kernel⟩, List.mem_of_getElem? (i := 178) (by decide +kernel), List.mem_of_getElem? (i := 657) (by decide +kernel), List.mem_of_getElem? (i := 658) (by decide +kernel)⟩
theorem lw_p22 : lw_okq (⟨"TinStencils$Teller", "tellWear", "(LTinStencils$Sheet;)Z"⟩, 8) := ⟨⟨by decide +kernel, by decide +kernel⟩, List.mem_of_getElem? (i := 178) (by decide +kernel), List.mem_of_getElem? (i := 661) (by decide +kernel), List.mem_of_getElem? (i := 662) (by decide +kernel)⟩
theorem lw_p23 : lw_okq (⟨"TinStencils$Teller", "tellBridge", "(LTinStencils$Sheet;)Z"⟩, 8) := ⟨⟨by decide +kernel, by decide +kernel⟩, List.mem_of_getElem? (i := 178) (by decide +kernel), List.mem_of_getElem? (i := 665) (by decide +kernel), List.mem_of_getElem? (i := 666) (by decide +kernel)⟩
theorem lw_p24 : lw_okq (⟨"TinStencils$Teller", "tellStraight", "(LTinStencils$Sheet;)Z"⟩, 8) := ⟨⟨by decide +kernel, by decide +kernel⟩, List.mem_of_getElem? (i := 178) (by decide +kernel), List.mem_of_getElem? (i := 669) (by decide +kernel), List.mem_of_getElem? (i := 670) (by decide +kernel)⟩
theorem lw_p25 : lw_okq (⟨"TinStencils$Teller", "tellBroad", "(LTinStencils$Sheet;)Z"⟩, 8) := ⟨⟨by decide +kernel, by decide +kernel⟩, List.mem_of_getElem? (i := 178) (by decide +kernel), List.mem_of_getElem? (i := 689) (by decide +kernel), List.mem_of_getElem? (i := 690) (by decide +kernel)⟩
theorem lw_p26 : lw_okq (⟨"TinStencils$Teller", "tellCorner", "(LTinStencils$Sheet;)Z"⟩, 8) := ⟨⟨by decide +kernel, by decide +kernel⟩, List.mem_of_getElem? (i := 178) (by decide +kernel), List.mem_of_getElem? (i := 695) (by decide +kernel), List.mem_of_getElem? (i := 696) (by decide +kernel)⟩
theorem lw_p27 : lw_okq (⟨"TinStencils$Teller", "tellTold", "(LTinStencils$Sheet;)Z"⟩, 8) := ⟨⟨by decide +kernel, by decide +kernel⟩, List.mem_of_getElem? (i := 178) (by decide +kernel), List.mem_of_getElem? (i := 699) (by decide +kernel), List.mem_of_getElem? (i := 700) (by decide +kernel)⟩
theorem lw_p28 : lw_okq (⟨"TinStencils", "toldSheet", "(I)LTinStencils$Sheet;"⟩, 17) := ⟨⟨by decide +kernel, by decide +kernel⟩, List.mem_of_getElem? (i := 23) (by decide +kernel), List.mem_of_getElem? (i := 735) (by decide +kernel), List.mem_of_getElem? (i := 736) (by decide +kernel)⟩
theorem lw_p29 : lw_okq (⟨"TinStencils$Hanging", "pull", "(II)Z"⟩, 10) := ⟨⟨by decide +kernel, by decide +kernel⟩, List.mem_of_getElem? (i := 240) (by decide +kernel), List.mem_of_getElem? (i := 770) (by decide +kernel), List.mem_of_getElem? (i := 771) (by decide +kernel)⟩
theorem lw_p30 : lw_okq (⟨"TinStencils", "findPieces", "(LTinStencils$Sheet;I)V"⟩, 17) := ⟨⟨by decide +kernel, by decide +kernel⟩, List.mem_of_getElem? (i := 23) (by decide +kernel), List.mem_of_getElem? (i := 774) (by decide +kernel), List.mem_of_getElem? (i := 775) (by decide +kernel)⟩
theorem lw_p31 : lw_okq (⟨"TinStencils$Parts", "gather", "(I[I)V"⟩, 7) := ⟨⟨by decide +kernel, by decide +kernel⟩, List.mem_of_getElem? (i := 282) (by decide +kernel), List.mem_of_getElem? (i := 786) (by decide +kernel), List.mem_of_getElem? (i := 787) (by decide +kernel)⟩
def lw_privs_2 : List (MethodName × Nat) := [(⟨"TinStencils$Teller", "tellPut", "(LTinStencils$Sheet;)Z"⟩, 8), (⟨"TinStencils$Teller", "takePlace", "(LTinStencils$Sheet;)Z"⟩, 8), (⟨"TinStencils$Teller", "tellHold", "(LTinStencils$Sheet;)Z"⟩, 8), (⟨"TinStencils$Teller", "takeSide", "()Z"⟩, 8), (⟨"TinStencils$Teller", "tellWorth", "(LTinStencils$Sheet;)Z"⟩, 8), (⟨"TinStencils$Teller", "tellBrush", "(LTinStencils$Sheet;)Z"⟩, 8), (⟨"TinStencils$Teller", "tellWear", "(LTinStencils$Sheet;)Z"⟩, 8), (⟨"TinStencils$Teller", "tellBridge", "(LTinStencils$Sheet;)Z"⟩, 8), (⟨"TinStencils$Teller", "tellStraight", "(LTinStencils$Sheet;)Z"⟩, 8), (⟨"TinStencils$Teller", "tellBroad", "(LTinStencils$Sheet;)Z"⟩, 8), (⟨"TinStencils$Teller", "tellCorner", "(LTinStencils$Sheet;)Z"⟩, 8), (⟨"TinStencils$Teller", "tellTold", "(LTinStencils$Sheet;)Z"⟩, 8), (⟨"TinStencils", "toldSheet", "(I)LTinStencils$Sheet;"⟩, 17), (⟨"TinStencils$Hanging", "pull", "(II)Z"⟩, 10), (⟨"TinStencils", "findPieces", "(LTinStencils$Sheet;I)V"⟩, 17), (⟨"TinStencils$Parts", "gather", "(I[I)V"⟩, 7)]
theorem lw_r2 : ∀ q ∈ lw_privs_2, lw_okq q := List.forall_mem_cons.mpr ⟨lw_p16, List.forall_mem_cons.mpr ⟨lw_p17, List.forall_mem_cons.mpr ⟨lw_p18, List.forall_mem_cons.mpr ⟨lw_p19, List.forall_mem_cons.mpr ⟨lw_p20, List.forall_mem_cons.mpr ⟨lw_p21, List.forall_mem_cons.mpr ⟨lw_p22, List.forall_mem_cons.mpr ⟨lw_p23, List.forall_mem_cons.mpr ⟨lw_p24, List.forall_mem_cons.mpr ⟨lw_p25, List.forall_mem_cons.mpr ⟨lw_p26, List.forall_mem_cons.mpr ⟨lw_p27, List.forall_mem_cons.mpr ⟨lw_p28, List.forall_mem_cons.mpr ⟨lw_p29, List.forall_mem_cons.mpr ⟨lw_p30, List.forall_mem_cons.mpr ⟨lw_p31, fun _ h => absurd h List.not_mem_nil⟩⟩⟩⟩⟩⟩⟩⟩⟩⟩⟩⟩⟩⟩⟩⟩
theorem lw_p32 : lw_okq (⟨"TinStencils", "walkHeld", "(LTinStencils$Sheet;)V"⟩, 17) := ⟨⟨by decide +kernel, by decide +kernel⟩, List.mem_of_getElem? (i := 23) (by decide +kernel), List.mem_of_getElem? (i := 795) (by decide +kernel), List.mem_of_getElem? (i := 796) (by decide +kernel)⟩
theorem lw_p33 : lw_okq (⟨"TinStencils$Hanging", "follow", "(I[I[I)V"⟩, 10) := ⟨⟨by decide +kernel, by decide +kernel⟩, List.mem_of_getElem? (i := 240) (by decide +kernel), List.mem_of_getElem? (i := 806) (by decide +kernel), List.mem_of_getElem? (i := 807) (by decide +kernel)⟩
theorem lw_p34 : lw_okq (⟨"TinStencils$Hanging", "enter", "(II[I)V"⟩, 10) := ⟨⟨by decide +kernel, by decide +kernel⟩, List.mem_of_getElem? (i := 240) (by decide +kernel), List.mem_of_getElem? (i := 810) (by decide +kernel), List.mem_of_getElem? (i := 811) (by decide +kernel)⟩
theorem lw_p35 : lw_okq (⟨"TinStencils$Hanging", "leave", "(I)I"⟩, 10) := ⟨⟨by decide +kernel, by decide +kernel⟩, List.mem_of_getElem? (i := 240) (by decide +kernel), List.mem_of_getElem? (i := 814) (by decide +kernel), List.mem_of_getElem? (i := 815) (by decide +kernel)⟩
theorem lw_p36 : lw_okq (⟨"TinStencils$Parts", "borderRow", "(I)I"⟩, 7) := ⟨⟨by decide +kernel, by decide +kernel⟩, List.mem_of_getElem? (i := 282) (by decide +kernel), List.mem_of_getElem? (i := 838) (by decide +kernel), List.mem_of_getElem? (i := 839) (by decide +kernel)⟩
theorem lw_p37 : lw_okq (⟨"TinStencils", "joinable", "(LTinStencils$Sheet;)Z"⟩, 17) := ⟨⟨by decide +kernel, by decide +kernel⟩, List.mem_of_getElem? (i := 23) (by decide +kernel), List.mem_of_getElem? (i := 914) (by decide +kernel), List.mem_of_getElem? (i := 915) (by decide +kernel)⟩
theorem lw_p38 : lw_okq (⟨"TinStencils$Joining", "setPrices", "(LTinStencils$Sheet;Z)V"⟩, 4) := ⟨⟨by decide +kernel, by decide +kernel⟩, List.mem_of_getElem? (i := 316) (by decide +kernel), List.mem_of_getElem? (i := 923) (by decide +kernel), List.mem_of_getElem? (i := 924) (by decide +kernel)⟩
theorem lw_p39 : lw_okq (⟨"TinStencils$Joining", "begin", "(ILTinStencils$Parts;)V"⟩, 4) := ⟨⟨by decide +kernel, by decide +kernel⟩, List.mem_of_getElem? (i := 316) (by decide +kernel), List.mem_of_getElem? (i := 929) (by decide +kernel), List.mem_of_getElem? (i := 930) (by decide +kernel)⟩
theorem lw_p40 : lw_okq (⟨"TinStencils$Joining", "merge", "(II)V"⟩, 4) := ⟨⟨by decide +kernel, by decide +kernel⟩, List.mem_of_getElem? (i := 316) (by decide +kernel), List.mem_of_getElem? (i := 934) (by decide +kernel), List.mem_of_getElem? (i := 935) (by decide +kernel)⟩
theorem lw_p41 : lw_okq (⟨"TinStencils$Joining", "relax", "(I)V"⟩, 4) := ⟨⟨by decide +kernel, by decide +kernel⟩, List.mem_of_getElem? (i := 316) (by decide +kernel), List.mem_of_getElem? (i := 938) (by decide +kernel), List.mem_of_getElem? (i := 939) (by decide +kernel)⟩
theorem lw_p42 : lw_okq (⟨"TinStencils$Joining", "relaxSquare", "(II)Z"⟩, 4) := ⟨⟨by decide +kernel, by decide +kernel⟩, List.mem_of_getElem? (i := 316) (by decide +kernel), List.mem_of_getElem? (i := 942) (by decide +kernel), List.mem_of_getElem? (i := 943) (by decide +kernel)⟩
theorem lw_p43 : lw_okq (⟨"TinStencils$Joining", "joinedToFrame", "(I)I"⟩, 4) := ⟨⟨by decide +kernel, by decide +kernel⟩, List.mem_of_getElem? (i := 316) (by decide +kernel), List.mem_of_getElem? (i := 952) (by decide +kernel), List.mem_of_getElem? (i := 953) (by decide +kernel)⟩
theorem lw_p44 : lw_okq (⟨"TinStencils$Choosing", "weigh", "(LTinStencils$Sheet;LTinStencils$Sheet;)V"⟩, 3) := ⟨⟨by decide +kernel, by decide +kernel⟩, List.mem_of_getElem? (i := 336) (by decide +kernel), List.mem_of_getElem? (i := 972) (by decide +kernel), List.mem_of_getElem? (i := 973) (by decide +kernel)⟩
theorem lw_p45 : lw_okq (⟨"TinStencils$Choosing", "isBetter", "(II)Z"⟩, 3) := ⟨⟨by decide +kernel, by decide +kernel⟩, List.mem_of_getElem? (i := 336) (by decide +kernel), List.mem_of_getElem? (i := 978) (by decide +kernel), List.mem_of_getElem? (i := 979) (by decide +kernel)⟩
theorem lw_p46 : lw_okq (⟨"TinStencils$Choosing", "holds", "(ILTinStencils$Sheet;LTinStencils$Hanging;Z)Z"⟩, 3) := ⟨⟨by decide +kernel, by decide +kernel⟩, List.mem_of_getElem? (i := 336) (by decide +kernel), List.mem_of_getElem? (i := 987) (by decide +kernel), List.mem_of_getElem? (i := 988) (by decide +kernel)⟩
theorem lw_p47 : lw_okq (⟨"TinStencils$Choosing", "allHangs", "(ILTinStencils$Sheet;LTinStencils$Hanging;)Z"⟩, 3) := ⟨⟨by decide +kernel, by decide +kernel⟩, List.mem_of_getElem? (i := 336) (by decide +kernel), List.mem_of_getElem? (i := 991) (by decide +kernel), List.mem_of_getElem? (i := 992) (by decide +kernel)⟩
def lw_privs_3 : List (MethodName × Nat) := [(⟨"TinStencils", "walkHeld", "(LTinStencils$Sheet;)V"⟩, 17), (⟨"TinStencils$Hanging", "follow", "(I[I[I)V"⟩, 10), (⟨"TinStencils$Hanging", "enter", "(II[I)V"⟩, 10), (⟨"TinStencils$Hanging", "leave", "(I)I"⟩, 10), (⟨"TinStencils$Parts", "borderRow", "(I)I"⟩, 7), (⟨"TinStencils", "joinable", "(LTinStencils$Sheet;)Z"⟩, 17), (⟨"TinStencils$Joining", "setPrices", "(LTinStencils$Sheet;Z)V"⟩, 4), (⟨"TinStencils$Joining", "begin", "(ILTinStencils$Parts;)V"⟩, 4), (⟨"TinStencils$Joining", "merge", "(II)V"⟩, 4), (⟨"TinStencils$Joining", "relax", "(I)V"⟩, 4), (⟨"TinStencils$Joining", "relaxSquare", "(II)Z"⟩, 4), (⟨"TinStencils$Joining", "joinedToFrame", "(I)I"⟩, 4), (⟨"TinStencils$Choosing", "weigh", "(LTinStencils$Sheet;LTinStencils$Sheet;)V"⟩, 3), (⟨"TinStencils$Choosing", "isBetter", "(II)Z"⟩, 3), (⟨"TinStencils$Choosing", "holds", "(ILTinStencils$Sheet;LTinStencils$Hanging;Z)Z"⟩, 3), (⟨"TinStencils$Choosing", "allHangs", "(ILTinStencils$Sheet;LTinStencils$Hanging;)Z"⟩, 3)]
theorem lw_r3 : ∀ q ∈ lw_privs_3, lw_okq q := List.forall_mem_cons.mpr ⟨lw_p32, List.forall_mem_cons.mpr ⟨lw_p33, List.forall_mem_cons.mpr ⟨lw_p34, List.forall_mem_cons.mpr ⟨lw_p35, List.forall_mem_cons.mpr ⟨lw_p36, List.forall_mem_cons.mpr ⟨lw_p37, List.forall_mem_cons.mpr ⟨lw_p38, List.forall_mem_cons.mpr ⟨lw_p39, List.forall_mem_cons.mpr ⟨lw_p40, List.forall_mem_cons.mpr ⟨lw_p41, List.forall_mem_cons.mpr ⟨lw_p42, List.forall_mem_cons.mpr ⟨lw_p43, List.forall_mem_cons.mpr ⟨lw_p44, List.forall_mem_cons.mpr ⟨lw_p45, List.forall_mem_cons.mpr ⟨lw_p46, List.forall_mem_cons.mpr ⟨lw_p47, fun _ h => absurd h List.not_mem_nil⟩⟩⟩⟩⟩⟩⟩⟩⟩⟩⟩⟩⟩⟩⟩⟩
theorem lw_p48 : lw_okq (⟨"TinStencils", "sagOf", "(LTinStencils$Sheet;II)I"⟩, 17) := ⟨⟨by decide +kernel, by decide +kernel⟩, List.mem_of_getElem? (i := 23) (by decide +kernel), List.mem_of_getElem? (i := 1007) (by decide +kernel), List.mem_of_getElem? (i := 1008) (by decide +kernel)⟩
theorem lw_p49 : lw_okq (⟨"TinStencils", "walkFrom", "(LTinStencils$Sheet;II)V"⟩, 17) := ⟨⟨by decide +kernel, by decide +kernel⟩, List.mem_of_getElem? (i := 23) (by decide +kernel), List.mem_of_getElem? (i := 1011) (by decide +kernel), List.mem_of_getElem? (i := 1012) (by decide +kernel)⟩
theorem lw_p50 : lw_okq (⟨"TinStencils", "sagsAbove", "(LTinStencils$Sheet;III)I"⟩, 17) := ⟨⟨by decide +kernel, by decide +kernel⟩, List.mem_of_getElem? (i := 23) (by decide +kernel), List.mem_of_getElem? (i := 1016) (by decide +kernel), List.mem_of_getElem? (i := 1017) (by decide +kernel)⟩
theorem lw_p51 : lw_okq (⟨"TinStencils$Pile", "leftOf", "(II)I"⟩, 3) := ⟨⟨by decide +kernel, by decide +kernel⟩, List.mem_of_getElem? (i := 31) (by decide +kernel), List.mem_of_getElem? (i := 1071) (by decide +kernel), List.mem_of_getElem? (i := 1072) (by decide +kernel)⟩
theorem lw_p52 : lw_okq (⟨"TinStencils$Pile", "weighAhead", "(I)I"⟩, 3) := ⟨⟨by decide +kernel, by decide +kernel⟩, List.mem_of_getElem? (i := 31) (by decide +kernel), List.mem_of_getElem? (i := 1085) (by decide +kernel), List.mem_of_getElem? (i := 1086) (by decide +kernel)⟩
theorem lw_p53 : lw_okq (⟨"TinStencils$Reading", "costLeftOut", "(I)I"⟩, 7) := ⟨⟨by decide +kernel, by decide +kernel⟩, List.mem_of_getElem? (i := 352) (by decide +kernel), List.mem_of_getElem? (i := 1116) (by decide +kernel), List.mem_of_getElem? (i := 1117) (by decide +kernel)⟩
theorem lw_p54 : lw_okq (⟨"TinStencils$Reading", "costOf", "(LTinStencils$Sheet;II)I"⟩, 7) := ⟨⟨by decide +kernel, by decide +kernel⟩, List.mem_of_getElem? (i := 352) (by decide +kernel), List.mem_of_getElem? (i := 1120) (by decide +kernel), List.mem_of_getElem? (i := 1121) (by decide +kernel)⟩
theorem lw_p55 : lw_okq (⟨"TinStencils$Reading", "weigh", "(III)V"⟩, 7) := ⟨⟨by decide +kernel, by decide +kernel⟩, List.mem_of_getElem? (i := 352) (by decide +kernel), List.mem_of_getElem? (i := 1125) (by decide +kernel), List.mem_of_getElem? (i := 1126) (by decide +kernel)⟩
theorem lw_p56 : lw_okq (⟨"TinStencils$Reading", "follow", "(LTinStencils$Sheet;)V"⟩, 7) := ⟨⟨by decide +kernel, by decide +kernel⟩, List.mem_of_getElem? (i := 352) (by decide +kernel), List.mem_of_getElem? (i := 1134) (by decide +kernel), List.mem_of_getElem? (i := 1135) (by decide +kernel)⟩
theorem lw_p57 : lw_okq (⟨"TinStencils$Reading", "shapeAt", "(LTinStencils$Sheet;I)I"⟩, 7) := ⟨⟨by decide +kernel, by decide +kernel⟩, List.mem_of_getElem? (i := 352) (by decide +kernel), List.mem_of_getElem? (i := 1138) (by decide +kernel), List.mem_of_getElem? (i := 1139) (by decide +kernel)⟩
theorem lw_p58 : lw_okq (⟨"TinStencils", "findHoles", "(LTinStencils$Sheet;)V"⟩, 17) := ⟨⟨by decide +kernel, by decide +kernel⟩, List.mem_of_getElem? (i := 23) (by decide +kernel), List.mem_of_getElem? (i := 1151) (by decide +kernel), List.mem_of_getElem? (i := 1152) (by decide +kernel)⟩
theorem lw_p59 : lw_okq (⟨"TinStencils$Cutting", "prepare", "(LTinStencils$Sheet;LTinStencils$Parts;I)V"⟩, 6) := ⟨⟨by decide +kernel, by decide +kernel⟩, List.mem_of_getElem? (i := 380) (by decide +kernel), List.mem_of_getElem? (i := 1165) (by decide +kernel), List.mem_of_getElem? (i := 1166) (by decide +kernel)⟩
theorem lw_p60 : lw_okq (⟨"TinStencils$Cutting", "looseBehind", "(LTinStencils$Sheet;IILTinStencils$Hanging;)I"⟩, 6) := ⟨⟨by decide +kernel, by decide +kernel⟩, List.mem_of_getElem? (i := 380) (by decide +kernel), List.mem_of_getElem? (i := 1171) (by decide +kernel), List.mem_of_getElem? (i := 1172) (by decide +kernel)⟩
theorem lw_p61 : lw_okq (⟨"TinStencils$Cutting", "worstFrom", "(I)I"⟩, 6) := ⟨⟨by decide +kernel, by decide +kernel⟩, List.mem_of_getElem? (i := 380) (by decide +kernel), List.mem_of_getElem? (i := 1179) (by decide +kernel), List.mem_of_getElem? (i := 1180) (by decide +kernel)⟩
theorem lw_p62 : lw_okq (⟨"TinStencils$Cutting", "follow", "(I)V"⟩, 6) := ⟨⟨by decide +kernel, by decide +kernel⟩, List.mem_of_getElem? (i := 380) (by decide +kernel), List.mem_of_getElem? (i := 1184) (by decide +kernel), List.mem_of_getElem? (i := 1185) (by decide +kernel)⟩
theorem lw_p63 : lw_okq (⟨"TinStencilsModel", "four", "(I)V"⟩, 65) := ⟨⟨by decide +kernel, by decide +kernel⟩, List.mem_of_getElem? (i := 1222) (by decide +kernel), List.mem_of_getElem? (i := 1429) (by decide +kernel), List.mem_of_getElem? (i := 1430) (by decide +kernel)⟩
def lw_privs_4 : List (MethodName × Nat) := [(⟨"TinStencils", "sagOf", "(LTinStencils$Sheet;II)I"⟩, 17), (⟨"TinStencils", "walkFrom", "(LTinStencils$Sheet;II)V"⟩, 17), (⟨"TinStencils", "sagsAbove", "(LTinStencils$Sheet;III)I"⟩, 17), (⟨"TinStencils$Pile", "leftOf", "(II)I"⟩, 3), (⟨"TinStencils$Pile", "weighAhead", "(I)I"⟩, 3), (⟨"TinStencils$Reading", "costLeftOut", "(I)I"⟩, 7), (⟨"TinStencils$Reading", "costOf", "(LTinStencils$Sheet;II)I"⟩, 7), (⟨"TinStencils$Reading", "weigh", "(III)V"⟩, 7), (⟨"TinStencils$Reading", "follow", "(LTinStencils$Sheet;)V"⟩, 7), (⟨"TinStencils$Reading", "shapeAt", "(LTinStencils$Sheet;I)I"⟩, 7), (⟨"TinStencils", "findHoles", "(LTinStencils$Sheet;)V"⟩, 17), (⟨"TinStencils$Cutting", "prepare", "(LTinStencils$Sheet;LTinStencils$Parts;I)V"⟩, 6), (⟨"TinStencils$Cutting", "looseBehind", "(LTinStencils$Sheet;IILTinStencils$Hanging;)I"⟩, 6), (⟨"TinStencils$Cutting", "worstFrom", "(I)I"⟩, 6), (⟨"TinStencils$Cutting", "follow", "(I)V"⟩, 6), (⟨"TinStencilsModel", "four", "(I)V"⟩, 65)]
theorem lw_r4 : ∀ q ∈ lw_privs_4, lw_okq q := List.forall_mem_cons.mpr ⟨lw_p48, List.forall_mem_cons.mpr ⟨lw_p49, List.forall_mem_cons.mpr ⟨lw_p50, List.forall_mem_cons.mpr ⟨lw_p51, List.forall_mem_cons.mpr ⟨lw_p52, List.forall_mem_cons.mpr ⟨lw_p53, List.forall_mem_cons.mpr ⟨lw_p54, List.forall_mem_cons.mpr ⟨lw_p55, List.forall_mem_cons.mpr ⟨lw_p56, List.forall_mem_cons.mpr ⟨lw_p57, List.forall_mem_cons.mpr ⟨lw_p58, List.forall_mem_cons.mpr ⟨lw_p59, List.forall_mem_cons.mpr ⟨lw_p60, List.forall_mem_cons.mpr ⟨lw_p61, List.forall_mem_cons.mpr ⟨lw_p62, List.forall_mem_cons.mpr ⟨lw_p63, fun _ h => absurd h List.not_mem_nil⟩⟩⟩⟩⟩⟩⟩⟩⟩⟩⟩⟩⟩⟩⟩⟩
theorem lw_p64 : lw_okq (⟨"TinStencilsModel", "refuses", "(II)I"⟩, 65) := ⟨⟨by decide +kernel, by decide +kernel⟩, List.mem_of_getElem? (i := 1222) (by decide +kernel), List.mem_of_getElem? (i := 1440) (by decide +kernel), List.mem_of_getElem? (i := 1441) (by decide +kernel)⟩
theorem lw_p65 : lw_okq (⟨"TinStencilsModel", "plateTold", "()Z"⟩, 65) := ⟨⟨by decide +kernel, by decide +kernel⟩, List.mem_of_getElem? (i := 1222) (by decide +kernel), List.mem_of_getElem? (i := 1444) (by decide +kernel), List.mem_of_getElem? (i := 1445) (by decide +kernel)⟩
theorem lw_p66 : lw_okq (⟨"TinStencilsModel", "says", "(II)V"⟩, 65) := ⟨⟨by decide +kernel, by decide +kernel⟩, List.mem_of_getElem? (i := 1222) (by decide +kernel), List.mem_of_getElem? (i := 1448) (by decide +kernel), List.mem_of_getElem? (i := 1449) (by decide +kernel)⟩
theorem lw_p67 : lw_okq (⟨"TinStencilsModel", "takes", "(J)Z"⟩, 65) := ⟨⟨by decide +kernel, by decide +kernel⟩, List.mem_of_getElem? (i := 1222) (by decide +kernel), List.mem_of_getElem? (i := 1453) (by decide +kernel), List.mem_of_getElem? (i := 1454) (by decide +kernel)⟩
theorem lw_p68 : lw_okq (⟨"TinStencilsModel", "word", "()J"⟩, 65) := ⟨⟨by decide +kernel, by decide +kernel⟩, List.mem_of_getElem? (i := 1222) (by decide +kernel), List.mem_of_getElem? (i := 1457) (by decide +kernel), List.mem_of_getElem? (i := 1458) (by decide +kernel)⟩
theorem lw_p69 : lw_okq (⟨"TinStencilsModel", "blanks", "()V"⟩, 65) := ⟨⟨by decide +kernel, by decide +kernel⟩, List.mem_of_getElem? (i := 1222) (by decide +kernel), List.mem_of_getElem? (i := 1461) (by decide +kernel), List.mem_of_getElem? (i := 1462) (by decide +kernel)⟩
theorem lw_p70 : lw_okq (⟨"TinStencilsModel", "takesNumber", "(II)Z"⟩, 65) := ⟨⟨by decide +kernel, by decide +kernel⟩, List.mem_of_getElem? (i := 1222) (by decide +kernel), List.mem_of_getElem? (i := 1465) (by decide +kernel), List.mem_of_getElem? (i := 1466) (by decide +kernel)⟩
theorem lw_p71 : lw_okq (⟨"TinStencilsModel", "takesSign", "(I)Z"⟩, 65) := ⟨⟨by decide +kernel, by decide +kernel⟩, List.mem_of_getElem? (i := 1222) (by decide +kernel), List.mem_of_getElem? (i := 1469) (by decide +kernel), List.mem_of_getElem? (i := 1470) (by decide +kernel)⟩
theorem lw_p72 : lw_okq (⟨"TinStencilsModel", "draft", "(I)I"⟩, 65) := ⟨⟨by decide +kernel, by decide +kernel⟩, List.mem_of_getElem? (i := 1222) (by decide +kernel), List.mem_of_getElem? (i := 1473) (by decide +kernel), List.mem_of_getElem? (i := 1474) (by decide +kernel)⟩
theorem lw_p73 : lw_okq (⟨"TinStencilsModel", "statement", "()Z"⟩, 65) := ⟨⟨by decide +kernel, by decide +kernel⟩, List.mem_of_getElem? (i := 1222) (by decide +kernel), List.mem_of_getElem? (i := 1477) (by decide +kernel), List.mem_of_getElem? (i := 1478) (by decide +kernel)⟩
theorem lw_p74 : lw_okq (⟨"TinStencilsModel", "row", "()Z"⟩, 65) := ⟨⟨by decide +kernel, by decide +kernel⟩, List.mem_of_getElem? (i := 1222) (by decide +kernel), List.mem_of_getElem? (i := 1482) (by decide +kernel), List.mem_of_getElem? (i := 1483) (by decide +kernel)⟩
theorem lw_p75 : lw_okq (⟨"TinStencilsModel", "high", "(I)I"⟩, 65) := ⟨⟨by decide +kernel, by decide +kernel⟩, List.mem_of_getElem? (i := 1222) (by decide +kernel), List.mem_of_getElem? (i := 1486) (by decide +kernel), List.mem_of_getElem? (i := 1487) (by decide +kernel)⟩
theorem lw_p76 : lw_okq (⟨"TinStencilsModel", "wide", "(I)I"⟩, 65) := ⟨⟨by decide +kernel, by decide +kernel⟩, List.mem_of_getElem? (i := 1222) (by decide +kernel), List.mem_of_getElem? (i := 1490) (by decide +kernel), List.mem_of_getElem? (i := 1491) (by decide +kernel)⟩
theorem lw_p77 : lw_okq (⟨"TinStencilsModel", "takesSquares", "(II)Z"⟩, 65) := ⟨⟨by decide +kernel, by decide +kernel⟩, List.mem_of_getElem? (i := 1222) (by decide +kernel), List.mem_of_getElem? (i := 1494) (by decide +kernel), List.mem_of_getElem? (i := 1495) (by decide +kernel)⟩
theorem lw_p78 : lw_okq (⟨"TinStencilsModel", "shape", "()Z"⟩, 65) := ⟨⟨by decide +kernel, by decide +kernel⟩, List.mem_of_getElem? (i := 1222) (by decide +kernel), List.mem_of_getElem? (i := 1502) (by decide +kernel), List.mem_of_getElem? (i := 1503) (by decide +kernel)⟩
theorem lw_p79 : lw_okq (⟨"TinStencilsModel", "named", "(J)I"⟩, 65) := ⟨⟨by decide +kernel, by decide +kernel⟩, List.mem_of_getElem? (i := 1222) (by decide +kernel), List.mem_of_getElem? (i := 1532) (by decide +kernel), List.mem_of_getElem? (i := 1533) (by decide +kernel)⟩
def lw_privs_5 : List (MethodName × Nat) := [(⟨"TinStencilsModel", "refuses", "(II)I"⟩, 65), (⟨"TinStencilsModel", "plateTold", "()Z"⟩, 65), (⟨"TinStencilsModel", "says", "(II)V"⟩, 65), (⟨"TinStencilsModel", "takes", "(J)Z"⟩, 65), (⟨"TinStencilsModel", "word", "()J"⟩, 65), (⟨"TinStencilsModel", "blanks", "()V"⟩, 65), (⟨"TinStencilsModel", "takesNumber", "(II)Z"⟩, 65), (⟨"TinStencilsModel", "takesSign", "(I)Z"⟩, 65), (⟨"TinStencilsModel", "draft", "(I)I"⟩, 65), (⟨"TinStencilsModel", "statement", "()Z"⟩, 65), (⟨"TinStencilsModel", "row", "()Z"⟩, 65), (⟨"TinStencilsModel", "high", "(I)I"⟩, 65), (⟨"TinStencilsModel", "wide", "(I)I"⟩, 65), (⟨"TinStencilsModel", "takesSquares", "(II)Z"⟩, 65), (⟨"TinStencilsModel", "shape", "()Z"⟩, 65), (⟨"TinStencilsModel", "named", "(J)I"⟩, 65)]
theorem lw_r5 : ∀ q ∈ lw_privs_5, lw_okq q := List.forall_mem_cons.mpr ⟨lw_p64, List.forall_mem_cons.mpr ⟨lw_p65, List.forall_mem_cons.mpr ⟨lw_p66, List.forall_mem_cons.mpr ⟨lw_p67, List.forall_mem_cons.mpr ⟨lw_p68, List.forall_mem_cons.mpr ⟨lw_p69, List.forall_mem_cons.mpr ⟨lw_p70, List.forall_mem_cons.mpr ⟨lw_p71, List.forall_mem_cons.mpr ⟨lw_p72, List.forall_mem_cons.mpr ⟨lw_p73, List.forall_mem_cons.mpr ⟨lw_p74, List.forall_mem_cons.mpr ⟨lw_p75, List.forall_mem_cons.mpr ⟨lw_p76, List.forall_mem_cons.mpr ⟨lw_p77, List.forall_mem_cons.mpr ⟨lw_p78, List.forall_mem_cons.mpr ⟨lw_p79, fun _ h => absurd h List.not_mem_nil⟩⟩⟩⟩⟩⟩⟩⟩⟩⟩⟩⟩⟩⟩⟩⟩
theorem lw_p80 : lw_okq (⟨"TinStencilsModel", "put", "()Z"⟩, 65) := ⟨⟨by decide +kernel, by decide +kernel⟩, List.mem_of_getElem? (i := 1222) (by decide +kernel), List.mem_of_getElem? (i := 1536) (by decide +kernel), List.mem_of_getElem? (i := 1537) (by decide +kernel)⟩
theorem lw_p81 : lw_okq (⟨"TinStencilsModel", "takesPlace", "(II)Z"⟩, 65) := ⟨⟨by decide +kernel, by decide +kernel⟩, List.mem_of_getElem? (i := 1222) (by decide +kernel), List.mem_of_getElem? (i := 1540) (by decide +kernel), List.mem_of_getElem? (i := 1541) (by decide +kernel)⟩
theorem lw_p82 : lw_okq (⟨"TinStencilsModel", "isWithin", "(III)Z"⟩, 65) := ⟨⟨by decide +kernel, by decide +kernel⟩, List.mem_of_getElem? (i := 1222) (by decide +kernel), List.mem_of_getElem? (i := 1550) (by decide +kernel), List.mem_of_getElem? (i := 1551) (by decide +kernel)⟩
theorem lw_p83 : lw_okq (⟨"TinStencilsModel", "hold", "()Z"⟩, 65) := ⟨⟨by decide +kernel, by decide +kernel⟩, List.mem_of_getElem? (i := 1222) (by decide +kernel), List.mem_of_getElem? (i := 1554) (by decide +kernel), List.mem_of_getElem? (i := 1555) (by decide +kernel)⟩
theorem lw_p84 : lw_okq (⟨"TinStencilsModel", "takesSide", "()Z"⟩, 65) := ⟨⟨by decide +kernel, by decide +kernel⟩, List.mem_of_getElem? (i := 1222) (by decide +kernel), List.mem_of_getElem? (i := 1558) (by decide +kernel), List.mem_of_getElem? (i := 1559) (by decide +kernel)⟩
theorem lw_p85 : lw_okq (⟨"TinStencilsModel", "worthTold", "()Z"⟩, 65) := ⟨⟨by decide +kernel, by decide +kernel⟩, List.mem_of_getElem? (i := 1222) (by decide +kernel), List.mem_of_getElem? (i := 1562) (by decide +kernel), List.mem_of_getElem? (i := 1563) (by decide +kernel)⟩
theorem lw_p86 : lw_okq (⟨"TinStencilsModel", "numberTold", "(II)Z"⟩, 65) := ⟨⟨by decide +kernel, by decide +kernel⟩, List.mem_of_getElem? (i := 1222) (by decide +kernel), List.mem_of_getElem? (i := 1566) (by decide +kernel), List.mem_of_getElem? (i := 1567) (by decide +kernel)⟩
theorem lw_p87 : lw_okq (⟨"TinStencilsModel", "bridgeTold", "()Z"⟩, 65) := ⟨⟨by decide +kernel, by decide +kernel⟩, List.mem_of_getElem? (i := 1222) (by decide +kernel), List.mem_of_getElem? (i := 1570) (by decide +kernel), List.mem_of_getElem? (i := 1571) (by decide +kernel)⟩
theorem lw_p88 : lw_okq (⟨"TinStencilsModel", "cornerTold", "(I)Z"⟩, 65) := ⟨⟨by decide +kernel, by decide +kernel⟩, List.mem_of_getElem? (i := 1222) (by decide +kernel), List.mem_of_getElem? (i := 1574) (by decide +kernel), List.mem_of_getElem? (i := 1575) (by decide +kernel)⟩
theorem lw_p89 : lw_okq (⟨"TinStencilsModel", "lays", "(IIIIII)V"⟩, 65) := ⟨⟨by decide +kernel, by decide +kernel⟩, List.mem_of_getElem? (i := 1222) (by decide +kernel), List.mem_of_getElem? (i := 1578) (by decide +kernel), List.mem_of_getElem? (i := 1579) (by decide +kernel)⟩
theorem lw_p90 : lw_okq (⟨"TinStencilsModel", "squaresTold", "(I)Z"⟩, 65) := ⟨⟨by decide +kernel, by decide +kernel⟩, List.mem_of_getElem? (i := 1222) (by decide +kernel), List.mem_of_getElem? (i := 1588) (by decide +kernel), List.mem_of_getElem? (i := 1589) (by decide +kernel)⟩
theorem lw_p91 : lw_okq (⟨"TinStencilsModel", "countBridge", "(IIZ)I"⟩, 65) := ⟨⟨by decide +kernel, by decide +kernel⟩, List.mem_of_getElem? (i := 1222) (by decide +kernel), List.mem_of_getElem? (i := 1592) (by decide +kernel), List.mem_of_getElem? (i := 1593) (by decide +kernel)⟩
theorem lw_p92 : lw_okq (⟨"TinStencilsModel", "straight", "(IZ)Z"⟩, 65) := ⟨⟨by decide +kernel, by decide +kernel⟩, List.mem_of_getElem? (i := 1222) (by decide +kernel), List.mem_of_getElem? (i := 1599) (by decide +kernel), List.mem_of_getElem? (i := 1600) (by decide +kernel)⟩
theorem lw_p93 : lw_okq (⟨"TinStencilsModel", "takesOver", "(I)V"⟩, 65) := ⟨⟨by decide +kernel, by decide +kernel⟩, List.mem_of_getElem? (i := 1222) (by decide +kernel), List.mem_of_getElem? (i := 1603) (by decide +kernel), List.mem_of_getElem? (i := 1604) (by decide +kernel)⟩
theorem lw_p94 : lw_okq (⟨"TinStencilsModel", "isSheet", "(I)Z"⟩, 65) := ⟨⟨by decide +kernel, by decide +kernel⟩, List.mem_of_getElem? (i := 1222) (by decide +kernel), List.mem_of_getElem? (i := 1615) (by decide +kernel), List.mem_of_getElem? (i := 1616) (by decide +kernel)⟩
theorem lw_p95 : lw_okq (⟨"TinStencilsModel", "bridgesIn", "(I)I"⟩, 65) := ⟨⟨by decide +kernel, by decide +kernel⟩, List.mem_of_getElem? (i := 1222) (by decide +kernel), List.mem_of_getElem? (i := 1619) (by decide +kernel), List.mem_of_getElem? (i := 1620) (by decide +kernel)⟩
def lw_privs_6 : List (MethodName × Nat) := [(⟨"TinStencilsModel", "put", "()Z"⟩, 65), (⟨"TinStencilsModel", "takesPlace", "(II)Z"⟩, 65), (⟨"TinStencilsModel", "isWithin", "(III)Z"⟩, 65), (⟨"TinStencilsModel", "hold", "()Z"⟩, 65), (⟨"TinStencilsModel", "takesSide", "()Z"⟩, 65), (⟨"TinStencilsModel", "worthTold", "()Z"⟩, 65), (⟨"TinStencilsModel", "numberTold", "(II)Z"⟩, 65), (⟨"TinStencilsModel", "bridgeTold", "()Z"⟩, 65), (⟨"TinStencilsModel", "cornerTold", "(I)Z"⟩, 65), (⟨"TinStencilsModel", "lays", "(IIIIII)V"⟩, 65), (⟨"TinStencilsModel", "squaresTold", "(I)Z"⟩, 65), (⟨"TinStencilsModel", "countBridge", "(IIZ)I"⟩, 65), (⟨"TinStencilsModel", "straight", "(IZ)Z"⟩, 65), (⟨"TinStencilsModel", "takesOver", "(I)V"⟩, 65), (⟨"TinStencilsModel", "isSheet", "(I)Z"⟩, 65), (⟨"TinStencilsModel", "bridgesIn", "(I)I"⟩, 65)]
theorem lw_r6 : ∀ q ∈ lw_privs_6, lw_okq q := List.forall_mem_cons.mpr ⟨lw_p80, List.forall_mem_cons.mpr ⟨lw_p81, List.forall_mem_cons.mpr ⟨lw_p82, List.forall_mem_cons.mpr ⟨lw_p83, List.forall_mem_cons.mpr ⟨lw_p84, List.forall_mem_cons.mpr ⟨lw_p85, List.forall_mem_cons.mpr ⟨lw_p86, List.forall_mem_cons.mpr ⟨lw_p87, List.forall_mem_cons.mpr ⟨lw_p88, List.forall_mem_cons.mpr ⟨lw_p89, List.forall_mem_cons.mpr ⟨lw_p90, List.forall_mem_cons.mpr ⟨lw_p91, List.forall_mem_cons.mpr ⟨lw_p92, List.forall_mem_cons.mpr ⟨lw_p93, List.forall_mem_cons.mpr ⟨lw_p94, List.forall_mem_cons.mpr ⟨lw_p95, fun _ h => absurd h List.not_mem_nil⟩⟩⟩⟩⟩⟩⟩⟩⟩⟩⟩⟩⟩⟩⟩⟩
theorem lw_p96 : lw_okq (⟨"TinStencilsModel", "tins", "(II)V"⟩, 65) := ⟨⟨by decide +kernel, by decide +kernel⟩, List.mem_of_getElem? (i := 1222) (by decide +kernel), List.mem_of_getElem? (i := 1623) (by decide +kernel), List.mem_of_getElem? (i := 1624) (by decide +kernel)⟩
theorem lw_p97 : lw_okq (⟨"TinStencilsModel", "isTin", "(IIII)Z"⟩, 65) := ⟨⟨by decide +kernel, by decide +kernel⟩, List.mem_of_getElem? (i := 1222) (by decide +kernel), List.mem_of_getElem? (i := 1627) (by decide +kernel), List.mem_of_getElem? (i := 1628) (by decide +kernel)⟩
theorem lw_p98 : lw_okq (⟨"TinStencilsModel", "tinMany", "()I"⟩, 65) := ⟨⟨by decide +kernel, by decide +kernel⟩, List.mem_of_getElem? (i := 1222) (by decide +kernel), List.mem_of_getElem? (i := 1631) (by decide +kernel), List.mem_of_getElem? (i := 1632) (by decide +kernel)⟩
theorem lw_p99 : lw_okq (⟨"TinStencilsModel", "looks", "(II)V"⟩, 65) := ⟨⟨by decide +kernel, by decide +kernel⟩, List.mem_of_getElem? (i := 1222) (by decide +kernel), List.mem_of_getElem? (i := 1639) (by decide +kernel), List.mem_of_getElem? (i := 1640) (by decide +kernel)⟩
theorem lw_p100 : lw_okq (⟨"TinStencilsModel", "hanging", "(III)I"⟩, 65) := ⟨⟨by decide +kernel, by decide +kernel⟩, List.mem_of_getElem? (i := 1222) (by decide +kernel), List.mem_of_getElem? (i := 1643) (by decide +kernel), List.mem_of_getElem? (i := 1644) (by decide +kernel)⟩
theorem lw_p101 : lw_okq (⟨"TinStencilsModel", "isRim", "(II)Z"⟩, 65) := ⟨⟨by decide +kernel, by decide +kernel⟩, List.mem_of_getElem? (i := 1222) (by decide +kernel), List.mem_of_getElem? (i := 1647) (by decide +kernel), List.mem_of_getElem? (i := 1648) (by decide +kernel)⟩
theorem lw_p102 : lw_okq (⟨"TinStencilsModel", "begins", "(II)I"⟩, 65) := ⟨⟨by decide +kernel, by decide +kernel⟩, List.mem_of_getElem? (i := 1222) (by decide +kernel), List.mem_of_getElem? (i := 1651) (by decide +kernel), List.mem_of_getElem? (i := 1652) (by decide +kernel)⟩
theorem lw_p103 : lw_okq (⟨"TinStencilsModel", "floods", "(II)I"⟩, 65) := ⟨⟨by decide +kernel, by decide +kernel⟩, List.mem_of_getElem? (i := 1222) (by decide +kernel), List.mem_of_getElem? (i := 1655) (by decide +kernel), List.mem_of_getElem? (i := 1656) (by decide +kernel)⟩
theorem lw_p104 : lw_okq (⟨"TinStencilsModel", "parts", "(II)V"⟩, 65) := ⟨⟨by decide +kernel, by decide +kernel⟩, List.mem_of_getElem? (i := 1222) (by decide +kernel), List.mem_of_getElem? (i := 1662) (by decide +kernel), List.mem_of_getElem? (i := 1663) (by decide +kernel)⟩
theorem lw_p105 : lw_okq (⟨"TinStencilsModel", "isPart", "(III)Z"⟩, 65) := ⟨⟨by decide +kernel, by decide +kernel⟩, List.mem_of_getElem? (i := 1222) (by decide +kernel), List.mem_of_getElem? (i := 1666) (by decide +kernel), List.mem_of_getElem? (i := 1667) (by decide +kernel)⟩
theorem lw_p106 : lw_okq (⟨"TinStencilsModel", "tongue", "(II)I"⟩, 65) := ⟨⟨by decide +kernel, by decide +kernel⟩, List.mem_of_getElem? (i := 1222) (by decide +kernel), List.mem_of_getElem? (i := 1670) (by decide +kernel), List.mem_of_getElem? (i := 1671) (by decide +kernel)⟩
theorem lw_p107 : lw_okq (⟨"TinStencilsModel", "tongueOf", "(IIII)I"⟩, 65) := ⟨⟨by decide +kernel, by decide +kernel⟩, List.mem_of_getElem? (i := 1222) (by decide +kernel), List.mem_of_getElem? (i := 1674) (by decide +kernel), List.mem_of_getElem? (i := 1675) (by decide +kernel)⟩
theorem lw_p108 : lw_okq (⟨"TinStencilsModel", "gap", "(I)I"⟩, 65) := ⟨⟨by decide +kernel, by decide +kernel⟩, List.mem_of_getElem? (i := 1222) (by decide +kernel), List.mem_of_getElem? (i := 1682) (by decide +kernel), List.mem_of_getElem? (i := 1683) (by decide +kernel)⟩
theorem lw_p109 : lw_okq (⟨"TinStencilsModel", "necks", "(III)V"⟩, 65) := ⟨⟨by decide +kernel, by decide +kernel⟩, List.mem_of_getElem? (i := 1222) (by decide +kernel), List.mem_of_getElem? (i := 1690) (by decide +kernel), List.mem_of_getElem? (i := 1691) (by decide +kernel)⟩
theorem lw_p110 : lw_okq (⟨"TinStencilsModel", "refuses", "(I)Z"⟩, 65) := ⟨⟨by decide +kernel, by decide +kernel⟩, List.mem_of_getElem? (i := 1222) (by decide +kernel), List.mem_of_getElem? (i := 1699) (by decide +kernel), List.mem_of_getElem? (i := 1700) (by decide +kernel)⟩
theorem lw_p111 : lw_okq (⟨"TinStencilsModel", "isBridge", "(II)Z"⟩, 65) := ⟨⟨by decide +kernel, by decide +kernel⟩, List.mem_of_getElem? (i := 1222) (by decide +kernel), List.mem_of_getElem? (i := 1707) (by decide +kernel), List.mem_of_getElem? (i := 1708) (by decide +kernel)⟩
def lw_privs_7 : List (MethodName × Nat) := [(⟨"TinStencilsModel", "tins", "(II)V"⟩, 65), (⟨"TinStencilsModel", "isTin", "(IIII)Z"⟩, 65), (⟨"TinStencilsModel", "tinMany", "()I"⟩, 65), (⟨"TinStencilsModel", "looks", "(II)V"⟩, 65), (⟨"TinStencilsModel", "hanging", "(III)I"⟩, 65), (⟨"TinStencilsModel", "isRim", "(II)Z"⟩, 65), (⟨"TinStencilsModel", "begins", "(II)I"⟩, 65), (⟨"TinStencilsModel", "floods", "(II)I"⟩, 65), (⟨"TinStencilsModel", "parts", "(II)V"⟩, 65), (⟨"TinStencilsModel", "isPart", "(III)Z"⟩, 65), (⟨"TinStencilsModel", "tongue", "(II)I"⟩, 65), (⟨"TinStencilsModel", "tongueOf", "(IIII)I"⟩, 65), (⟨"TinStencilsModel", "gap", "(I)I"⟩, 65), (⟨"TinStencilsModel", "necks", "(III)V"⟩, 65), (⟨"TinStencilsModel", "refuses", "(I)Z"⟩, 65), (⟨"TinStencilsModel", "isBridge", "(II)Z"⟩, 65)]
theorem lw_r7 : ∀ q ∈ lw_privs_7, lw_okq q := List.forall_mem_cons.mpr ⟨lw_p96, List.forall_mem_cons.mpr ⟨lw_p97, List.forall_mem_cons.mpr ⟨lw_p98, List.forall_mem_cons.mpr ⟨lw_p99, List.forall_mem_cons.mpr ⟨lw_p100, List.forall_mem_cons.mpr ⟨lw_p101, List.forall_mem_cons.mpr ⟨lw_p102, List.forall_mem_cons.mpr ⟨lw_p103, List.forall_mem_cons.mpr ⟨lw_p104, List.forall_mem_cons.mpr ⟨lw_p105, List.forall_mem_cons.mpr ⟨lw_p106, List.forall_mem_cons.mpr ⟨lw_p107, List.forall_mem_cons.mpr ⟨lw_p108, List.forall_mem_cons.mpr ⟨lw_p109, List.forall_mem_cons.mpr ⟨lw_p110, List.forall_mem_cons.mpr ⟨lw_p111, fun _ h => absurd h List.not_mem_nil⟩⟩⟩⟩⟩⟩⟩⟩⟩⟩⟩⟩⟩⟩⟩⟩
theorem lw_p112 : lw_okq (⟨"TinStencilsModel", "allHang", "(II)Z"⟩, 65) := ⟨⟨by decide +kernel, by decide +kernel⟩, List.mem_of_getElem? (i := 1222) (by decide +kernel), List.mem_of_getElem? (i := 1719) (by decide +kernel), List.mem_of_getElem? (i := 1720) (by decide +kernel)⟩
theorem lw_p113 : lw_okq (⟨"TinStencilsModel", "seen", "(II)I"⟩, 65) := ⟨⟨by decide +kernel, by decide +kernel⟩, List.mem_of_getElem? (i := 1222) (by decide +kernel), List.mem_of_getElem? (i := 1723) (by decide +kernel), List.mem_of_getElem? (i := 1724) (by decide +kernel)⟩
theorem lw_p114 : lw_okq (⟨"TinStencilsModel", "hiddenOnes", "(I)I"⟩, 65) := ⟨⟨by decide +kernel, by decide +kernel⟩, List.mem_of_getElem? (i := 1222) (by decide +kernel), List.mem_of_getElem? (i := 1727) (by decide +kernel), List.mem_of_getElem? (i := 1728) (by decide +kernel)⟩
theorem lw_p115 : lw_okq (⟨"TinStencilsModel", "isCutBelow", "(III)Z"⟩, 65) := ⟨⟨by decide +kernel, by decide +kernel⟩, List.mem_of_getElem? (i := 1222) (by decide +kernel), List.mem_of_getElem? (i := 1731) (by decide +kernel), List.mem_of_getElem? (i := 1732) (by decide +kernel)⟩
theorem lw_p116 : lw_okq (⟨"TinStencilsModel", "all", "(I)I"⟩, 65) := ⟨⟨by decide +kernel, by decide +kernel⟩, List.mem_of_getElem? (i := 1222) (by decide +kernel), List.mem_of_getElem? (i := 1739) (by decide +kernel), List.mem_of_getElem? (i := 1740) (by decide +kernel)⟩
theorem lw_p117 : lw_okq (⟨"TinStencilsModel", "isTwice", "(I)Z"⟩, 65) := ⟨⟨by decide +kernel, by decide +kernel⟩, List.mem_of_getElem? (i := 1222) (by decide +kernel), List.mem_of_getElem? (i := 1743) (by decide +kernel), List.mem_of_getElem? (i := 1744) (by decide +kernel)⟩
theorem lw_p118 : lw_okq (⟨"TinStencilsModel", "falling", "(II)I"⟩, 65) := ⟨⟨by decide +kernel, by decide +kernel⟩, List.mem_of_getElem? (i := 1222) (by decide +kernel), List.mem_of_getElem? (i := 1758) (by decide +kernel), List.mem_of_getElem? (i := 1759) (by decide +kernel)⟩
theorem lw_p119 : lw_okq (⟨"TinStencilsModel", "isHeldBy", "(III)Z"⟩, 65) := ⟨⟨by decide +kernel, by decide +kernel⟩, List.mem_of_getElem? (i := 1222) (by decide +kernel), List.mem_of_getElem? (i := 1766) (by decide +kernel), List.mem_of_getElem? (i := 1767) (by decide +kernel)⟩
theorem lw_p120 : lw_okq (⟨"TinStencilsModel", "joins", "(IZ)V"⟩, 65) := ⟨⟨by decide +kernel, by decide +kernel⟩, List.mem_of_getElem? (i := 1222) (by decide +kernel), List.mem_of_getElem? (i := 1779) (by decide +kernel), List.mem_of_getElem? (i := 1780) (by decide +kernel)⟩
theorem lw_p121 : lw_okq (⟨"TinStencilsModel", "costs", "(IZ)V"⟩, 65) := ⟨⟨by decide +kernel, by decide +kernel⟩, List.mem_of_getElem? (i := 1222) (by decide +kernel), List.mem_of_getElem? (i := 1783) (by decide +kernel), List.mem_of_getElem? (i := 1784) (by decide +kernel)⟩
theorem lw_p122 : lw_okq (⟨"TinStencilsModel", "goesOn", "(I)V"⟩, 65) := ⟨⟨by decide +kernel, by decide +kernel⟩, List.mem_of_getElem? (i := 1222) (by decide +kernel), List.mem_of_getElem? (i := 1789) (by decide +kernel), List.mem_of_getElem? (i := 1790) (by decide +kernel)⟩
theorem lw_p123 : lw_okq (⟨"TinStencilsModel", "laysOver", "()V"⟩, 65) := ⟨⟨by decide +kernel, by decide +kernel⟩, List.mem_of_getElem? (i := 1222) (by decide +kernel), List.mem_of_getElem? (i := 1805) (by decide +kernel), List.mem_of_getElem? (i := 1806) (by decide +kernel)⟩
theorem lw_p124 : lw_okq (⟨"TinStencilsModel", "byOrder", "()V"⟩, 65) := ⟨⟨by decide +kernel, by decide +kernel⟩, List.mem_of_getElem? (i := 1222) (by decide +kernel), List.mem_of_getElem? (i := 1809) (by decide +kernel), List.mem_of_getElem? (i := 1810) (by decide +kernel)⟩
theorem lw_p125 : lw_okq (⟨"TinStencilsModel", "leftBy", "()I"⟩, 65) := ⟨⟨by decide +kernel, by decide +kernel⟩, List.mem_of_getElem? (i := 1222) (by decide +kernel), List.mem_of_getElem? (i := 1818) (by decide +kernel), List.mem_of_getElem? (i := 1819) (by decide +kernel)⟩
theorem lw_p126 : lw_okq (⟨"TinStencilsModel", "leastLeft", "()I"⟩, 65) := ⟨⟨by decide +kernel, by decide +kernel⟩, List.mem_of_getElem? (i := 1222) (by decide +kernel), List.mem_of_getElem? (i := 1822) (by decide +kernel), List.mem_of_getElem? (i := 1823) (by decide +kernel)⟩
theorem lw_p127 : lw_okq (⟨"TinStencilsModel", "factorial", "(I)I"⟩, 65) := ⟨⟨by decide +kernel, by decide +kernel⟩, List.mem_of_getElem? (i := 1222) (by decide +kernel), List.mem_of_getElem? (i := 1826) (by decide +kernel), List.mem_of_getElem? (i := 1827) (by decide +kernel)⟩
def lw_privs_8 : List (MethodName × Nat) := [(⟨"TinStencilsModel", "allHang", "(II)Z"⟩, 65), (⟨"TinStencilsModel", "seen", "(II)I"⟩, 65), (⟨"TinStencilsModel", "hiddenOnes", "(I)I"⟩, 65), (⟨"TinStencilsModel", "isCutBelow", "(III)Z"⟩, 65), (⟨"TinStencilsModel", "all", "(I)I"⟩, 65), (⟨"TinStencilsModel", "isTwice", "(I)Z"⟩, 65), (⟨"TinStencilsModel", "falling", "(II)I"⟩, 65), (⟨"TinStencilsModel", "isHeldBy", "(III)Z"⟩, 65), (⟨"TinStencilsModel", "joins", "(IZ)V"⟩, 65), (⟨"TinStencilsModel", "costs", "(IZ)V"⟩, 65), (⟨"TinStencilsModel", "goesOn", "(I)V"⟩, 65), (⟨"TinStencilsModel", "laysOver", "()V"⟩, 65), (⟨"TinStencilsModel", "byOrder", "()V"⟩, 65), (⟨"TinStencilsModel", "leftBy", "()I"⟩, 65), (⟨"TinStencilsModel", "leastLeft", "()I"⟩, 65), (⟨"TinStencilsModel", "factorial", "(I)I"⟩, 65)]
theorem lw_r8 : ∀ q ∈ lw_privs_8, lw_okq q := List.forall_mem_cons.mpr ⟨lw_p112, List.forall_mem_cons.mpr ⟨lw_p113, List.forall_mem_cons.mpr ⟨lw_p114, List.forall_mem_cons.mpr ⟨lw_p115, List.forall_mem_cons.mpr ⟨lw_p116, List.forall_mem_cons.mpr ⟨lw_p117, List.forall_mem_cons.mpr ⟨lw_p118, List.forall_mem_cons.mpr ⟨lw_p119, List.forall_mem_cons.mpr ⟨lw_p120, List.forall_mem_cons.mpr ⟨lw_p121, List.forall_mem_cons.mpr ⟨lw_p122, List.forall_mem_cons.mpr ⟨lw_p123, List.forall_mem_cons.mpr ⟨lw_p124, List.forall_mem_cons.mpr ⟨lw_p125, List.forall_mem_cons.mpr ⟨lw_p126, List.forall_mem_cons.mpr ⟨lw_p127, fun _ h => absurd h List.not_mem_nil⟩⟩⟩⟩⟩⟩⟩⟩⟩⟩⟩⟩⟩⟩⟩⟩
theorem lw_p128 : lw_okq (⟨"TinStencilsModel", "skips", "(IIII)I"⟩, 65) := ⟨⟨by decide +kernel, by decide +kernel⟩, List.mem_of_getElem? (i := 1222) (by decide +kernel), List.mem_of_getElem? (i := 1830) (by decide +kernel), List.mem_of_getElem? (i := 1831) (by decide +kernel)⟩
theorem lw_p129 : lw_okq (⟨"TinStencilsModel", "reads", "(II)V"⟩, 65) := ⟨⟨by decide +kernel, by decide +kernel⟩, List.mem_of_getElem? (i := 1222) (by decide +kernel), List.mem_of_getElem? (i := 1848) (by decide +kernel), List.mem_of_getElem? (i := 1849) (by decide +kernel)⟩
theorem lw_p130 : lw_okq (⟨"TinStencilsModel", "unlike", "(IIII)I"⟩, 65) := ⟨⟨by decide +kernel, by decide +kernel⟩, List.mem_of_getElem? (i := 1222) (by decide +kernel), List.mem_of_getElem? (i := 1852) (by decide +kernel), List.mem_of_getElem? (i := 1853) (by decide +kernel)⟩
theorem lw_p131 : lw_okq (⟨"TinStencilsModel", "takesIn", "(IIIII)V"⟩, 65) := ⟨⟨by decide +kernel, by decide +kernel⟩, List.mem_of_getElem? (i := 1222) (by decide +kernel), List.mem_of_getElem? (i := 1856) (by decide +kernel), List.mem_of_getElem? (i := 1857) (by decide +kernel)⟩
theorem lw_p132 : lw_okq (⟨"TinStencilsModel", "leftOut", "(III)I"⟩, 65) := ⟨⟨by decide +kernel, by decide +kernel⟩, List.mem_of_getElem? (i := 1222) (by decide +kernel), List.mem_of_getElem? (i := 1862) (by decide +kernel), List.mem_of_getElem? (i := 1863) (by decide +kernel)⟩
theorem lw_p133 : lw_okq (⟨"TinStencilsModel", "looseBy", "(II)I"⟩, 65) := ⟨⟨by decide +kernel, by decide +kernel⟩, List.mem_of_getElem? (i := 1222) (by decide +kernel), List.mem_of_getElem? (i := 1874) (by decide +kernel), List.mem_of_getElem? (i := 1875) (by decide +kernel)⟩
theorem lw_p134 : lw_okq (⟨"TinStencilsModel", "keeps", "([II)V"⟩, 65) := ⟨⟨by decide +kernel, by decide +kernel⟩, List.mem_of_getElem? (i := 1222) (by decide +kernel), List.mem_of_getElem? (i := 1882) (by decide +kernel), List.mem_of_getElem? (i := 1883) (by decide +kernel)⟩
theorem lw_p135 : lw_okq (⟨"TinStencilsModel", "fetches", "([II)V"⟩, 65) := ⟨⟨by decide +kernel, by decide +kernel⟩, List.mem_of_getElem? (i := 1222) (by decide +kernel), List.mem_of_getElem? (i := 1890) (by decide +kernel), List.mem_of_getElem? (i := 1891) (by decide +kernel)⟩
def lw_privs_9 : List (MethodName × Nat) := [(⟨"TinStencilsModel", "skips", "(IIII)I"⟩, 65), (⟨"TinStencilsModel", "reads", "(II)V"⟩, 65), (⟨"TinStencilsModel", "unlike", "(IIII)I"⟩, 65), (⟨"TinStencilsModel", "takesIn", "(IIIII)V"⟩, 65), (⟨"TinStencilsModel", "leftOut", "(III)I"⟩, 65), (⟨"TinStencilsModel", "looseBy", "(II)I"⟩, 65), (⟨"TinStencilsModel", "keeps", "([II)V"⟩, 65), (⟨"TinStencilsModel", "fetches", "([II)V"⟩, 65)]
theorem lw_r9 : ∀ q ∈ lw_privs_9, lw_okq q := List.forall_mem_cons.mpr ⟨lw_p128, List.forall_mem_cons.mpr ⟨lw_p129, List.forall_mem_cons.mpr ⟨lw_p130, List.forall_mem_cons.mpr ⟨lw_p131, List.forall_mem_cons.mpr ⟨lw_p132, List.forall_mem_cons.mpr ⟨lw_p133, List.forall_mem_cons.mpr ⟨lw_p134, List.forall_mem_cons.mpr ⟨lw_p135, fun _ h => absurd h List.not_mem_nil⟩⟩⟩⟩⟩⟩⟩⟩
def lw_privs : List (MethodName × Nat) := lw_privs_1 ++ (lw_privs_2 ++ (lw_privs_3 ++ (lw_privs_4 ++ (lw_privs_5 ++ (lw_privs_6 ++ (lw_privs_7 ++ (lw_privs_8 ++ (lw_privs_9))))))))
def lw_tbl : List Cond := k2_sels lw_privs ++ tables_1
theorem lw_privs_ok : ∀ q ∈ lw_privs, lw_okq q := by
  show ∀ q ∈ lw_privs_1 ++ (lw_privs_2 ++ (lw_privs_3 ++ (lw_privs_4 ++ (lw_privs_5 ++ (lw_privs_6 ++ (lw_privs_7 ++ (lw_privs_8 ++ (lw_privs_9)))))))), lw_okq q
  exact List.forall_mem_append.mpr ⟨lw_r1, List.forall_mem_append.mpr ⟨lw_r2, List.forall_mem_append.mpr ⟨lw_r3, List.forall_mem_append.mpr ⟨lw_r4, List.forall_mem_append.mpr ⟨lw_r5, List.forall_mem_append.mpr ⟨lw_r6, List.forall_mem_append.mpr ⟨lw_r7, List.forall_mem_append.mpr ⟨lw_r8, lw_r9⟩⟩⟩⟩⟩⟩⟩⟩
end
section
/-! A SMALL MACHINE over pure worlds: cells by numbers, locals, stack; one step a row of a table. Its runs are what the proofs speak of; that a run of it is a run of the JVM's model is one theorem (part 04). -/
abbrev qz_E : Type := (FieldType × vp_A) ⊕ (Nat × List Value)
abbrev qz_H : Type := Nat → qz_E
/-- cells, how many are made, how many slots they have -/
abbrev qz_W : Type := qz_H × Nat × Nat
abbrev qz_R : Type := Option Value × qz_W
abbrev qz_L : Type := List (Option Value)
/-- a row: instruction and length; three numbers; two constants; what locals are kept (going on, jumping); numbers -/
abbrev qz_I : Type := (Instr × Nat) × (Nat × Nat × Nat) × (Int32 × Int64) × (List Bool × List Bool) × List Nat
abbrev qz_B : Type := List (Nat × List (Nat × qz_I))
abbrev qz_K : Type := Nat → Nat → qz_L → List Value → qz_W → Option qz_R
/-- the numbers from here on are cells that were there before: the script, STEP_X, STEP_Y, the text and its bytes -/
abbrev qz_old : Nat := 1000000
/-- the class's name by its number -/
def qz_cn : List String := ["TinStencils$Bridges", "TinStencils$Choosing", "TinStencils$Cutting", "TinStencils$Hanging", "TinStencils$Joining", "TinStencils$Parts", "TinStencils$Pile", "TinStencils$Reading", "TinStencils$Sheet", "TinStencils$Teller", "TinStencils$Tokens", "TinStencils", "TinStencilsModel"]
def qz_at {α : Type} : List α → Nat → Option α
  | [], _ => none
  | x :: _, 0 => some x
  | _ :: l, n + 1 => qz_at l n
def qz_lb : List (Nat × qz_I) → Nat → Option qz_I
  | [], _ => none
  | q :: r, pc => cond (Nat.beq pc q.1) (some q.2) (qz_lb r pc)
def qz_lk : qz_B → Nat → Option qz_I
  | [], _ => none
  | q :: r, pc => cond (Nat.ble q.1 pc) (qz_lk r pc) (qz_lb q.2 pc)
def qz_m : List Bool → qz_L → qz_L
  | [], L => L
  | _ :: _, [] => []
  | b :: bs, x :: L => cond b x none :: qz_m bs L
/-- a store: a long one place lower is no more -/
def qz_kl (L : qz_L) : Nat → qz_L
  | 0 => L
  | j + 1 => match qz_at L j with
    | some (some (.long _)) => L.set j none
    | _ => L
def qz_s1 (L : qz_L) (j : Nat) (v : Value) : qz_L := (qz_kl L j).set j (some v)
def qz_s2 (L : qz_L) (j : Nat) (v : Value) : qz_L := ((qz_kl L j).set j (some v)).set (j + 1) none
def qz_li (L : qz_L) (j : Nat) (f : Int32 → Option qz_R) : Option qz_R := match qz_at L j with
  | some (some (.int x)) => f x
  | _ => none
def qz_ll (L : qz_L) (j : Nat) (f : Int64 → Option qz_R) : Option qz_R := match qz_at L j with
  | some (some (.long x)) => f x
  | _ => none
def qz_la (L : qz_L) (j : Nat) (f : Value → Option qz_R) : Option qz_R := match qz_at L j with
  | some (some (.ref o)) => f (.ref o)
  | some (some .null) => f .null
  | _ => none
def qz_p1 (st : List Value) (f : Int32 → List Value → Option qz_R) : Option qz_R := match st with
  | .int x :: r => f x r
  | _ => none
def qz_p2 (st : List Value) (f : Int32 → Int32 → List Value → Option qz_R) : Option qz_R := match st with
  | .int y :: .int x :: r => f x y r
  | _ => none
def qz_q1 (st : List Value) (f : Int64 → List Value → Option qz_R) : Option qz_R := match st with
  | .long x :: r => f x r
  | _ => none
def qz_q2 (st : List Value) (f : Int64 → Int64 → List Value → Option qz_R) : Option qz_R := match st with
  | .long y :: .long x :: r => f x y r
  | _ => none
def qz_pa (st : List Value) (f : Value → List Value → Option qz_R) : Option qz_R := match st with
  | .ref o :: r => f (.ref o) r
  | .null :: r => f .null r
  | _ => none
def qz_pr (st : List Value) (f : Nat → List Value → Option qz_R) : Option qz_R := match st with
  | .ref o :: r => f o r
  | _ => none
/-- fields: an int's, a cell's -/
def qz_gi (h : qz_H) (o ci k : Nat) (f : Int32 → Option qz_R) : Option qz_R := match h o with
  | .inr (cj, fs) => cond (Nat.beq cj ci) (match qz_at fs k with
    | some (.int x) => f x
    | _ => none) none
  | _ => none
def qz_ga (h : qz_H) (o ci k : Nat) (f : Nat → Option qz_R) : Option qz_R := match h o with
  | .inr (cj, fs) => cond (Nat.beq cj ci) (match qz_at fs k with
    | some (.ref x) => f x
    | _ => none) none
  | _ => none
def qz_pf (w : qz_W) (o ci k : Nat) (v : Value) (f : qz_W → Option qz_R) : Option qz_R := match w.1 o with
  | .inr (cj, fs) => cond (Nat.beq cj ci) (f (va_up w.1 o (.inr (cj, fs.set k v)), w.2)) none
  | _ => none
def qz_ck (h : qz_H) (o ci : Nat) (f : Option qz_R) : Option qz_R := match h o with
  | .inr (cj, _) => cond (Nat.beq cj ci) f none
  | _ => none
/-- arrays; '.float' and '.double' mark int and byte arrays that were there before and are only read -/
def qz_ia (h : qz_H) (o : Nat) (j : Int32) (f : Int32 → Option qz_R) : Option qz_R := match h o with
  | .inl (.int, n, .inl g) => if j < 0 ∨ n ≤ j.toNatClampNeg then none else f (g j.toNatClampNeg)
  | .inl (.float, n, .inl g) => if j < 0 ∨ n ≤ j.toNatClampNeg then none else f (g j.toNatClampNeg)
  | _ => none
def qz_ba (h : qz_H) (o : Nat) (j : Int32) (f : Int32 → Option qz_R) : Option qz_R := match h o with
  | .inl (.byte, n, .inl g) => if j < 0 ∨ n ≤ j.toNatClampNeg then none else f (g j.toNatClampNeg)
  | .inl (.double, n, .inl g) => if j < 0 ∨ n ≤ j.toNatClampNeg then none else f (g j.toNatClampNeg)
  | _ => none
def qz_ja (h : qz_H) (o : Nat) (j : Int32) (f : Int64 → Option qz_R) : Option qz_R := match h o with
  | .inl (.long, n, .inr (.inl g)) => if j < 0 ∨ n ≤ j.toNatClampNeg then none else f (g j.toNatClampNeg)
  | _ => none
def qz_aa (h : qz_H) (o : Nat) (j : Int32) (f : Nat → Option qz_R) : Option qz_R := match h o with
  | .inl (.object _, n, .inr (.inr (.inr (.inr g)))) => if j < 0 ∨ n ≤ j.toNatClampNeg then none else match g j.toNatClampNeg with
    | some q => f q
    | none => none
  | _ => none
def qz_is (w : qz_W) (o : Nat) (j x : Int32) (f : qz_W → Option qz_R) : Option qz_R := match w.1 o with
  | .inl (.int, n, .inl g) => if j < 0 ∨ n ≤ j.toNatClampNeg then none else f (va_up w.1 o (.inl (.int, n, .inl (upd g j.toNatClampNeg x))), w.2)
  | _ => none
def qz_bs (w : qz_W) (o : Nat) (j x : Int32) (f : qz_W → Option qz_R) : Option qz_R := match w.1 o with
  | .inl (.byte, n, .inl g) => if j < 0 ∨ n ≤ j.toNatClampNeg then none else f (va_up w.1 o (.inl (.byte, n, .inl (upd g j.toNatClampNeg (vp_nar .byte x)))), w.2)
  | _ => none
def qz_js (w : qz_W) (o : Nat) (j : Int32) (x : Int64) (f : qz_W → Option qz_R) : Option qz_R := match w.1 o with
  | .inl (.long, n, .inr (.inl g)) => if j < 0 ∨ n ≤ j.toNatClampNeg then none else f (va_up w.1 o (.inl (.long, n, .inr (.inl (vp_updL g j.toNatClampNeg x)))), w.2)
  | _ => none
def qz_as (w : qz_W) (o : Nat) (j : Int32) (v : Nat) (f : qz_W → Option qz_R) : Option qz_R := match w.1 o with
  | .inl (.object C, n, .inr (.inr (.inr (.inr g)))) => if j < 0 ∨ n ≤ j.toNatClampNeg then none else match w.1 v with
    | .inr (ci, _) => if qz_at qz_cn ci = some C then f (va_up w.1 o (.inl (.object C, n, .inr (.inr (.inr (.inr (va_up g j.toNatClampNeg (some v))))))), w.2) else none
    | _ => none
  | _ => none
def qz_len (h : qz_H) (o : Nat) (f : Int32 → Option qz_R) : Option qz_R := match h o with
  | .inl (_, n, _) => f (nI n)
  | _ => none
/-- a call's arguments off the stack -/
def qz_sp : Nat → List Value → List Value → (List Value → List Value → Option qz_R) → Option qz_R
  | 0, st, as, f => f as st
  | _ + 1, [], _, _ => none
  | b + 1, v :: st, as, f => qz_sp b st (v :: as) f
def qz_sl : List Value → Nat → qz_L
  | [], n => List.replicate n none
  | .long x :: r, n => some (.long x) :: none :: qz_sl r n
  | v :: r, n => some v :: qz_sl r n
def qz_cat : List Value → Nat
  | [] => 0
  | v :: r => v.category + qz_cat r
def qz_r0 (o : Option qz_R) (f : qz_W → Option qz_R) : Option qz_R := match o with
  | some (none, w) => f w
  | _ => none
def qz_r1 (o : Option qz_R) (f : Int32 → qz_W → Option qz_R) : Option qz_R := match o with
  | some (some (.int x), w) => f x w
  | _ => none
def qz_r2 (o : Option qz_R) (f : Int64 → qz_W → Option qz_R) : Option qz_R := match o with
  | some (some (.long x), w) => f x w
  | _ => none
def qz_r3 (o : Option qz_R) (f0 : qz_W → Option qz_R) (f : Nat → qz_W → Option qz_R) : Option qz_R := match o with
  | some (some .null, w) => f0 w
  | some (some (.ref q), w) => f q w
  | _ => none
def qz_z (x : Int32) : Bool := Nat.ble x.toBitVec.toNat 1
def qz_sw (x : Int32) (f : Nat → Option qz_R) (d : Nat) : Nat → List Nat → Option qz_R
  | _, [] => f d
  | j, t :: ts => if x = nI j then f t else qz_sw x f d (j + 1) ts
def qz_bra (c : Jvm.ClassFile.Cond) (x y : Int32) (f g : Option qz_R) : Option qz_R := match c with
  | .eq => if x = y then f else g
  | .ne => if x = y then g else f
  | .lt => if x < y then f else g
  | .ge => if y ≤ x then f else g
  | .gt => if y < x then f else g
  | .le => if x ≤ y then f else g
end
section
/-- an array as it is made: by the kind of its elements -/
def qz_na (t : ArrayType) (n : Nat) : qz_E := match t with
  | .long => .inl (.long, n, .inr (.inl (fun _ => 0)))
  | .byte => .inl (.byte, n, .inl (fun _ => 0))
  | _ => .inl (.int, n, .inl (fun _ => 0))
def qz_nt (t : ArrayType) : Bool := match t with
  | .long => true
  | .byte => true
  | .int => true
  | _ => false
/-- fields as they are made: by their kinds (0: a number, 1: a cell) -/
def qz_nf : List Nat → List Value
  | [] => []
  | 0 :: l => .int 0 :: qz_nf l
  | _ :: l => .null :: qz_nf l
/-- a copy between two int arrays that are not the same cell, or within one -/
def qz_cp (w : qz_W) (o q : Nat) (sp dp n : Int32) (f : qz_W → Option qz_R) : Option qz_R := match w.1 o with
  | .inl (.int, n0, .inl g) => match w.1 q with
    | .inl (.int, n1, .inl g1) => if sp < 0 ∨ dp < 0 ∨ n < 0 ∨ n0 < sp.toNatClampNeg + n.toNatClampNeg ∨ n1 < dp.toNatClampNeg + n.toNatClampNeg then none else
        f (va_up w.1 q (.inl (.int, n1, .inl (va_cpy g g1 sp.toNatClampNeg dp.toNatClampNeg n.toNatClampNeg))), w.2)
    | _ => none
  | _ => none
/-- the return of a call: 0 nothing, 1 an int, 2 a long, else a cell or null -/
def qz_rt (c : Nat) (o : Option qz_R) (r : List Value) (f : List Value → qz_W → Option qz_R) : Option qz_R := match c with
  | 0 => qz_r0 o (fun w => f r w)
  | 1 => qz_r1 o (fun x w => f (.int x :: r) w)
  | 2 => qz_r2 o (fun x w => f (.long x :: r) w)
  | _ => qz_r3 o (fun w => f (.null :: r) w) (fun q w => f (.ref q :: r) w)
def qz_iv (go : qz_K) (a b c pad : Nat) (ck : Option Nat) (st : List Value) (w : qz_W) (f : List Value → qz_W → Option qz_R) : Option qz_R :=
  qz_sp b st [] (fun as r => cond (Nat.ble (qz_cat r) 8) (match ck with
    | none => qz_rt c (go a 0 (qz_sl as pad) [] w) r f
    | some ci => match as with
      | .ref o :: _ => qz_ck w.1 o ci (qz_rt c (go a 0 (qz_sl as pad) [] w) r f)
      | _ => none) none)
def qz_new (w : qz_W) (e : qz_E) (n : Nat) : qz_W := (va_up w.1 w.2.1 e, w.2.1 + 1, w.2.2 + n)
def qz_G (P : Nat → qz_B) (go : qz_K) (m pc : Nat) (L : qz_L) (st : List Value) (w : qz_W) : Option qz_R :=
  match qz_lk (P m) pc with
  | none => none
  | some ((i, n), (a, b, c), (k, kl), (mn, mt), tl) => match i with
    | .iconst _ => go m (pc + n) (qz_m mn L) (.int k :: st) w
    | .bipush _ => go m (pc + n) (qz_m mn L) (.int k :: st) w
    | .sipush _ => go m (pc + n) (qz_m mn L) (.int k :: st) w
    | .ldc _ => match c with
      | 0 => go m (pc + n) (qz_m mn L) (.int k :: st) w
      | _ => go m (pc + n) (qz_m mn L) (.ref a :: st) w
    | .ldc_w _ => go m (pc + n) (qz_m mn L) (.int k :: st) w
    | .lconst _ => go m (pc + n) (qz_m mn L) (.long kl :: st) w
    | .ldc2_w _ => go m (pc + n) (qz_m mn L) (.long kl :: st) w
    | .aconst_null => go m (pc + n) (qz_m mn L) (.null :: st) w
    | .iload j => qz_li L j (fun x => go m (pc + n) (qz_m mn L) (.int x :: st) w)
    | .iload_n j => qz_li L j.val (fun x => go m (pc + n) (qz_m mn L) (.int x :: st) w)
    | .lload j => qz_ll L j (fun x => go m (pc + n) (qz_m mn L) (.long x :: st) w)
    | .lload_n j => qz_ll L j.val (fun x => go m (pc + n) (qz_m mn L) (.long x :: st) w)
    | .aload j => qz_la L j (fun x => go m (pc + n) (qz_m mn L) (x :: st) w)
    | .aload_n j => qz_la L j.val (fun x => go m (pc + n) (qz_m mn L) (x :: st) w)
    | .istore j => qz_p1 st (fun x r => go m (pc + n) (qz_m mn (qz_s1 L j (.int x))) r w)
    | .istore_n j => qz_p1 st (fun x r => go m (pc + n) (qz_m mn (qz_s1 L j.val (.int x))) r w)
    | .lstore j => qz_q1 st (fun x r => go m (pc + n) (qz_m mn (qz_s2 L j (.long x))) r w)
    | .lstore_n j => qz_q1 st (fun x r => go m (pc + n) (qz_m mn (qz_s2 L j.val (.long x))) r w)
    | .astore j => qz_pa st (fun x r => go m (pc + n) (qz_m mn (qz_s1 L j x)) r w)
    | .astore_n j => qz_pa st (fun x r => go m (pc + n) (qz_m mn (qz_s1 L j.val x)) r w)
    | .iinc j _ => qz_li L j (fun x => go m (pc + n) (qz_m mn (qz_s1 L j (.int (x + k)))) st w)
    | .iadd => qz_p2 st (fun x y r => go m (pc + n) (qz_m mn L) (.int (x + y) :: r) w)
    | .isub => qz_p2 st (fun x y r => go m (pc + n) (qz_m mn L) (.int (x - y) :: r) w)
    | .imul => qz_p2 st (fun x y r => go m (pc + n) (qz_m mn L) (.int (x * y) :: r) w)
    | .iand => qz_p2 st (fun x y r => go m (pc + n) (qz_m mn L) (.int (x &&& y) :: r) w)
    | .ior => qz_p2 st (fun x y r => go m (pc + n) (qz_m mn L) (.int (x ||| y) :: r) w)
    | .ixor => qz_p2 st (fun x y r => go m (pc + n) (qz_m mn L) (.int (x ^^^ y) :: r) w)
    | .ishl => qz_p2 st (fun x y r => go m (pc + n) (qz_m mn L) (.int (x <<< (y &&& 31)) :: r) w)
    | .ishr => qz_p2 st (fun x y r => go m (pc + n) (qz_m mn L) (.int (x >>> (y &&& 31)) :: r) w)
    | .iushr => qz_p2 st (fun x y r => go m (pc + n) (qz_m mn L) (.int (x.toUInt32 >>> (y.toUInt32 &&& Int32.toUInt32 31)).toInt32 :: r) w)
    | .idiv => qz_p2 st (fun x y r => if y = 0 then none else go m (pc + n) (qz_m mn L) (.int (x / y) :: r) w)
    | .irem => qz_p2 st (fun x y r => if y = 0 then none else go m (pc + n) (qz_m mn L) (.int (x - x / y * y) :: r) w)
    | .ladd => qz_q2 st (fun x y r => go m (pc + n) (qz_m mn L) (.long (x + y) :: r) w)
    | .lsub => qz_q2 st (fun x y r => go m (pc + n) (qz_m mn L) (.long (x - y) :: r) w)
    | .lmul => qz_q2 st (fun x y r => go m (pc + n) (qz_m mn L) (.long (x * y) :: r) w)
    | .lor => qz_q2 st (fun x y r => go m (pc + n) (qz_m mn L) (.long (x ||| y) :: r) w)
    | .lcmp => qz_q2 st (fun x y r => go m (pc + n) (qz_m mn L) (.int (lg_cmp x y) :: r) w)
    | .lshl => qz_p1 st (fun y r => qz_q1 r (fun x r => go m (pc + n) (qz_m mn L) (.long (x <<< (y.toInt64 &&& 63)) :: r) w))
    | .i2l => qz_p1 st (fun x r => go m (pc + n) (qz_m mn L) (.long x.toInt64 :: r) w)
    | .i2b => qz_p1 st (fun x r => go m (pc + n) (qz_m mn L) (.int x.toInt8.toInt32 :: r) w)
    | .i2c => qz_p1 st (fun x r => go m (pc + n) (qz_m mn L) (.int (x.toUInt32 % 65536).toInt32 :: r) w)
    | .pop => match st with
      | v :: r => cond (Nat.beq v.category 1) (go m (pc + n) (qz_m mn L) r w) none
      | _ => none
    | .dup => match st with
      | v :: r => cond (Nat.beq v.category 1) (go m (pc + n) (qz_m mn L) (v :: v :: r) w) none
      | _ => none
    | .dup2 => match st with
      | v :: u :: r => cond (Nat.beq v.category 1 && Nat.beq u.category 1) (go m (pc + n) (qz_m mn L) (v :: u :: v :: u :: r) w) none
      | _ => none
    | .goto _ => go m a (qz_m mt L) st w
    | .if_icmp d _ => qz_p2 st (fun x y r => qz_bra d x y (go m a (qz_m mt L) r w) (go m (pc + n) (qz_m mn L) r w))
    | .ifCond d _ => qz_p1 st (fun x r => qz_bra d x 0 (go m a (qz_m mt L) r w) (go m (pc + n) (qz_m mn L) r w))
    | .ifnull _ => match st with
      | .null :: r => go m a (qz_m mt L) r w
      | .ref _ :: r => go m (pc + n) (qz_m mn L) r w
      | _ => none
    | .ifnonnull _ => match st with
      | .null :: r => go m (pc + n) (qz_m mn L) r w
      | .ref _ :: r => go m a (qz_m mt L) r w
      | _ => none
    | .tableswitch _ _ _ _ => qz_p1 st (fun x r => qz_sw x (fun t => go m t (qz_m mt L) r w) a b tl)
    | .getfield _ => match c with
      | 1 => qz_pr st (fun o r => qz_ga w.1 o a b (fun q => go m (pc + n) (qz_m mn L) (.ref q :: r) w))
      | _ => qz_pr st (fun o r => qz_gi w.1 o a b (fun x => go m (pc + n) (qz_m mn L) (.int x :: r) w))
    | .putfield _ => match c with
      | 1 => qz_pr st (fun q r => qz_pr r (fun o r => qz_pf w o a b (.ref q) (fun w => go m (pc + n) (qz_m mn L) r w)))
      | 2 => qz_p1 st (fun x r => qz_pr r (fun o r => cond (qz_z x) (qz_pf w o a b (.int x) (fun w => go m (pc + n) (qz_m mn L) r w)) none))
      | _ => qz_p1 st (fun x r => qz_pr r (fun o r => qz_pf w o a b (.int x) (fun w => go m (pc + n) (qz_m mn L) r w)))
    | .getstatic _ => match c with
      | 0 => go m (pc + n) (qz_m mn L) (.int k :: st) w
      | _ => go m (pc + n) (qz_m mn L) (.ref a :: st) w
    | .iaload => qz_p1 st (fun j r => qz_pr r (fun o r => qz_ia w.1 o j (fun x => go m (pc + n) (qz_m mn L) (.int x :: r) w)))
    | .baload => qz_p1 st (fun j r => qz_pr r (fun o r => qz_ba w.1 o j (fun x => go m (pc + n) (qz_m mn L) (.int x :: r) w)))
    | .laload => qz_p1 st (fun j r => qz_pr r (fun o r => qz_ja w.1 o j (fun x => go m (pc + n) (qz_m mn L) (.long x :: r) w)))
    | .aaload => qz_p1 st (fun j r => qz_pr r (fun o r => qz_aa w.1 o j (fun q => go m (pc + n) (qz_m mn L) (.ref q :: r) w)))
    | .iastore => qz_p2 st (fun j x r => qz_pr r (fun o r => qz_is w o j x (fun w => go m (pc + n) (qz_m mn L) r w)))
    | .bastore => qz_p2 st (fun j x r => qz_pr r (fun o r => qz_bs w o j x (fun w => go m (pc + n) (qz_m mn L) r w)))
    | .lastore => qz_q1 st (fun x r => qz_p1 r (fun j r => qz_pr r (fun o r => qz_js w o j x (fun w => go m (pc + n) (qz_m mn L) r w))))
    | .aastore => qz_pr st (fun v r => qz_p1 r (fun j r => qz_pr r (fun o r => qz_as w o j v (fun w => go m (pc + n) (qz_m mn L) r w))))
    | .arraylength => qz_pr st (fun o r => qz_len w.1 o (fun x => go m (pc + n) (qz_m mn L) (.int x :: r) w))
    | .newarray t => qz_p1 st (fun x r => if x < 0 ∨ 60000 < x.toNatClampNeg then none else cond (qz_nt t) (go m (pc + n) (qz_m mn L) (.ref w.2.1 :: r) (qz_new w (qz_na t x.toNatClampNeg) x.toNatClampNeg)) none)
    | .anewarray _ => qz_p1 st (fun x r => if x < 0 ∨ 60000 < x.toNatClampNeg then none else match qz_at qz_cn a with
      | none => none
      | some C => go m (pc + n) (qz_m mn L) (.ref w.2.1 :: r) (qz_new w (.inl (.object C, x.toNatClampNeg, .inr (.inr (.inr (.inr (fun _ => none)))))) x.toNatClampNeg))
    | .new _ => go m (pc + n) (qz_m mn L) (.ref w.2.1 :: st) (qz_new w (.inr (a, qz_nf tl)) b)
    | .invokevirtual _ => match tl with
      | [pad, ci] => qz_iv go a b c pad (some ci) st w (fun st w => go m (pc + n) (qz_m mn L) st w)
      | _ => none
    | .invokespecial _ => match tl with
      | [pad] => qz_iv go a b c pad none st w (fun st w => go m (pc + n) (qz_m mn L) st w)
      | [] => qz_pr st (fun _ r => cond (Nat.ble (qz_cat r) 8) (go m (pc + n) (qz_m mn L) r w) none)
      | _ => none
    | .invokestatic _ => match tl with
      | [pad] => qz_iv go a b c pad none st w (fun st w => go m (pc + n) (qz_m mn L) st w)
      | [] => match st with
        | .int z :: .int dp :: .ref q :: .int sp :: .ref o :: r => cond (Nat.ble (qz_cat r) 8) (qz_cp w o q sp dp z (fun w => go m (pc + n) (qz_m mn L) r w)) none
        | _ => none
      | _ => none
    | .ireturn => match st with
      | [.int x] => match c with
        | 1 => cond (qz_z x) (some (some (.int x), w)) none
        | 2 => if x = (x.toUInt32 % 65536).toInt32 then some (some (.int x), w) else none
        | 3 => if x = x.toInt8.toInt32 then some (some (.int x), w) else none
        | _ => some (some (.int x), w)
      | _ => none
    | .lreturn => match st with
      | [.long x] => some (some (.long x), w)
      | _ => none
    | .areturn => match st with
      | [.null] => some (some .null, w)
      | [.ref q] => some (some (.ref q), w)
      | _ => none
    | .return_ => match st with
      | [] => some (none, w)
      | _ => none
    | _ => none
def qz_x (P : Nat → qz_B) : Nat → qz_K
  | 0 => fun _ _ _ _ _ => none
  | f + 1 => qz_G P (qz_x P f)
end
